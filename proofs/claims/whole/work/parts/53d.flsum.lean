theorem fdv_eq {f : UInt32} {N e : Nat} (hN : Nice e (UInt32.ofNat N)) (he : e ≤ 200) (h : FP.Core.val32 f = FP.Core.val32 (UInt32.ofNat N)) : f = UInt32.ofNat N := FP.Core.val32_inj (by rw [h]; exact (hN.fin he).ne_nan) h
theorem m40 (o : Nat) : (-40 : Int32) + nI o + 150 = nI (o + 110) := by
  rw [Int32.add_comm (-40), Int32.add_assoc, show (-40 : Int32) + 150 = nI 110 by decide, nI_add]
theorem fl_mean {S n : Nat} (h1 : 1 ≤ n) (hn : n ≤ 300) (hS : S ≤ 120000) : (FP.fdiv (FP.i2f (nI S)) (FP.i2f (nI n))) &&& 0x7fffffff ≤ 0x7f800000 ∧ Nice 144 (FP.fdiv (FP.i2f (nI S)) (FP.i2f (nI n))) ∧
    f_U_bitsOf (FP.fdiv (FP.i2f (nI S)) (FP.i2f (nI n))) = some (UInt32.toInt32 (FP.fdiv (FP.i2f (nI S)) (FP.i2f (nI n)))) ∧ f_Mo_divided (nI S) (nI n) = some (UInt32.toInt32 (FP.fdiv (FP.i2f (nI S)) (FP.i2f (nI n)))) := by
  have hrr := fdiv_rr (S := S) (n := n) (by omega) (by omega) h1
  generalize FP.fdiv (FP.i2f (nI S)) (FP.i2f (nI n)) = F at hrr
  have hm : ∃ N, F = UInt32.ofNat N ∧ Nice 144 (UInt32.ofNat N) ∧ f_Mo_divided (nI S) (nI n) = some (nI N) := by
    have hn0 : ¬ (Int32.toInt64 (nI n)) = 0 := by
      rw [nI_l (by omega), show (0 : Int64) = lN 0 from rfl, pk_lEQ (by omega) (by decide)]; omega
    have hX : (Int32.toInt64 (nI S)) <<< (Int32.toInt64 40 &&& 63) = lN (S * 2 ^ 40) := by
      rw [nI_l (by omega)]
      exact wb_shl S (k := 40) (by decide)
    have hy : lN (S * 2 ^ 40) / (Int32.toInt64 (nI n)) = lN (S * 2 ^ 40 / n) := by
      rw [nI_l (by omega)]
      exact pk_lDiv (by omega) h1 (by omega)
    have hyX := Nat.div_mul_le_self (S * 2 ^ 40) n
    have hcmp : (lg_cmp (lN (S * 2 ^ 40 / n) * (Int32.toInt64 (nI n))) (lN (S * 2 ^ 40)) = 0) ↔ S * 2 ^ 40 / n * n = S * 2 ^ 40 := by
      rw [nI_l (by omega), lN_mul, lg_cmp_eq, pk_lEQ (by omega) (by omega)]
    by_cases h0 : S = 0
    · subst h0
      refine ⟨0, ?_, Or.inl rfl, ?_⟩
      · refine FP.Core.val32_inj ?_ ?_
        · rw [hrr, Nat.zero_mul]; unfold FP.Core.roundRatio; rw [if_pos rfl]; intro q; cases q
        · rw [hrr, Nat.zero_mul]; unfold FP.Core.roundRatio; rw [if_pos rfl]; exact FP.Core.val32_zero.symm
      · have e0 : 0 * 2 ^ 40 / n = 0 := by rw [Nat.zero_mul, Nat.zero_div]
        unfold f_Mo_divided f_Mo_divided_b27 f_Mo_divided_b41
        rw [if_pos hn0, bn, hX, hy, if_pos (hcmp.mpr (by rw [e0, Nat.zero_mul, Nat.zero_mul])), if_pos rfl, e0]
        rfl
    · generalize hXX : S * 2 ^ 40 = X at *
      have hX1 : 2 ^ 40 ≤ X := by omega
      have hX2 : X < 2 ^ 57 := by omega
      have hy31 : 2 ^ 31 ≤ X / n := (Nat.le_div_iff_mul_le h1).mpr (by omega)
      have hy57 : X / n < 2 ^ 57 := Nat.lt_of_le_of_lt (Nat.div_le_self _ _) hX2
      obtain ⟨o, o1, o2, o3⟩ := log_o (m := X / n) (by omega)
      have oa : 8 ≤ o := by
        by_cases q : 8 ≤ o
        · exact q
        · exfalso
          have := Nat.pow_le_pow_right (n := 2) (by decide) (show o + 24 ≤ 31 by omega)
          omega
      have ob : o ≤ 33 := by
        by_cases q : o ≤ 33
        · exact q
        · exfalso
          have := Nat.pow_le_pow_right (n := 2) (by decide) (show 57 ≤ o + 23 by omega)
          omega
      have he2 : 2 ^ (o + 24) = 2 * 2 ^ (o + 23) := by rw [show o + 24 = (o + 23) + 1 by omega, Nat.pow_succ, Nat.mul_comm]
      obtain ⟨r1, r2, r3⟩ := rr_norm (X := X) (Y := n) (o := o) (E := o + 110) (e := -40) h1 (by
        rw [Nat.mul_comm]; exact (Nat.le_div_iff_mul_le h1).mp o2) (by
        rw [Nat.mul_comm]; exact (Nat.div_lt_iff_lt_mul h1).mp o3) (by omega) (by omega) (by omega)
      have hnice := nice_N (E := o + 110) (e := 144) r2 r3 (by omega) (Or.inl (by omega))
      refine ⟨(o + 110) * 2 ^ 23 + (FP.Core.nearest X (n * 2 ^ o) - 2 ^ 23), fdv_eq hnice (by decide) (by rw [hrr, r1]), hnice, ?_⟩
      have hst := sticky (X := X) (n := n) (o := o) h1 (by omega)
      unfold f_Mo_divided f_Mo_divided_b27 f_Mo_divided_b41
      rw [if_pos hn0, bn, hX, hy]
      by_cases c : X / n * n = X
      · rw [if_pos c] at hst
        rw [if_pos (hcmp.mpr c), if_pos rfl, mo_bits (o := o) o2 o3 o1 (by omega) (m40 o) (by omega), hst]
        rfl
      · rw [if_neg c] at hst
        have hor : lN (X / n) ||| 1 = lN (X / n ||| 1) := by
          rw [show (1 : Int64) = lN 1 from rfl, wb_or (by omega) (by decide)]
        rw [if_neg (fun q => c (hcmp.mp q)), if_neg (by decide), hor, mo_bits (o := o) (m := X / n ||| 1) (by rw [or1]; omega) (by rw [or1]; omega) o1 (by omega) (m40 o) (by omega), hst]
        rfl
  obtain ⟨N, e1, e2, e3⟩ := hm
  subst e1
  exact ⟨fin_gd (e2.fin (by decide)), e2, fl_bits e2 (by decide), e3⟩
-- ===== sums =====
theorem mo_add (x y : Nat) (hx : x < 2 ^ 31) (hy : y < 2 ^ 31) : f_Mo_added (nI x) (nI y) = if x ≤ y then f_Mo_added_b21 (nI y) (nI x) else f_Mo_added_b21 (nI x) (nI y) := by
  unfold f_Mo_added f_Mo_added_b10
  by_cases c : x ≤ y
  · rw [if_pos ((nI_leI hx hy).mpr c), if_pos c, if_pos ((nI_leI hx hy).mpr c)]
  · have c' : ¬ nI x ≤ nI y := fun q => c ((nI_leI hx hy).mp q)
    rw [if_neg c', if_neg c, if_neg c']
theorem add_nf {E F t u e : Nat} (hF : 100 ≤ F) (hFE : F ≤ E) (hE : E ≤ e) (he : e ≤ 160) (ht : t < 2 ^ 23) (hu : u < 2 ^ 23) : ∃ N, FP.fadd (nf E t) (nf F u) = UInt32.ofNat N ∧ Nice (e + 1) (UInt32.ofNat N) ∧ f_Mo_added_b21 (nI (E * 2 ^ 23 + t)) (nI (F * 2 ^ 23 + u)) = some (nI N) := by
  obtain ⟨d, rfl⟩ : ∃ d, E = F + d := ⟨E - F, by omega⟩
  have hpd := Nat.two_pow_pos d
  -- the exact sum
  have hsum : FP.Core.val32 (FP.fadd (nf (F + d) t) (nf F u)) = FP.Core.roundRatio FP.Core.b32 false ((2 ^ 23 + t) * 2 ^ d + (2 ^ 23 + u)) 1 ((F : Int) - 150) := by
    show FP.Core.val32 (FP.Core.fadd _ _) = _
    rw [FP.Core.val32_fadd, val_nf (by omega) (by omega) ht, val_nf (by omega) (by omega) hu]
    have hmin : min (((F + d : Nat) : Int) - 150) ((F : Int) - 150) = (F : Int) - 150 := by omega
    have hU : FP.Core.sumUnits false (2 ^ 23 + t) (((F + d : Nat) : Int) - 150) false (2 ^ 23 + u) ((F : Int) - 150) ((F : Int) - 150) = (((2 ^ 23 + t) * 2 ^ d + (2 ^ 23 + u) : Nat) : Int) := by
      unfold FP.Core.sumUnits FP.Core.inUnits FP.Core.signed
      rw [show (((F + d : Nat) : Int) - 150 - ((F : Int) - 150)).toNat = d by omega, show ((F : Int) - 150 - ((F : Int) - 150)).toNat = 0 by omega, Nat.pow_zero, Nat.mul_one]
      simp only [Bool.false_eq_true, if_false]
      rw [Int.natCast_add ((2 ^ 23 + t) * 2 ^ d) (2 ^ 23 + u)]
    show FP.Core.round FP.Core.b32 (.fin (FP.Core.sumSign false false (FP.Core.sumUnits false (2 ^ 23 + t) (((F + d : Nat) : Int) - 150) false (2 ^ 23 + u) ((F : Int) - 150) (min (((F + d : Nat) : Int) - 150) ((F : Int) - 150)))) (FP.Core.sumUnits false (2 ^ 23 + t) (((F + d : Nat) : Int) - 150) false (2 ^ 23 + u) ((F : Int) - 150) (min (((F + d : Nat) : Int) - 150) ((F : Int) - 150))).natAbs (min (((F + d : Nat) : Int) - 150) ((F : Int) - 150))) = _
    rw [hmin, hU]
    have hsg : ∀ v : Nat, FP.Core.sumSign false false (v : Int) = false := fun v => by
      unfold FP.Core.sumSign
      split
      · rfl
      · exact decide_eq_false (by omega)
    rw [hsg, Int.natAbs_natCast]
    rfl
  -- the bits of the two
  have s1 : nI ((F + d) * 2 ^ 23 + t) >>> (23 &&& 31) = nI (F + d) := by
    rw [pk_shrN (by omega) _ 23 (by decide), show ((F + d) * 2 ^ 23 + t) / 2 ^ 23 = F + d by omega]
  have s2 : nI (F * 2 ^ 23 + u) >>> (23 &&& 31) = nI F := by
    rw [pk_shrN (by omega) _ 23 (by decide), show (F * 2 ^ 23 + u) / 2 ^ 23 = F by omega]
  have mant : ∀ (A v : Nat), A ≤ 200 → v < 2 ^ 23 → Int32.toInt64 ((nI (A * 2 ^ 23 + v) &&& 8388607) ||| 8388608) = lN (2 ^ 23 + v) := fun A v hA hv => by
    rw [show (8388607 : Int32) = nI (2 ^ 23 - 1) from rfl, nI_and (by omega) (by decide), Nat.and_two_pow_sub_one_eq_mod, show (A * 2 ^ 23 + v) % 2 ^ 23 = v by omega, show (8388608 : Int32) = nI (2 ^ 23) from rfl, nI_or (by omega) (by decide), Nat.or_comm]
    have := Nat.two_pow_add_eq_or_of_lt (i := 23) hv 1
    rw [Nat.mul_one] at this
    rw [← this, nI_l (by omega)]
  have hn0 : ¬ nI (F * 2 ^ 23 + u) = 0 := nI_ne0 (by omega) (by omega)
  by_cases c : d ≤ 26
  · have hpd26 : 2 ^ d ≤ 2 ^ 26 := Nat.pow_le_pow_right (by decide) c
    have hA : 2 ^ 23 * 2 ^ d ≤ (2 ^ 23 + t) * 2 ^ d := Nat.mul_le_mul_right _ (by omega)
    have hB : (2 ^ 23 + t) * 2 ^ d ≤ (2 ^ 24 - 1) * 2 ^ d := Nat.mul_le_mul_right _ (by omega)
    generalize hm : (2 ^ 23 + t) * 2 ^ d + (2 ^ 23 + u) = m at *
    obtain ⟨o, o1, o2, o3⟩ := log_o (m := m) (by omega)
    have e25 : 2 ^ (d + 25) = 2 ^ 25 * 2 ^ d := by rw [Nat.pow_add, Nat.mul_comm]
    have oa : o ≤ d + 1 := by
      by_cases q : o ≤ d + 1
      · exact q
      · exfalso
        have := Nat.pow_le_pow_right (n := 2) (by decide) (show d + 25 ≤ o + 23 by omega)
        omega
    obtain ⟨r1, r2, r3⟩ := rr_norm (X := m) (Y := 1) (o := o) (E := F + o) (e := (F : Int) - 150) (by decide) (by rw [Nat.one_mul]; exact o2) (by rw [Nat.one_mul]; exact o3) (by omega) (by omega) (by omega)
    rw [Nat.one_mul] at r1 r2 r3
    have hnice := nice_N (E := F + o) (e := e + 1) r2 r3 (by omega) (by
      by_cases q : o = d + 1
      · refine Or.inr ⟨by omega, ?_⟩
        have := FP.Core.nearest_le (A := m) (B := 2 ^ o) (M := 2 ^ 24 - 1) (Nat.two_pow_pos o) (by
          rw [q, Nat.pow_succ]
          omega)
        omega
      · exact Or.inl (by omega))
    refine ⟨(F + o) * 2 ^ 23 + (FP.Core.nearest m (2 ^ o) - 2 ^ 23), fdv_eq hnice (by omega) (by rw [hsum, r1]), hnice, ?_⟩
    unfold f_Mo_added_b21
    rw [bn, s1, s2, if_neg hn0, pk_sub (by omega), show F + d - F = d by omega, if_pos (show nI d ≤ 26 from (nI_leI (b := 26) (by omega) (by decide)).mpr c), bn, bn, mant _ _ (by omega) ht, mant _ _ (by omega) hu, wb_shl _ (by omega), lN_add, hm]
    have hex : nI F - 150 + nI o + 150 = nI (F + o) := by
      rw [Int32.add_assoc, Int32.add_comm (nI o), ← Int32.add_assoc, Int32.sub_add_cancel, nI_add]
    rw [mo_bits (o := o) o2 o3 o1 (by omega) hex (by omega)]
    rfl
  · have hpd27 : 2 ^ 27 ≤ 2 ^ d := Nat.pow_le_pow_right (by decide) (by omega)
    have hA : 2 ^ 23 * 2 ^ d ≤ (2 ^ 23 + t) * 2 ^ d := Nat.mul_le_mul_right _ (by omega)
    have hB : (2 ^ 23 + t) * 2 ^ d ≤ (2 ^ 24 - 1) * 2 ^ d := Nat.mul_le_mul_right _ (by omega)
    obtain ⟨r1, r2, r3⟩ := rr_norm (X := (2 ^ 23 + t) * 2 ^ d + (2 ^ 23 + u)) (Y := 1) (o := d) (E := F + d) (e := (F : Int) - 150) (by decide) (by rw [Nat.one_mul, Nat.pow_add, Nat.mul_comm (2 ^ d)]; omega) (by rw [Nat.one_mul, Nat.pow_add, Nat.mul_comm (2 ^ d)]; omega) (by omega) (by omega) (by omega)
    rw [Nat.one_mul] at r1
    have hnear : FP.Core.nearest ((2 ^ 23 + t) * 2 ^ d + (2 ^ 23 + u)) (2 ^ d) = 2 ^ 23 + t := by
      unfold FP.Core.nearest
      have q1 : ((2 ^ 23 + t) * 2 ^ d + (2 ^ 23 + u)) % 2 ^ d = 2 ^ 23 + u := by
        rw [Nat.mul_add_mod_self_right]
        exact Nat.mod_eq_of_lt (by omega)
      have q2 : ((2 ^ 23 + t) * 2 ^ d + (2 ^ 23 + u)) / 2 ^ d = 2 ^ 23 + t := by
        rw [Nat.mul_comm, Nat.mul_add_div hpd, Nat.div_eq_of_lt (by omega), Nat.add_zero]
      rw [q1, q2, if_pos (by omega)]
    rw [hnear, show 2 ^ 23 + t - 2 ^ 23 = t by omega] at r1
    have hnice : Nice (e + 1) (UInt32.ofNat ((F + d) * 2 ^ 23 + t)) := Or.inr ⟨F + d, t, by omega, by omega, ht, rfl⟩
    refine ⟨(F + d) * 2 ^ 23 + t, fdv_eq hnice (by omega) (by rw [hsum, r1]), hnice, ?_⟩
    unfold f_Mo_added_b21 f_Mo_added_b44
    rw [bn, s1, s2, if_neg hn0, pk_sub (by omega), show F + d - F = d by omega, if_neg (show ¬ nI d ≤ 26 from fun q => c ((nI_leI (b := 26) (by omega) (by decide)).mp q))]
theorem add_0 {N : Nat} : f_Mo_added_b21 (nI N) (nI 0) = some (nI N) := by
  unfold f_Mo_added_b21 f_Mo_added_b44
  rw [bn, if_pos (show nI 0 = 0 from rfl)]
theorem fl_add {e : Nat} {f g : UInt32} (hf : Nice e f) (hg : Nice e g) (he : e ≤ 160) : (FP.fadd f g) &&& 0x7fffffff ≤ 0x7f800000 ∧ Nice (e + 1) (FP.fadd f g) ∧ f_Mo_added (UInt32.toInt32 f) (UInt32.toInt32 g) = some (UInt32.toInt32 (FP.fadd f g)) := by
  have mono : ∀ {x : UInt32}, Nice e x → Nice (e + 1) x := fun h => by
    rcases h with h | ⟨E, t, h1, h2, h3, h4⟩
    · exact Or.inl h
    · exact Or.inr ⟨E, t, h1, by omega, h3, h4⟩
  have hz : ∀ {x : UInt32}, Nice e x → FP.fadd x 0 = x := fun {x} h => by
    refine FP.Core.fadd_zero (h.fin (by omega)).ne_nan ?_
    rcases h with h | ⟨E, t, h1, h2, h3, h4⟩
    · rw [h]; decide
    · intro q
      have q2 := congrArg UInt32.toNat q
      rw [h4, show (UInt32.ofNat (E * 2 ^ 23 + t)).toNat = E * 2 ^ 23 + t from nf_nat (by omega) h3, show (FP.Core.fzeroNeg).toNat = 2147483648 by decide] at q2
      omega
  have main : ∃ N, N < 2 ^ 31 ∧ FP.fadd f g = UInt32.ofNat N ∧ Nice (e + 1) (UInt32.ofNat N) ∧ f_Mo_added (UInt32.toInt32 f) (UInt32.toInt32 g) = some (nI N) := by
    have bnd31 : ∀ {x : UInt32}, Nice e x → ∃ N, N < 2 ^ 31 ∧ x = UInt32.ofNat N := fun h => by
      rcases h with h | ⟨E, t, h1, h2, h3, h4⟩
      · exact ⟨0, by decide, h⟩
      · exact ⟨E * 2 ^ 23 + t, by omega, h4⟩
    have lt31 : ∀ {N : Nat}, N < 2 ^ 32 → Nice (e + 1) (UInt32.ofNat N) → N < 2 ^ 31 := fun {N} hN h => by
      rcases h with h | ⟨E, t, h1, h2, h3, h4⟩
      · have := congrArg UInt32.toNat h
        rw [UInt32.toNat_ofNat_of_lt' (show N < 4294967296 by omega)] at this
        have : N = 0 := this
        omega
      · have := congrArg UInt32.toNat h4
        rw [UInt32.toNat_ofNat_of_lt' (show N < 4294967296 by omega), show (UInt32.ofNat (E * 2 ^ 23 + t)).toNat = E * 2 ^ 23 + t from nf_nat (by omega) h3] at this
        omega
    have hf0 := hf
    have hg0 := hg
    rcases hg with hg | ⟨F, u, g1, g2, g3, g4⟩
    · subst hg
      obtain ⟨N, n1, n2⟩ := bnd31 hf0
      refine ⟨N, n1, by rw [hz hf0, n2], by rw [← n2]; exact mono hf0, ?_⟩
      rw [n2]
      show f_Mo_added (nI N) (nI 0) = _
      rw [mo_add N 0 n1 (by decide)]
      by_cases c : N ≤ 0
      · have : N = 0 := by omega
        rw [if_pos c, this, add_0]
      · rw [if_neg c, add_0]
    · rcases hf with hf | ⟨E, t, f1, f2, f3, f4⟩
      · subst hf
        have e2 : FP.fadd 0 g = g := by
          show FP.Core.fadd 0 g = g
          rw [FP.Core.fadd_comm]; exact hz hg0
        obtain ⟨N, n1, n2⟩ := bnd31 hg0
        refine ⟨N, n1, by rw [e2, n2], by rw [← n2]; exact mono hg0, ?_⟩
        rw [n2]
        show f_Mo_added (nI 0) (nI N) = _
        rw [mo_add 0 N (by decide) n1, if_pos (Nat.zero_le _), add_0]
      · subst f4 g4
        show ∃ N, N < 2 ^ 31 ∧ FP.fadd (nf E t) (nf F u) = UInt32.ofNat N ∧ Nice (e + 1) (UInt32.ofNat N) ∧ f_Mo_added (nI (E * 2 ^ 23 + t)) (nI (F * 2 ^ 23 + u)) = some (nI N)
        rw [mo_add _ _ (by omega) (by omega)]
        by_cases c : E * 2 ^ 23 + t ≤ F * 2 ^ 23 + u
        · obtain ⟨N, a1, a2, a3⟩ := add_nf (E := F) (F := E) (t := u) (u := t) (e := e) f1 (by omega) g2 he g3 f3
          rw [if_pos c]
          have a1' : FP.fadd (nf E t) (nf F u) = UInt32.ofNat N := by
            show FP.Core.fadd (nf E t) (nf F u) = _
            rw [FP.Core.fadd_comm]; exact a1
          refine ⟨N % 2 ^ 32, lt31 (Nat.mod_lt _ (by decide)) ?_, ?_, ?_, ?_⟩
          · rw [show UInt32.ofNat (N % 2 ^ 32) = UInt32.ofNat N from UInt32.toNat_inj.mp (by rw [UInt32.toNat_ofNat', UInt32.toNat_ofNat', Nat.mod_mod])]; exact a2
          · rw [a1', show UInt32.ofNat (N % 2 ^ 32) = UInt32.ofNat N from UInt32.toNat_inj.mp (by rw [UInt32.toNat_ofNat', UInt32.toNat_ofNat', Nat.mod_mod])]
          · rw [show UInt32.ofNat (N % 2 ^ 32) = UInt32.ofNat N from UInt32.toNat_inj.mp (by rw [UInt32.toNat_ofNat', UInt32.toNat_ofNat', Nat.mod_mod])]; exact a2
          · rw [a3, show nI N = UInt32.toInt32 (UInt32.ofNat N) from rfl, show UInt32.ofNat N = UInt32.ofNat (N % 2 ^ 32) from UInt32.toNat_inj.mp (by rw [UInt32.toNat_ofNat', UInt32.toNat_ofNat', Nat.mod_mod])]
            rfl
        · obtain ⟨N, a1, a2, a3⟩ := add_nf (E := E) (F := F) (t := t) (u := u) (e := e) g1 (by omega) f2 he f3 g3
          rw [if_neg c]
          refine ⟨N % 2 ^ 32, lt31 (Nat.mod_lt _ (by decide)) ?_, ?_, ?_, ?_⟩
          · rw [show UInt32.ofNat (N % 2 ^ 32) = UInt32.ofNat N from UInt32.toNat_inj.mp (by rw [UInt32.toNat_ofNat', UInt32.toNat_ofNat', Nat.mod_mod])]; exact a2
          · rw [a1, show UInt32.ofNat (N % 2 ^ 32) = UInt32.ofNat N from UInt32.toNat_inj.mp (by rw [UInt32.toNat_ofNat', UInt32.toNat_ofNat', Nat.mod_mod])]
          · rw [show UInt32.ofNat (N % 2 ^ 32) = UInt32.ofNat N from UInt32.toNat_inj.mp (by rw [UInt32.toNat_ofNat', UInt32.toNat_ofNat', Nat.mod_mod])]; exact a2
          · rw [a3, show nI N = UInt32.toInt32 (UInt32.ofNat N) from rfl, show UInt32.ofNat N = UInt32.ofNat (N % 2 ^ 32) from UInt32.toNat_inj.mp (by rw [UInt32.toNat_ofNat', UInt32.toNat_ofNat', Nat.mod_mod])]
            rfl
  obtain ⟨N, n0, n1, n2, n3⟩ := main
  rw [n1]
  exact ⟨fin_gd (n2.fin (by omega)), n2, n3⟩
