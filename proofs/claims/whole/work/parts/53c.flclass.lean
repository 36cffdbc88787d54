-- ===== bitsOf of the class =====
section BO
variable {E t : Nat}
theorem c2_nf : FP.fconst2 = nf 128 0 := by decide
theorem c1_nf : FP.fconst1 = nf 127 0 := by decide
theorem v2 : FP.Core.val32 FP.fconst2 = .fin false (2 ^ 23) (-22) := by decide +kernel
theorem v1 : FP.Core.val32 FP.fconst1 = .fin false (2 ^ 23) (-23) := by decide +kernel
theorem v23 : FP.Core.val32 1258291200 = .fin false (2 ^ 23) 0 := by decide +kernel
theorem nf_lt (h2 : E ≤ 254) (ht : t < 2 ^ 23) {E' : Nat} (h2' : E' ≤ 254) : (FP.fcmp (nf E t) (nf E' 0) = some .lt ↔ E < E') ∧ (FP.fcmp (nf E t) (nf E' 0) = some .eq ↔ E = E' ∧ t = 0) ∧ (FP.fcmp (nf E t) (nf E' 0) = some .gt ↔ E' < E ∨ (E' = E ∧ 0 < t)) := by
  obtain ⟨m1, m2, m3⟩ := FP.Core.mono_bits32 (a := nf E t) (b := nf E' 0) (nf_nn h2 ht) (nf_nn h2' (by decide)) (by rw [nf_nat h2 ht]; omega) (by rw [nf_nat h2' (by decide)]; omega)
  rw [nf_nat h2 ht, nf_nat h2' (by decide)] at m1 m2 m3
  exact ⟨m1.trans (by omega), m2.trans (by omega), m3.trans (by omega)⟩
theorem div2 (h1 : 2 ≤ E) (h2 : E ≤ 254) (ht : t < 2 ^ 23) : FP.fdiv (nf E t) FP.fconst2 = nf (E - 1) t := by
  refine nf_of (by omega) (by omega) ht ?_
  show FP.Core.val32 (FP.Core.fdiv _ _) = _
  rw [FP.Core.val32_fdiv, val_nf (by omega) h2 ht, v2]
  show FP.Core.roundRatio FP.Core.b32 false (2 ^ 23 + t) (2 ^ 23) ((E : Int) - 150 - (-22)) = _
  refine FP.Core.roundRatio_exact FP.Core.good_b32 (by decide) (nf_fits (by omega) (by omega) ht) ?_
  rw [show ((E : Int) - 150 - (-22) - (((E - 1 : Nat) : Int) - 150)).toNat = 23 by omega, show (((E - 1 : Nat) : Int) - 150 - ((E : Int) - 150 - (-22))).toNat = 0 by omega, Nat.pow_zero, Nat.mul_one]
theorem mul2 (h1 : 1 ≤ E) (h2 : E ≤ 253) (ht : t < 2 ^ 23) : FP.fmul (nf E t) FP.fconst2 = nf (E + 1) t := by
  refine nf_of (by omega) (by omega) ht ?_
  show FP.Core.val32 (FP.Core.fmul _ _) = _
  rw [FP.Core.val32_fmul, val_nf (by omega) (by omega) ht, v2]
  show FP.Core.roundRatio FP.Core.b32 false ((2 ^ 23 + t) * 2 ^ 23) 1 ((E : Int) - 150 + (-22)) = _
  refine FP.Core.roundRatio_exact FP.Core.good_b32 (by decide) (nf_fits (by omega) (by omega) ht) ?_
  rw [show ((E : Int) - 150 + (-22) - (((E + 1 : Nat) : Int) - 150)).toNat = 0 by omega, show (((E + 1 : Nat) : Int) - 150 - ((E : Int) - 150 + (-22))).toNat = 23 by omega, Nat.pow_zero, Nat.mul_one, Nat.mul_one]
/-- the part behind the point -/
theorem frac (ht : t < 2 ^ 23) : FP.Core.FFin (FP.fsub (nf 127 t) FP.fconst1) ∧ FP.Core.FFin (FP.fmul (FP.fsub (nf 127 t) FP.fconst1) 1258291200) ∧ FP.f2i (FP.fmul (FP.fsub (nf 127 t) FP.fconst1) 1258291200) = nI t := by
  have hs : FP.Core.val32 (FP.fsub (nf 127 t) FP.fconst1) = FP.Core.roundRatio FP.Core.b32 false t 1 (-23) := by
    show FP.Core.val32 (FP.Core.fsub _ _) = _
    rw [FP.Core.val32_fsub, val_nf (by decide) (by decide) ht, v1]
    have hu : FP.Core.sumUnits false (2 ^ 23 + t) (((127 : Nat) : Int) - 150) true (2 ^ 23) (-23) (min (((127 : Nat) : Int) - 150) (-23)) = (t : Int) := by
      unfold FP.Core.sumUnits FP.Core.inUnits FP.Core.signed
      rw [show min (((127 : Nat) : Int) - 150) (-23) = -23 by decide, show ((((127 : Nat) : Int) - 150) - (-23)).toNat = 0 by decide, show ((-23 : Int) - (-23)).toNat = 0 by decide]
      simp only [Bool.false_eq_true, if_false, if_true, Nat.pow_zero, Nat.mul_one]
      omega
    show FP.Core.round FP.Core.b32 (.fin (FP.Core.sumSign false true (FP.Core.sumUnits false (2 ^ 23 + t) (((127 : Nat) : Int) - 150) true (2 ^ 23) (-23) (min (((127 : Nat) : Int) - 150) (-23)))) (FP.Core.sumUnits false (2 ^ 23 + t) (((127 : Nat) : Int) - 150) true (2 ^ 23) (-23) (min (((127 : Nat) : Int) - 150) (-23))).natAbs (min (((127 : Nat) : Int) - 150) (-23))) = _
    rw [hu]
    have hsg : FP.Core.sumSign false true (t : Int) = false := by
      unfold FP.Core.sumSign
      split
      · rfl
      · exact decide_eq_false (by omega)
    rw [hsg]
    show FP.Core.roundRatio FP.Core.b32 false (t : Int).natAbs 1 (-23) = _
    rw [show ((t : Int)).natAbs = t from rfl]
  by_cases h0 : t = 0
  · subst h0
    have e1 : FP.Core.val32 (FP.fsub (nf 127 0) FP.fconst1) = .fin false 0 FP.Core.b32.qmin := hs
    have e2 : FP.Core.val32 (FP.fmul (FP.fsub (nf 127 0) FP.fconst1) 1258291200) = .fin false 0 FP.Core.b32.qmin := by
      show FP.Core.val32 (FP.Core.fmul _ _) = _
      rw [FP.Core.val32_fmul, e1, v23]
      rfl
    refine ⟨⟨_, _, _, e1⟩, ⟨_, _, _, e2⟩, ?_⟩
    refine FP.Core.f2i_int (a := nI 0) ?_
    show FP.Core.Whole _ (FP.Core.val32 _)
    rw [e2]
    show FP.Core.signed false (0 * 2 ^ FP.Core.b32.qmin.toNat) = (nI 0).toInt * ((2 ^ (-FP.Core.b32.qmin).toNat : Nat) : Int)
    rw [Nat.zero_mul, show (nI 0).toInt = 0 by decide, Int.zero_mul]
    rfl
  · have hk1 := Nat.log2_self_le h0
    have hk2 := Nat.lt_log2_self (n := t)
    generalize t.log2 = k at hk1 hk2
    have hk : k ≤ 22 := by
      by_cases q : k ≤ 22
      · exact q
      · exfalso
        have := Nat.pow_le_pow_right (n := 2) (by decide) (show 23 ≤ k by omega)
        omega
    have hp : 2 ^ k * 2 ^ (23 - k) = 2 ^ 23 := by rw [← Nat.pow_add]; congr 1; omega
    have hp2 : 2 ^ (k + 1) * 2 ^ (23 - k) = 2 ^ 24 := by rw [← Nat.pow_add]; congr 1; omega
    have c1 : 2 ^ 23 ≤ t * 2 ^ (23 - k) := by rw [← hp]; exact Nat.mul_le_mul_right _ hk1
    have c2 : t * 2 ^ (23 - k) < 2 ^ 24 := by rw [← hp2]; exact Nat.mul_lt_mul_of_pos_right hk2 (Nat.two_pow_pos _)
    have f1 : FP.Core.fits FP.Core.b32 (.fin false (t * 2 ^ (23 - k)) ((k : Int) - 46)) := ⟨c2, show (-149 : Int) ≤ _ by omega, show _ ≤ (104 : Int) by omega, Or.inr c1⟩
    have f2 : FP.Core.fits FP.Core.b32 (.fin false (t * 2 ^ (23 - k)) ((k : Int) - 23)) := ⟨c2, show (-149 : Int) ≤ _ by omega, show _ ≤ (104 : Int) by omega, Or.inr c1⟩
    have e1 : FP.Core.val32 (FP.fsub (nf 127 t) FP.fconst1) = .fin false (t * 2 ^ (23 - k)) ((k : Int) - 46) := by
      rw [hs]
      refine FP.Core.roundRatio_exact FP.Core.good_b32 (by decide) f1 ?_
      rw [show ((-23 : Int) - ((k : Int) - 46)).toNat = 23 - k by omega, show ((k : Int) - 46 - (-23)).toNat = 0 by omega, Nat.pow_zero, Nat.mul_one, Nat.mul_one]
    have e2 : FP.Core.val32 (FP.fmul (FP.fsub (nf 127 t) FP.fconst1) 1258291200) = .fin false (t * 2 ^ (23 - k)) ((k : Int) - 23) := by
      show FP.Core.val32 (FP.Core.fmul _ _) = _
      rw [FP.Core.val32_fmul, e1, v23]
      show FP.Core.roundRatio FP.Core.b32 false (t * 2 ^ (23 - k) * 2 ^ 23) 1 ((k : Int) - 46 + 0) = _
      refine FP.Core.roundRatio_exact FP.Core.good_b32 (by decide) f2 ?_
      rw [show ((k : Int) - 46 + 0 - ((k : Int) - 23)).toNat = 0 by omega, show ((k : Int) - 23 - ((k : Int) - 46 + 0)).toNat = 23 by omega, Nat.pow_zero, Nat.mul_one, Nat.mul_one]
    refine ⟨⟨_, _, _, e1⟩, ⟨_, _, _, e2⟩, ?_⟩
    refine FP.Core.f2i_int (a := nI t) ?_
    show FP.Core.Whole _ (FP.Core.val32 _)
    rw [e2, nI_toInt (by omega)]
    show FP.Core.signed false (t * 2 ^ (23 - k) * 2 ^ ((k : Int) - 23).toNat) = (t : Int) * ((2 ^ (-((k : Int) - 23)).toNat : Nat) : Int)
    rw [show ((k : Int) - 23).toNat = 0 by omega, show (-((k : Int) - 23)).toNat = 23 - k by omega, Nat.pow_zero, Nat.mul_one]
    show ((t * 2 ^ (23 - k) : Nat) : Int) = _
    rw [Int.natCast_mul]
theorem bo_67 {a : Nat} (ht : t < 2 ^ 23) (ha : a ≤ 254) : f_U_bitsOf_b67 (nI a) (nf 127 t) = some (nI (a * 2 ^ 23 + t)) := by
  obtain ⟨g1, g2, g3⟩ := frac ht
  unfold f_U_bitsOf_b67
  rw [if_pos (fin_gd g1), if_pos (fin_gd g2), g3, pk_shlN (n := a) _ 23 (by decide) (by omega), nI_or (by omega) (by omega), Nat.mul_comm a, ← Nat.two_pow_add_eq_or_of_lt (i := 23) ht]
theorem cmpl_lt {r : Option Ordering} : Op.cmpValue r .l < 0 ↔ r = none ∨ r = some .lt := by
  cases r with
  | none => decide
  | some o => cases o <;> decide
theorem cmpg_ge {r : Option Ordering} : 0 ≤ Op.cmpValue r .g ↔ ¬ r = some .lt := by
  cases r with
  | none => decide
  | some o => cases o <;> decide
theorem cmpl_gt {r : Option Ordering} : 0 < Op.cmpValue r .l ↔ r = some .gt := by
  cases r with
  | none => decide
  | some o => cases o <;> decide
/-- up to 1 -/
theorem bo_42 {E0 : Nat} (ht : t < 2 ^ 23) (hE0 : E0 ≤ 254) : ∀ (d i fuel : Nat), d ≤ 126 → d < fuel → i + d < 126 → f_U_bitsOf_l42 fuel (nI (E0 + d)) (nf (127 - d) t) (nI i) = some (nI (E0 * 2 ^ 23 + t)) := by
  intro d
  induction d with
  | zero =>
    intro i fuel h1 hf hi
    obtain ⟨k, rfl⟩ : ∃ k, fuel = k + 1 := ⟨fuel - 1, by omega⟩
    show f_U_bitsOf_l42B _ _ (nf 127 t) _ = _
    unfold f_U_bitsOf_l42B
    have hc : 0 ≤ Op.cmpValue (FP.fcmp (nf 127 t) FP.fconst1) .g := by
      rw [cmpg_ge, c1_nf, (nf_lt (E := 127) (by decide) ht (E' := 127) (by decide)).1]
      omega
    rw [if_neg (show ¬ (126 : Int32) ≤ nI i from nle (N := 126) (by omega) (by decide)), if_pos hc]
    exact bo_67 ht hE0
  | succ d ih =>
    intro i fuel h1 hf hi
    obtain ⟨k, rfl⟩ : ∃ k, fuel = k + 1 := ⟨fuel - 1, by omega⟩
    show f_U_bitsOf_l42B _ _ _ _ = _
    unfold f_U_bitsOf_l42B
    have hc : ¬ 0 ≤ Op.cmpValue (FP.fcmp (nf (127 - (d + 1)) t) FP.fconst1) .g := by
      rw [cmpg_ge, c1_nf, (nf_lt (E := 127 - (d + 1)) (by omega) ht (E' := 127) (by decide)).1]
      omega
    have hm : FP.fmul (nf (127 - (d + 1)) t) FP.fconst2 = nf (127 - d) t := by
      rw [mul2 (by omega) (by omega) ht, show 127 - (d + 1) + 1 = 127 - d by omega]
    rw [if_neg (show ¬ (126 : Int32) ≤ nI i from nle (N := 126) (by omega) (by decide)), if_neg hc, hm, if_pos (fin_gd (nf_fin (by omega) ht)), bn, nI_1, nI_m1 (by omega), show E0 + (d + 1) - 1 = E0 + d by omega]
    exact ih (i + 1) k (by omega) (by omega) (by omega)
/-- below 2 -/
theorem bo_15 {D : Nat} (ht : t < 2 ^ 23) (hD : D ≤ 100) : ∀ (d i fuel : Nat), d ≤ D → d < fuel → i + d < 127 → f_U_bitsOf_l15 fuel (nI (127 + D - d)) (nf (127 + d) t) (nI i) = some (nI ((127 + D) * 2 ^ 23 + t)) := by
  intro d
  induction d with
  | zero =>
    intro i fuel h1 hf hi
    obtain ⟨k, rfl⟩ : ∃ k, fuel = k + 1 := ⟨fuel - 1, by omega⟩
    show f_U_bitsOf_l15B _ _ (nf 127 t) _ = _
    unfold f_U_bitsOf_l15B f_U_bitsOf_b40
    have hc : Op.cmpValue (FP.fcmp (nf 127 t) FP.fconst2) .l < 0 := by
      rw [cmpl_lt, c2_nf]
      exact Or.inr ((nf_lt (E := 127) (by decide) ht (E' := 128) (by decide)).1.mpr (by decide))
    rw [if_neg (show ¬ (127 : Int32) ≤ nI i from nle (N := 127) (by omega) (by decide)), if_pos hc]
    exact bo_42 (E0 := 127 + D) ht (by omega) 0 0 FU (by decide) (fuL (by decide)) (by decide)
  | succ d ih =>
    intro i fuel h1 hf hi
    obtain ⟨k, rfl⟩ : ∃ k, fuel = k + 1 := ⟨fuel - 1, by omega⟩
    show f_U_bitsOf_l15B _ _ _ _ = _
    unfold f_U_bitsOf_l15B
    have hc : ¬ Op.cmpValue (FP.fcmp (nf (127 + (d + 1)) t) FP.fconst2) .l < 0 := by
      rw [cmpl_lt, c2_nf]
      rintro (q | q)
      · obtain ⟨o, ho⟩ := FP.Core.fcmp_of_notNaN (nf_fin (E := 127 + (d + 1)) (by omega) ht).notNaN (nf_fin (E := 128) (t := 0) (by decide) (by decide)).notNaN
        have q' : FP.Core.fcmp (nf (127 + (d + 1)) t) (nf 128 0) = none := q
        rw [q'] at ho
        cases ho
      · have := (nf_lt (E := 127 + (d + 1)) (by omega) ht (E' := 128) (by decide)).1.mp q
        omega
    have hm : FP.fdiv (nf (127 + (d + 1)) t) FP.fconst2 = nf (127 + d) t := by
      rw [div2 (by omega) (by omega) ht, show 127 + (d + 1) - 1 = 127 + d by omega]
    rw [if_neg (show ¬ (127 : Int32) ≤ nI i from nle (N := 127) (by omega) (by decide)), if_neg hc, hm, if_pos (fin_gd (nf_fin (by omega) ht)), bn, nI_1, nI_1, show 127 + D - (d + 1) + 1 = 127 + D - d by omega]
    exact ih (i + 1) k (by omega) (by omega) (by omega)
theorem bo_nf (h1 : 100 ≤ E) (h2 : E ≤ 200) (ht : t < 2 ^ 23) : f_U_bitsOf (nf E t) = some (nI (E * 2 ^ 23 + t)) := by
  have hg : 0 < Op.cmpValue (FP.fcmp (nf E t) FP.fconst0) .l := by
    rw [cmpl_gt, show FP.fconst0 = nf 0 0 by decide]
    exact (nf_lt (E := E) (by omega) ht (E' := 0) (by decide)).2.2.mpr (Or.inl (by omega))
  unfold f_U_bitsOf
  rw [if_pos hg]
  by_cases hE : 127 ≤ E
  · have := bo_15 (D := E - 127) ht (by omega) (E - 127) 0 FU (Nat.le_refl _) (fuL (by omega)) (by omega)
    rw [show 127 + (E - 127) - (E - 127) = 127 by omega, show 127 + (E - 127) = E by omega] at this
    exact this
  · obtain ⟨k, hk⟩ : ∃ k, FU = k + 1 := ⟨999, rfl⟩
    rw [hk]
    show f_U_bitsOf_l15B _ _ _ _ = _
    unfold f_U_bitsOf_l15B f_U_bitsOf_b40
    have hc : Op.cmpValue (FP.fcmp (nf E t) FP.fconst2) .l < 0 := by
      rw [cmpl_lt, c2_nf]
      exact Or.inr ((nf_lt (E := E) (by omega) ht (E' := 128) (by decide)).1.mpr (by omega))
    rw [if_neg (by decide), if_pos hc]
    have := bo_42 (E0 := E) ht (by omega) (127 - E) 0 FU (by omega) (fuL (by omega)) (by omega)
    rw [show E + (127 - E) = 127 by omega, show 127 - (127 - E) = E by omega] at this
    exact this
theorem bo_0 : f_U_bitsOf 0 = some 0 := by
  have hg : ¬ 0 < Op.cmpValue (FP.fcmp 0 FP.fconst0) .l := by
    rw [cmpl_gt, show FP.fconst0 = nf 0 0 by decide, show (0 : UInt32) = nf 0 0 by decide]
    intro q
    have := (nf_lt (E := 0) (t := 0) (by decide) (by decide) (E' := 0) (by decide)).2.2.mp q
    omega
  unfold f_U_bitsOf
  rw [if_neg hg]
end BO
theorem fl_bits {e : Nat} {f : UInt32} (hf : Nice e f) (he : e ≤ 200) : f_U_bitsOf f = some (UInt32.toInt32 f) := by
  rcases hf with h | ⟨E, t, h1, h2, h3, h4⟩
  · rw [h]; exact bo_0
  · rw [h4]
    exact bo_nf h1 (by omega) h3
theorem Nice.fin {e : Nat} {f : UInt32} (hf : Nice e f) (he : e ≤ 200) : FP.Core.FFin f := by
  rcases hf with h | ⟨E, t, h1, h2, h3, h4⟩
  · rw [h, show (0 : UInt32) = nf 0 0 by decide]; exact nf_fin (by decide) (by decide)
  · rw [h4]; exact nf_fin (E := E) (t := t) (by omega) h3
-- ===== the mean =====
theorem i2f_sh {S : Nat} (hS : S ≤ 2 ^ 24) : ∃ c q, FP.Core.val32 (FP.i2f (nI S)) = .fin false c q ∧ c * 2 ^ q.toNat = S * 2 ^ (-q).toNat := by
  obtain ⟨c, q, h⟩ := FP.Core.l2f_shape (nI S).toInt64
  rw [← FP.Core.i2f_l2f, Int32.toInt_toInt64, nI_toInt (by omega), show decide ((S : Int) < 0) = false from decide_eq_false (by omega)] at h
  have hw : FP.Core.FInt (nI S).toInt (FP.Core.i2f (nI S)) := FP.Core.i2f_int (by rw [nI_toInt (by omega)]; omega)
  unfold FP.Core.FInt at hw
  rw [h, nI_toInt (by omega)] at hw
  refine ⟨c, q, h, ?_⟩
  have hw2 : ((c * 2 ^ q.toNat : Nat) : Int) = (S : Int) * ((2 ^ (-q).toNat : Nat) : Int) := hw
  rw [← Int.natCast_mul] at hw2
  exact Int.ofNat.inj hw2
theorem fdiv_rr {S n : Nat} (hS : S ≤ 2 ^ 24) (hn : n ≤ 2 ^ 24) (h1 : 1 ≤ n) : FP.Core.val32 (FP.fdiv (FP.i2f (nI S)) (FP.i2f (nI n))) = FP.Core.roundRatio FP.Core.b32 false (S * 2 ^ 40) n (-40) := by
  obtain ⟨c, q, a1, a2⟩ := i2f_sh hS
  obtain ⟨d, r, b1, b2⟩ := i2f_sh hn
  have hd : d ≠ 0 := by
    rintro rfl
    rw [Nat.zero_mul] at b2
    have := Nat.mul_pos h1 (Nat.two_pow_pos (-r).toNat)
    omega
  show FP.Core.val32 (FP.Core.fdiv _ _) = _
  rw [FP.Core.val32_fdiv, a1, b1]
  show (if d = 0 then _ else FP.Core.roundRatio FP.Core.b32 false c d (q - r)) = _
  rw [if_neg hd]
  refine FP.Core.roundRatio_congr (Nat.pos_of_ne_zero hd) h1 ?_
  rw [show (q - r - (-40)).toNat = (q - r + 40).toNat by omega, show (-40 - (q - r)).toNat = (-(q - r + 40)).toNat by omega]
  have key : c * n * 2 ^ (q.toNat + (-r).toNat) = S * d * 2 ^ ((-q).toNat + r.toNat) := by
    rw [Nat.pow_add, Nat.pow_add]
    calc c * n * (2 ^ q.toNat * 2 ^ (-r).toNat) = (c * 2 ^ q.toNat) * (n * 2 ^ (-r).toNat) := by rw [Nat.mul_mul_mul_comm]
      _ = (S * 2 ^ (-q).toNat) * (d * 2 ^ r.toNat) := by rw [a2, b2]
      _ = S * d * (2 ^ (-q).toNat * 2 ^ r.toNat) := by rw [Nat.mul_mul_mul_comm]
  have hT : (q - r + 40).toNat + ((-q).toNat + r.toNat) = 40 + (-(q - r + 40)).toNat + (q.toNat + (-r).toNat) := by omega
  apply Nat.eq_of_mul_eq_mul_right (Nat.two_pow_pos (q.toNat + (-r).toNat))
  calc c * n * 2 ^ (q - r + 40).toNat * 2 ^ (q.toNat + (-r).toNat) = c * n * 2 ^ (q.toNat + (-r).toNat) * 2 ^ (q - r + 40).toNat := by rw [Nat.mul_right_comm]
    _ = S * d * 2 ^ ((-q).toNat + r.toNat) * 2 ^ (q - r + 40).toNat := by rw [key]
    _ = S * d * 2 ^ ((q - r + 40).toNat + ((-q).toNat + r.toNat)) := by rw [Nat.mul_assoc, ← Nat.pow_add, Nat.add_comm]
    _ = S * d * (2 ^ 40 * 2 ^ (-(q - r + 40)).toNat * 2 ^ (q.toNat + (-r).toNat)) := by rw [hT, Nat.pow_add, Nat.pow_add]
    _ = S * 2 ^ 40 * d * 2 ^ (-(q - r + 40)).toNat * 2 ^ (q.toNat + (-r).toNat) := by rw [← Nat.mul_assoc, ← Nat.mul_assoc, Nat.mul_right_comm S]
