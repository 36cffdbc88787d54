-- ===== copy, write =====
theorem c_range {M : Mem} {o z p n : Nat} (hz : z ≤ 60) (h : M o 2 = nI z) (hp : p < 2 ^ 31) (hn : n < 2 ^ 31) : f_Sheet_hasRange o M (nI p) (nI n) = if p + n ≤ z then 1 else 0 := by
  unfold f_Sheet_hasRange f_Sheet_hasRange_b22
  rw [if_neg (nI_pos hp), if_neg (nI_pos hn), h]
  have e : (nI z - nI n).toInt = (z : Int) - n := by rw [sub_toInt (by rw [nI_toInt (by omega), nI_toInt hn]; omega) (by rw [nI_toInt (by omega), nI_toInt hn]; omega), nI_toInt (by omega), nI_toInt hn]
  by_cases c : p + n ≤ z
  · rw [if_pos c, if_neg]
    rw [i_lt, e, nI_toInt hp]
    omega
  · rw [if_neg c, if_pos]
    rw [i_lt, e, nI_toInt hp]
    omega
theorem add3_nI (a b c d : Nat) : nI a * nI b + nI c + nI d = nI (a * b + c + d) := by rw [pk_mul, nI_add, nI_add]
theorem m_cp1 {s p n z : Nat} {a3 a4 : Int32} (hs : s < 4) (hz : z ≤ 60) (hpn : p + n ≤ z) : ∀ (d i fuel : Nat) (M : Mem), d + i = n → d < fuel → (∀ k, k < i → M 123 k = M 122 (60 * s + p + k)) →
    ∃ M', f_Mo_copy_l120 fuel (nI s) (nI p) a3 a4 (nI n) (nI i) M = f_Mo_copy_l157 FU a3 a4 (nI n) 0 M' ∧ (∀ k, k < n → M' 123 k = M' 122 (60 * s + p + k)) ∧ Out (fun c k => c = 123) M M' := by
  intro d
  induction d with
  | zero =>
    intro i fuel M hi hf h
    obtain ⟨k, rfl⟩ : ∃ k, fuel = k + 1 := ⟨fuel - 1, by omega⟩
    have e : i = n := by omega
    subst e
    refine ⟨M, ?_, h, Out.rfl⟩
    show f_Mo_copy_l120B _ _ _ _ _ _ _ _ = _
    unfold f_Mo_copy_l120B
    rw [if_pos (Int32.le_refl _)]
  | succ d ih =>
    intro i fuel M hi hf h
    obtain ⟨k, rfl⟩ : ∃ k, fuel = k + 1 := ⟨fuel - 1, by omega⟩
    have hO : Out (fun c k => c = 123) M (mset M 123 i (M 122 (60 * s + p + i))) := Out.set rfl
    obtain ⟨M', b1, b2, b3⟩ := ih (i + 1) k (mset M 123 i (M 122 (60 * s + p + i))) (by omega) (by omega) (fun q hq => by
      rw [ms_c _ _ (show (122 : Nat) ≠ 123 by decide)]
      by_cases e : q = i
      · rw [e, ms_s]
      · rw [ms_k _ _ e]; exact h q (by omega))
    refine ⟨M', ?_, b2, hO.trans b3⟩
    rw [← b1]
    show f_Mo_copy_l120B _ _ _ _ _ _ _ _ = _
    unfold f_Mo_copy_l120B
    rw [if_neg (nle (by omega) (by omega)), show (60 : Int32) = nI 60 from rfl, add3_nI, if_pos (gin_t (by omega) (by decide)), if_pos (gin_t (by omega) (by decide)), bn, nI_clamp (by omega), nI_clamp (by omega), nI_1]
theorem m_cp2 {t q n z : Nat} (ht : t < 4) (hz : z ≤ 60) (hqn : q + n ≤ z) : ∀ (d i fuel : Nat) (M : Mem), d + i = n → d < fuel → (∀ k, k < i → M 122 (60 * t + q + k) = M 123 k) →
    ∃ M', f_Mo_copy_l157 fuel (nI t) (nI q) (nI n) (nI i) M = some (1, M') ∧ (∀ k, k < n → M' 122 (60 * t + q + k) = M 123 k) ∧ Out (fun c k => c = 122 ∧ 60 * t + q ≤ k ∧ k < 60 * t + q + n) M M' := by
  intro d
  induction d with
  | zero =>
    intro i fuel M hi hf h
    obtain ⟨k, rfl⟩ : ∃ k, fuel = k + 1 := ⟨fuel - 1, by omega⟩
    have e : i = n := by omega
    subst e
    refine ⟨M, ?_, h, Out.rfl⟩
    show f_Mo_copy_l157B _ _ _ _ _ _ = _
    unfold f_Mo_copy_l157B
    rw [if_pos (Int32.le_refl _)]
  | succ d ih =>
    intro i fuel M hi hf h
    obtain ⟨k, rfl⟩ : ∃ k, fuel = k + 1 := ⟨fuel - 1, by omega⟩
    have hO : Out (fun c k => c = 122 ∧ 60 * t + q ≤ k ∧ k < 60 * t + q + n) M (mset M 122 (60 * t + q + i) (M 123 i)) := Out.set ⟨rfl, by omega, by omega⟩
    obtain ⟨M', b1, b2, b3⟩ := ih (i + 1) k (mset M 122 (60 * t + q + i) (M 123 i)) (by omega) (by omega) (fun r hr => by
      rw [ms_c _ _ (show (123 : Nat) ≠ 122 by decide)]
      by_cases e : r = i
      · rw [e, ms_s]
      · rw [ms_k _ _ (by omega)]; exact h r (by omega))
    refine ⟨M', ?_, fun r hr => by rw [b2 r hr, ms_c _ _ (show (123 : Nat) ≠ 122 by decide)], hO.trans b3⟩
    rw [← b1]
    show f_Mo_copy_l157B _ _ _ _ _ _ = _
    unfold f_Mo_copy_l157B
    rw [if_neg (nle (by omega) (by omega)), if_pos (gin_t (by omega) (by decide)), show (60 : Int32) = nI 60 from rfl, add3_nI, if_pos (gin_t (by omega) (by decide)), bn, nI_clamp (by omega), nI_clamp (by omega), nI_1]
section SHT
variable {D : DT} {M : Mem}
theorem op_copy (h : IV D M) (a b c d e : Int32) : OK2 (f_U_copy M a b c d e) (fun M1 => f_Mo_copy M1 a b c d e) := by
  rcases wi a (n := 4) (by decide) (by decide) with ⟨w1, w2⟩ | ⟨s, hs, rfl, w1, w2⟩
  · exact ⟨-2, M, M, by unfold f_U_copy; rw [show f_U_within a 4 = 0 from w1, if_pos rfl]; rfl, by show f_Mo_copy M a b c d e = _; unfold f_Mo_copy; rw [show f_Mo_isSheet a = 0 from w2, if_pos rfl]; rfl, D, h⟩
  · have w1' : ¬ f_U_within (nI s) 4 = 0 := w1
    have w2' : ¬ f_Mo_isSheet (nI s) = 0 := w2
    rcases wi c (n := 4) (by decide) (by decide) with ⟨y1, y2⟩ | ⟨t, ht, rfl, y1, y2⟩
    · exact ⟨-2, M, M, by unfold f_U_copy; rw [if_neg w1', show f_U_within c 4 = 0 from y1, if_pos rfl]; rfl, by show f_Mo_copy M (nI s) b c d e = _; unfold f_Mo_copy; rw [if_neg w2', show f_Mo_isSheet c = 0 from y2, if_pos rfl]; rfl, D, h⟩
    · have y1' : ¬ f_U_within (nI t) 4 = 0 := y1
      have y2' : ¬ f_Mo_isSheet (nI t) = 0 := y2
      have hgs : gin (nI s) 4 := gin_t hs (by decide)
      have ecs : (nI s).toNatClampNeg = s := nI_clamp (by omega)
      have hgt : gin (nI t) 4 := gin_t ht (by decide)
      have ect : (nI t).toNatClampNeg = t := nI_clamp (by omega)
      have eU : f_U_copy M (nI s) b (nI t) d e = if f_Sheet_isLost (19 + 2 * s) M = 0 then (if f_Sheet_isLost (19 + 2 * t) M = 0 then (if M (19 + 2 * s) 1 = M (19 + 2 * t) 1 then (if f_Sheet_hasRange (19 + 2 * s) M b e = 0 then some ((-10) - 2, mset M 0 7 2) else if f_Sheet_hasRange (19 + 2 * t) M d e = 0 then some ((-10) - 2, mset M 0 7 2) else if (¬ b < 0 ∧ ¬ d < 0 ∧ ¬ e < 0 ∧ b.toNatClampNeg + e.toNatClampNeg ≤ 60 ∧ d.toNatClampNeg + e.toNatClampNeg ≤ 60) then some (1, mcpy M (19 + 2 * s + 1) b.toNatClampNeg (19 + 2 * t + 1) d.toNatClampNeg e.toNatClampNeg) else none) else some ((-10) - 4, mset M 0 7 4)) else some ((-10) - 1, mset M 0 7 1)) else some ((-10) - 1, mset M 0 7 1) := by
        unfold f_U_copy
        rw [if_neg w1', if_neg y1']
        simp only [if_pos hgs, if_pos hgt]
        rw [ecs, ect]
        rfl
      have eM : ∀ N, f_Mo_copy N (nI s) b (nI t) d e = if N 119 s = 0 then some ((-10) - 1, mset N 91 43 1) else if N 119 t = 0 then some ((-10) - 1, mset N 91 43 1) else if N 120 s = N 120 t then (if b < 0 then some ((-10) - 2, mset N 91 43 2) else if d < 0 then some ((-10) - 2, mset N 91 43 2) else if e < 0 then some ((-10) - 2, mset N 91 43 2) else if 0 < (lg_cmp ((Int32.toInt64 b) + (Int32.toInt64 e)) (Int32.toInt64 (N 121 s))) then some ((-10) - 2, mset N 91 43 2) else if (lg_cmp ((Int32.toInt64 d) + (Int32.toInt64 e)) (Int32.toInt64 (N 121 t))) ≤ 0 then f_Mo_copy_l120 FU (nI s) b (nI t) d e 0 N else some ((-10) - 2, mset N 91 43 2)) else some ((-10) - 4, mset N 91 43 4) := fun N => by
        unfold f_Mo_copy
        rw [if_neg w2', if_neg y2']
        simp only [if_pos hgs, if_pos hgt]
        rw [ecs, ect]
        rfl
      unfold OK2
      simp only [eM]
      rw [eU]
      -- a finding x on both sides
      have fin : ∀ x : Int32, IV D (mset (mset M 0 7 x) 91 43 x) := fun x => h.fnd x
      have k0 : ∀ (x : Int32) (c k : Nat), c ≠ 0 → mset M 0 7 x c k = M c k := fun x c k hc => ms_c _ _ hc
      rcases h.2.2.2.2.2.2.2 s hs with ⟨q1, q2⟩ | ⟨q1, f, z, q2, q3, q4, q5, q6, q7, q8⟩
      · rw [if_neg (isLost_y q1)]
        refine ⟨(-10) - 1, mset M 0 7 1, mset (mset M 0 7 1) 91 43 1, rfl, ?_, D, fin 1⟩
        rw [k0 1 119 s (by decide), q2, if_pos rfl]
      · rw [if_pos (isLost_n q4 (nI_nm1 (by omega)))]
        rcases h.2.2.2.2.2.2.2 t ht with ⟨r1, r2⟩ | ⟨r1, f', z', r2, r3, r4, r5, r6, r7, r8⟩
        · rw [if_neg (isLost_y r1)]
          refine ⟨(-10) - 1, mset M 0 7 1, mset (mset M 0 7 1) 91 43 1, rfl, ?_, D, fin 1⟩
          rw [k0 1 119 s (by decide), k0 1 119 t (by decide), q1, r2, if_neg (by decide), if_pos rfl]
        · rw [if_pos (isLost_n r4 (nI_nm1 (by omega))), q4, r4]
          by_cases hff : nI f = nI f'
          · rw [if_pos hff]
            have bad : ∃ M2, (if mset M 0 7 2 119 s = 0 then some ((-10) - 1, mset (mset M 0 7 2) 91 43 1) else if mset M 0 7 2 119 t = 0 then some ((-10) - 1, mset (mset M 0 7 2) 91 43 1) else if mset M 0 7 2 120 s = mset M 0 7 2 120 t then (some ((-10) - 2, mset (mset M 0 7 2) 91 43 2) : Option (Int32 × Mem)) else some ((-10) - 4, mset (mset M 0 7 2) 91 43 4)) = some ((-10) - 2, M2) ∧ ∃ D, IV D M2 := ⟨mset (mset M 0 7 2) 91 43 2, by rw [k0 2 119 s (by decide), k0 2 119 t (by decide), k0 2 120 s (by decide), k0 2 120 t (by decide), q1, r1, q5, r5, if_neg (by decide), if_neg (by decide), if_pos hff], D, fin 2⟩
            have badN : ∀ (X : Mem → Option (Int32 × Mem)), X (mset M 0 7 2) = some ((-10) - 2, mset (mset M 0 7 2) 91 43 2) → ∃ v M1 M2, (some ((-10) - 2, mset M 0 7 2) : Option (Int32 × Mem)) = some (v, M1) ∧ (if M1 119 s = 0 then some ((-10) - 1, mset M1 91 43 1) else if M1 119 t = 0 then some ((-10) - 1, mset M1 91 43 1) else if M1 120 s = M1 120 t then X M1 else some ((-10) - 4, mset M1 91 43 4)) = some (v, M2) ∧ ∃ D, IV D M2 := by
              intro X hX
              refine ⟨(-10) - 2, mset M 0 7 2, mset (mset M 0 7 2) 91 43 2, rfl, ?_, D, fin 2⟩
              rw [k0 2 119 s (by decide), k0 2 119 t (by decide), k0 2 120 s (by decide), k0 2 120 t (by decide), q1, r1, q5, r5, if_neg (by decide), if_neg (by decide), if_pos hff, hX]
            by_cases cb : b < 0
            · have e1 : f_Sheet_hasRange (19 + 2 * s) M b e = 0 := by unfold f_Sheet_hasRange; rw [if_pos cb]; rfl
              rw [if_pos e1]
              exact badN (fun N => if b < 0 then some ((-10) - 2, mset N 91 43 2) else if d < 0 then some ((-10) - 2, mset N 91 43 2) else if e < 0 then some ((-10) - 2, mset N 91 43 2) else if 0 < (lg_cmp ((Int32.toInt64 b) + (Int32.toInt64 e)) (Int32.toInt64 (N 121 s))) then some ((-10) - 2, mset N 91 43 2) else if (lg_cmp ((Int32.toInt64 d) + (Int32.toInt64 e)) (Int32.toInt64 (N 121 t))) ≤ 0 then f_Mo_copy_l120 FU (nI s) b (nI t) d e 0 N else some ((-10) - 2, mset N 91 43 2)) (by simp only [if_pos cb])
            · obtain ⟨p, hp, rfl⟩ := nI_of cb
              by_cases ce : e < 0
              · have e1 : f_Sheet_hasRange (19 + 2 * s) M (nI p) e = 0 := by unfold f_Sheet_hasRange; rw [if_neg cb, if_pos ce]; rfl
                rw [if_pos e1]
                refine badN (fun N => if nI p < 0 then some ((-10) - 2, mset N 91 43 2) else if d < 0 then some ((-10) - 2, mset N 91 43 2) else if e < 0 then some ((-10) - 2, mset N 91 43 2) else if 0 < (lg_cmp ((Int32.toInt64 (nI p)) + (Int32.toInt64 e)) (Int32.toInt64 (N 121 s))) then some ((-10) - 2, mset N 91 43 2) else if (lg_cmp ((Int32.toInt64 d) + (Int32.toInt64 e)) (Int32.toInt64 (N 121 t))) ≤ 0 then f_Mo_copy_l120 FU (nI s) (nI p) (nI t) d e 0 N else some ((-10) - 2, mset N 91 43 2)) ?_
                simp only [if_neg cb, if_pos ce]
                split <;> rfl
              · obtain ⟨n, hn, rfl⟩ := nI_of ce
                rw [c_range q3 q6 hp hn]
                by_cases cd : d < 0
                · have e1 : f_Sheet_hasRange (19 + 2 * t) M d (nI n) = 0 := by unfold f_Sheet_hasRange; rw [if_pos cd]; rfl
                  have e2 : (if (if p + n ≤ z then (1 : Int32) else 0) = 0 then (some ((-10) - 2, mset M 0 7 2) : Option (Int32 × Mem)) else if f_Sheet_hasRange (19 + 2 * t) M d (nI n) = 0 then some ((-10) - 2, mset M 0 7 2) else if (¬ nI p < 0 ∧ ¬ d < 0 ∧ ¬ nI n < 0 ∧ (nI p).toNatClampNeg + (nI n).toNatClampNeg ≤ 60 ∧ d.toNatClampNeg + (nI n).toNatClampNeg ≤ 60) then some (1, mcpy M (19 + 2 * s + 1) (nI p).toNatClampNeg (19 + 2 * t + 1) d.toNatClampNeg (nI n).toNatClampNeg) else none) = some ((-10) - 2, mset M 0 7 2) := by
                    rw [if_pos e1]; split <;> rfl
                  rw [e2]
                  refine badN (fun N => if nI p < 0 then some ((-10) - 2, mset N 91 43 2) else if d < 0 then some ((-10) - 2, mset N 91 43 2) else if nI n < 0 then some ((-10) - 2, mset N 91 43 2) else if 0 < (lg_cmp ((Int32.toInt64 (nI p)) + (Int32.toInt64 (nI n))) (Int32.toInt64 (N 121 s))) then some ((-10) - 2, mset N 91 43 2) else if (lg_cmp ((Int32.toInt64 d) + (Int32.toInt64 (nI n))) (Int32.toInt64 (N 121 t))) ≤ 0 then f_Mo_copy_l120 FU (nI s) (nI p) (nI t) d (nI n) 0 N else some ((-10) - 2, mset N 91 43 2)) ?_
                  simp only [if_neg cb, if_pos cd]
                · obtain ⟨q, hq, rfl⟩ := nI_of cd
                  rw [c_range r3 r6 hq hn]
                  have g1 : ∀ N : Mem, N 121 s = nI z → ((0 < lg_cmp ((Int32.toInt64 (nI p)) + (Int32.toInt64 (nI n))) (Int32.toInt64 (N 121 s))) ↔ z < p + n) := fun N hN => by
                    rw [hN, nI_l hp, nI_l hn, nI_l (by omega), lN_add, lg_cmp_gt, pk_lLT (by omega) (by omega)]
                  have g2 : ∀ N : Mem, N 121 t = nI z' → ((lg_cmp ((Int32.toInt64 (nI q)) + (Int32.toInt64 (nI n))) (Int32.toInt64 (N 121 t)) ≤ 0) ↔ q + n ≤ z') := fun N hN => by
                    rw [hN, nI_l hq, nI_l hn, nI_l (by omega), lN_add, lg_cmp_le, pk_lLE (by omega) (by omega)]
                  by_cases c1 : p + n ≤ z
                  · by_cases c2 : q + n ≤ z'
                    · have hcond : (¬ nI p < 0 ∧ ¬ nI q < 0 ∧ ¬ nI n < 0 ∧ (nI p).toNatClampNeg + (nI n).toNatClampNeg ≤ 60 ∧ (nI q).toNatClampNeg + (nI n).toNatClampNeg ≤ 60) := by
                        rw [nI_clamp hp, nI_clamp hn, nI_clamp hq]
                        exact ⟨cb, cd, ce, by omega, by omega⟩
                      rw [if_pos c1, if_neg (by decide), if_pos c2, if_neg (by decide), if_pos hcond, nI_clamp hp, nI_clamp hn, nI_clamp hq, show 19 + 2 * s + 1 = 20 + 2 * s by omega, show 19 + 2 * t + 1 = 20 + 2 * t by omega]
                      have hm : ∀ c k, c ≠ 20 + 2 * t → mcpy M (20 + 2 * s) p (20 + 2 * t) q n c k = M c k := fun c k hc => by unfold mcpy; rw [if_neg hc]
                      have hmb : ∀ k, mcpy M (20 + 2 * s) p (20 + 2 * t) q n (20 + 2 * t) k = va_cpy (M (20 + 2 * s)) (M (20 + 2 * t)) p q n k := fun k => by unfold mcpy; rw [if_pos rfl]
                      generalize mcpy M (20 + 2 * s) p (20 + 2 * t) q n = M1 at hm hmb
                      obtain ⟨M2, a1, a2, a3⟩ := m_cp1 (a3 := nI t) (a4 := nI q) hs q3 c1 n 0 FU M1 rfl (fuL (by omega)) (fun k hk => absurd hk (Nat.not_lt_zero k))
                      obtain ⟨M3, b1, b2, b3⟩ := m_cp2 ht r3 c2 n 0 FU M2 rfl (fuL (by omega)) (fun k hk => absurd hk (Nat.not_lt_zero k))
                      have o : Out (ShP t) M M3 := fun c k w => by
                        rw [b3 _ _ (fun r => w (by unfold ShP; omega)), a3 _ _ (fun r => w (by unfold ShP; omega)), hm _ _ (fun r => w (by unfold ShP; omega))]
                      refine ⟨1, M1, M3, rfl, ?_, D, h.sh ht o (Or.inr ⟨?_, f', z', r2, r3, ?_, ?_, ?_, ?_, fun k hk => ?_⟩)⟩
                      · rw [hm 119 s (by omega), hm 119 t (by omega), hm 120 s (by omega), hm 120 t (by omega), q1, r1, q5, r5, if_neg (by decide), if_neg (by decide), if_pos hff, if_neg cb, if_neg cd, if_neg ce, if_neg (fun w => by have := (g1 M1 (by rw [hm _ _ (by omega)]; exact q7)).mp w; omega), if_pos ((g2 M1 (by rw [hm _ _ (by omega)]; exact r7)).mpr c2)]
                        exact a1.trans b1
                      · rw [b3 _ _ (by omega), a3 _ _ (by omega), hm _ _ (by omega)]; exact r1
                      · rw [b3 _ _ (by omega), a3 _ _ (by omega), hm _ _ (by omega)]; exact r4
                      · rw [b3 _ _ (by omega), a3 _ _ (by omega), hm _ _ (by omega)]; exact r5
                      · rw [b3 _ _ (by omega), a3 _ _ (by omega), hm _ _ (by omega)]; exact r6
                      · rw [b3 _ _ (by omega), a3 _ _ (by omega), hm _ _ (by omega)]; exact r7
                      · rw [b3 _ _ (by omega), a3 _ _ (by omega), hmb]
                        by_cases ck : q ≤ k ∧ k < q + n
                        · rw [pk_cpy_in ck.1 ck.2, show 60 * t + k = 60 * t + q + (k - q) by omega, b2 _ (by omega), a2 _ (by omega), a3 _ _ (by omega), hm _ _ (by omega), q8 _ (by omega), show 60 * s + (p + (k - q)) = 60 * s + p + (k - q) by omega]
                        · rw [pk_cpy_out (by omega), b3 _ _ (by omega), a3 _ _ (by omega), hm _ _ (by omega)]; exact r8 k hk
                    · rw [if_pos c1, if_neg (by decide), if_neg c2, if_pos rfl]
                      refine badN (fun N => if nI p < 0 then some ((-10) - 2, mset N 91 43 2) else if nI q < 0 then some ((-10) - 2, mset N 91 43 2) else if nI n < 0 then some ((-10) - 2, mset N 91 43 2) else if 0 < (lg_cmp ((Int32.toInt64 (nI p)) + (Int32.toInt64 (nI n))) (Int32.toInt64 (N 121 s))) then some ((-10) - 2, mset N 91 43 2) else if (lg_cmp ((Int32.toInt64 (nI q)) + (Int32.toInt64 (nI n))) (Int32.toInt64 (N 121 t))) ≤ 0 then f_Mo_copy_l120 FU (nI s) (nI p) (nI t) (nI q) (nI n) 0 N else some ((-10) - 2, mset N 91 43 2)) ?_
                      have hng := fun w => c2 ((g2 (mset M 0 7 2) (by rw [k0 _ _ _ (by decide)]; exact r7)).mp w)
                      simp only [if_neg cb, if_neg cd, if_neg ce, if_neg hng]
                      split <;> rfl
                  · rw [if_neg c1, if_pos rfl]
                    refine badN (fun N => if nI p < 0 then some ((-10) - 2, mset N 91 43 2) else if nI q < 0 then some ((-10) - 2, mset N 91 43 2) else if nI n < 0 then some ((-10) - 2, mset N 91 43 2) else if 0 < (lg_cmp ((Int32.toInt64 (nI p)) + (Int32.toInt64 (nI n))) (Int32.toInt64 (N 121 s))) then some ((-10) - 2, mset N 91 43 2) else if (lg_cmp ((Int32.toInt64 (nI q)) + (Int32.toInt64 (nI n))) (Int32.toInt64 (N 121 t))) ≤ 0 then f_Mo_copy_l120 FU (nI s) (nI p) (nI t) (nI q) (nI n) 0 N else some ((-10) - 2, mset N 91 43 2)) ?_
                    have hpg := (g1 (mset M 0 7 2) (by rw [k0 _ _ _ (by decide)]; exact q7)).mpr (show z < p + n by omega)
                    simp only [if_neg cb, if_neg cd, if_neg ce, if_pos hpg]
          · rw [if_neg hff]
            refine ⟨(-10) - 4, mset M 0 7 4, mset (mset M 0 7 4) 91 43 4, rfl, ?_, D, fin 4⟩
            rw [k0 4 119 s (by decide), k0 4 119 t (by decide), k0 4 120 s (by decide), k0 4 120 t (by decide), q1, r1, q5, r5, if_neg (by decide), if_neg (by decide), if_neg hff]
end SHT
