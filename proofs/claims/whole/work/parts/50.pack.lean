-- ===== rows as the class packs them =====
/-- a value that stands one higher -/
def kI (a : Nat) : Int32 := nI a - 1
theorem kI_1 (a : Nat) : kI a + 1 = nI a := Int32.sub_add_cancel _ _
theorem kI_s (a : Nat) : kI (a + 1) = nI a := nI_pred a
theorem kI_0 : kI 0 = -1 := by decide
theorem kI_toInt {a : Nat} (h : a < 2 ^ 30) : (kI a).toInt = (a : Int) - 1 := by
  have := pk_sub_toInt (a := a) (b := 1) h (by decide)
  exact this
theorem kI_inj {a b : Nat} (ha : a < 2 ^ 30) (hb : b < 2 ^ 30) : kI a = kI b ↔ a = b := by
  rw [i_eq, kI_toInt ha, kI_toInt hb]; omega
theorem kI_le {a b : Nat} (ha : a < 2 ^ 30) (hb : b < 2 ^ 30) : kI a ≤ kI b ↔ a ≤ b := by
  rw [i_le, kI_toInt ha, kI_toInt hb]; omega
theorem kI_m1 {a : Nat} (ha : a < 2 ^ 30) : kI a = -1 ↔ a = 0 := by
  rw [← kI_0]; exact kI_inj ha (by decide)
theorem kI_m2 {a : Nat} (ha : a < 2 ^ 30) : ¬ kI a = -2 := by
  rw [i_eq, kI_toInt ha, show (-2 : Int32).toInt = -2 by decide]; omega
theorem nI_or {a b : Nat} (ha : a < 2 ^ 32) (hb : b < 2 ^ 32) : nI a ||| nI b = nI (a ||| b) := by
  apply Int32.toBitVec_inj.mp
  apply BitVec.eq_of_toNat_eq
  rw [Int32.toBitVec_or, BitVec.toNat_or, pk_tn ha, pk_tn hb, pk_tn (Nat.or_lt_two_pow ha hb)]
theorem nI_and {a b : Nat} (ha : a < 2 ^ 32) (hb : b < 2 ^ 32) : nI a &&& nI b = nI (a &&& b) := by
  apply Int32.toBitVec_inj.mp
  apply BitVec.eq_of_toNat_eq
  rw [Int32.toBitVec_and, BitVec.toNat_and, pk_tn ha, pk_tn hb, pk_tn (Nat.lt_of_le_of_lt Nat.and_le_left ha)]
def pkN (a b q : Nat) : Nat := 2 ^ 20 * q + (2 ^ 8 * b + a)
theorem pkN_lt {a b q : Nat} (ha : a < 256) (hb : b < 4096) (hq : q < 16) : pkN a b q < 2 ^ 25 := by unfold pkN; omega
theorem packedN {a b q : Nat} (ha : a < 256) (hb : b < 4096) (hq : q < 16) : f_Run_packed (kI a) (kI b) (nI q) = nI (pkN a b q) := by
  unfold f_Run_packed
  rw [kI_1, kI_1, pk_shlN (n := q) _ 20 (by decide) (by omega), pk_shlN (n := b) _ 8 (by decide) (by omega), nI_or (by omega) (by omega), nI_or (Nat.or_lt_two_pow (by omega) (by omega)) (by omega)]
  congr 1
  unfold pkN
  rw [Nat.mul_comm q, Nat.mul_comm b, Nat.or_assoc, ← Nat.two_pow_add_eq_or_of_lt (i := 8) ha, ← Nat.two_pow_add_eq_or_of_lt (i := 20) (by omega)]
theorem and_cut {i q m r s : Nat} (hr : r < 2 ^ i) (hs : s < 2 ^ i) : (2 ^ i * q + r) &&& (2 ^ i * m + s) = 2 ^ i * (q &&& m) + (r &&& s) := by
  apply Nat.eq_of_testBit_eq
  intro j
  rw [Nat.testBit_and, Nat.testBit_two_pow_mul_add _ hr, Nat.testBit_two_pow_mul_add _ hs, Nat.testBit_two_pow_mul_add _ (Nat.lt_of_le_of_lt Nat.and_le_left hr), Nat.testBit_and, Nat.testBit_and]
  by_cases h : j < i
  · rw [if_pos h, if_pos h, if_pos h]
  · rw [if_neg h, if_neg h, if_neg h]
theorem key_N {a b q : Nat} (ha : a < 256) (hb : b < 4096) (hq : q < 16) : f_Run_keyOf (nI (pkN a b q)) = kI a := by
  unfold f_Run_keyOf
  rw [pk_andN (Nat.lt_trans (pkN_lt ha hb hq) (by decide)) 8 (by decide)]
  unfold pkN kI
  congr 2
  omega
theorem val_N {a b q : Nat} (ha : a < 256) (hb : b < 4096) (hq : q < 16) : f_Run_valueOf (nI (pkN a b q)) = kI b := by
  unfold f_Run_valueOf
  have h := pkN_lt ha hb hq
  rw [pk_shrN (Nat.lt_trans h (by decide)) _ 8 (by decide), pk_andN (by omega) 12 (by decide)]
  unfold pkN kI
  congr 2
  omega
theorem shr_N {a b q : Nat} (ha : a < 256) (hb : b < 4096) (hq : q < 16) : nI (pkN a b q) >>> (20 &&& 31) = nI q := by
  have h := pkN_lt ha hb hq
  rw [pk_shrN (Nat.lt_trans h (by decide)) _ 20 (by decide)]
  unfold pkN
  congr 1
  omega
theorem msk_N {a b q : Nat} (ha : a < 256) (hb : b < 4096) (hq : q < 16) : nI (pkN a b q) &&& (-1048321) = nI (pkN a 0 q) := by
  have h := pkN_lt ha hb hq
  rw [show (-1048321 : Int32) = nI (2 ^ 20 * 4095 + (2 ^ 8 * 0 + 255)) by decide, nI_and (by omega) (by decide)]
  congr 1
  unfold pkN
  rw [and_cut (by omega) (by decide), and_cut ha (by decide), Nat.and_zero, show (255 : Nat) = 2 ^ 8 - 1 from rfl, Nat.and_two_pow_sub_one_eq_mod, show (4095 : Nat) = 2 ^ 12 - 1 from rfl, Nat.and_two_pow_sub_one_eq_mod]
  omega
-- valid rows
def VK (k : Int32) : Prop := ∃ a, a ≤ 10 ∧ k = kI a
def VV (B : Nat) (v : Int32) : Prop := ∃ b, b ≤ B ∧ v = kI b
theorem VV.mono {B C : Nat} {v : Int32} (h : VV B v) (hc : B ≤ C) : VV C v := by
  obtain ⟨b, hb, e⟩ := h
  exact ⟨b, Nat.le_trans hb hc, e⟩
theorem VV.n2 {B : Nat} {v : Int32} (h : VV B v) (hB : B < 4000) : ¬ v = -2 := by
  obtain ⟨b, hb, rfl⟩ := h
  exact kI_m2 (by omega)
/-- a packed row -/
abbrev pK (k v : Int32) (q : Nat) : Int32 := f_Run_packed k v (nI q)
section PK
variable {k v : Int32} {q B : Nat}
theorem p_key (hk : VK k) (hv : VV B v) (hB : B < 4000) (hq : q < 16) : f_Run_keyOf (pK k v q) = k := by
  obtain ⟨a, ha, rfl⟩ := hk
  obtain ⟨b, hb, rfl⟩ := hv
  show f_Run_keyOf (f_Run_packed _ _ _) = _
  rw [packedN (by omega) (by omega) hq, key_N (by omega) (by omega) hq]
theorem p_val (hk : VK k) (hv : VV B v) (hB : B < 4000) (hq : q < 16) : f_Run_valueOf (pK k v q) = v := by
  obtain ⟨a, ha, rfl⟩ := hk
  obtain ⟨b, hb, rfl⟩ := hv
  show f_Run_valueOf (f_Run_packed _ _ _) = _
  rw [packedN (by omega) (by omega) hq, val_N (by omega) (by omega) hq]
theorem p_shr (hk : VK k) (hv : VV B v) (hB : B < 4000) (hq : q < 16) : pK k v q >>> (20 &&& 31) = nI q := by
  obtain ⟨a, ha, rfl⟩ := hk
  obtain ⟨b, hb, rfl⟩ := hv
  show (f_Run_packed _ _ _) >>> _ = _
  rw [packedN (by omega) (by omega) hq, shr_N (by omega) (by omega) hq]
theorem p_ne (hk : VK k) (hv : VV B v) (hB : B < 4000) (hq : q < 16) : ¬ pK k v q = -1 := by
  obtain ⟨a, ha, rfl⟩ := hk
  obtain ⟨b, hb, rfl⟩ := hv
  show ¬ (f_Run_packed _ _ _) = _
  rw [packedN (by omega) (by omega) hq]
  exact nI_nm1 (Nat.lt_trans (pkN_lt (by omega) (by omega) hq) (by decide))
theorem p_msk (hk : VK k) (hv : VV B v) (hB : B < 4000) (hq : q < 16) : pK k v q &&& (-1048321) = pK k (-1) q := by
  obtain ⟨a, ha, rfl⟩ := hk
  obtain ⟨b, hb, rfl⟩ := hv
  show (f_Run_packed _ _ _) &&& _ = f_Run_packed _ _ _
  rw [packedN (by omega) (by omega) hq, msk_N (by omega) (by omega) hq, ← kI_0, packedN (by omega) (by omega) hq]
theorem p_add (hk : VK k) (hv : VV B v) (hB : B < 4000) (hq : q < 16) : pK k v q + 256 = pK k (v + 1) q := by
  obtain ⟨a, ha, rfl⟩ := hk
  obtain ⟨b, hb, rfl⟩ := hv
  show (f_Run_packed _ _ _) + _ = f_Run_packed _ _ _
  rw [kI_1, ← kI_s b, packedN (by omega) (by omega) hq, packedN (by omega) (by omega) hq, show (256 : Int32) = nI 256 from rfl, nI_add]
  congr 1
  unfold pkN
  omega
theorem p_add2 (hk : VK k) (hq : q < 16) : pK k (-1) q + 512 = pK k 1 q := by
  obtain ⟨a, ha, rfl⟩ := hk
  show (f_Run_packed _ _ _) + _ = f_Run_packed _ _ _
  rw [← kI_0, show (1 : Int32) = kI 2 by decide, packedN (by omega) (by omega) hq, packedN (by omega) (by omega) hq, show (512 : Int32) = nI 512 from rfl, nI_add]
  congr 1
  unfold pkN
  omega
theorem p_or (hk : VK k) (hv : VV B v) (hB : B < 4000) (hq : q < 16) : pK k v 0 ||| (nI q <<< (20 &&& 31)) = pK k v q := by
  obtain ⟨a, ha, rfl⟩ := hk
  obtain ⟨b, hb, rfl⟩ := hv
  show (f_Run_packed _ _ _) ||| _ = f_Run_packed _ _ _
  rw [packedN (by omega) (by omega) (by omega), packedN (by omega) (by omega) hq, pk_shlN (n := q) _ 20 (by decide) (by omega), nI_or (by unfold pkN; omega) (by omega)]
  congr 1
  unfold pkN
  rw [Nat.mul_zero, Nat.zero_add, Nat.or_comm, Nat.mul_comm q, ← Nat.two_pow_add_eq_or_of_lt (i := 20) (by omega)]
theorem p_inj {k' v' : Int32} {q' : Nat} (hk : VK k) (hv : VV B v) (hk' : VK k') (hv' : VV B v') (hB : B < 4000) (hq : q < 16) (hq' : q' < 16) : pK k v q = pK k' v' q' ↔ k = k' ∧ v = v' ∧ q = q' := by
  constructor
  · intro h
    refine ⟨?_, ?_, ?_⟩
    · rw [← p_key hk hv hB hq, h, p_key hk' hv' hB hq']
    · rw [← p_val hk hv hB hq, h, p_val hk' hv' hB hq']
    · have : nI q = nI q' := by rw [← p_shr hk hv hB hq, h, p_shr hk' hv' hB hq']
      exact nI_inj (by omega) (by omega) this
  · rintro ⟨rfl, rfl, rfl⟩; rfl
end PK
theorem VK.m1 : VK (-1) := ⟨0, by omega, kI_0.symm⟩
theorem VV.m1 {B : Nat} : VV B (-1) := ⟨0, by omega, kI_0.symm⟩
theorem VK.vv {k : Int32} (h : VK k) {B : Nat} (hB : 10 ≤ B) : VV B k := by
  obtain ⟨a, ha, e⟩ := h
  exact ⟨a, Nat.le_trans ha hB, e⟩
theorem VV.succ {B : Nat} {v : Int32} (h : VV B v) : VV (B + 1) (v + 1) := by
  obtain ⟨b, hb, rfl⟩ := h
  exact ⟨b + 1, by omega, by rw [kI_1, kI_s]⟩
/-- one step of the reference, as a table -/
theorem stays_eq (c f k v hk : Int32) : f_Mo_stays c f k v hk = if c = 1 then (if k = -1 then -2 else if hk = -1 then -2 else if k = hk then v else -2)
    else if c = 2 then (if k = -1 then -2 else if hk = -1 then -2 else if hk ≤ k then -2 else v)
    else if c = 3 then (if v = -1 then -1 else if hk = -1 then -1 else v + hk)
    else if c = 7 then (if v = -1 then -2 else if v < f then -2 else v) else v := by
  unfold f_Mo_stays f_Mo_stays_b15 f_Mo_stays_b16 f_Mo_stays_b75 f_Mo_stays_b93 f_Mo_stays_b114 f_Mo_stays_b130
  by_cases h1 : c = 1
  · subst h1
    by_cases a1 : k = -1 <;> by_cases a2 : hk = -1 <;> simp [a1, a2]
  · by_cases h2 : c = 2
    · subst h2
      by_cases a1 : k = -1 <;> by_cases a2 : hk = -1 <;> simp [a1, a2]
    · by_cases h3 : c = 3
      · subst h3
        by_cases a1 : k = -1 <;> by_cases a2 : hk = -1 <;> simp [a1, a2]
      · by_cases h4 : c = 4
        · subst h4
          simp
        · by_cases h5 : c = 5
          · subst h5
            simp
          · by_cases h6 : c = 6
            · subst h6
              simp
            · by_cases h7 : c = 7
              · subst h7
                simp
              · simp [h1, h2, h3, h4, h5, h6, h7]
theorem VV.sum {B : Nat} {v hk : Int32} (hv : VV B v) (hh : VK hk) (n1 : ¬ hk = -1) : VV (B + 9) (v + hk) := by
  obtain ⟨b, hb, rfl⟩ := hv
  obtain ⟨a, ha, rfl⟩ := hh
  have h0 : a ≠ 0 := fun q => n1 (by rw [q]; exact kI_0)
  obtain ⟨c, rfl⟩ : ∃ c, a = c + 1 := ⟨a - 1, by omega⟩
  refine ⟨b + c, by omega, ?_⟩
  rw [kI_s]
  unfold kI
  rw [← nI_add, Int32.sub_eq_add_neg, Int32.sub_eq_add_neg, Int32.add_assoc, Int32.add_assoc, Int32.add_comm (-1)]
theorem stays_v {B : Nat} {c f k v hk : Int32} (hv : VV B v) (hh : VK hk) : f_Mo_stays c f k v hk = -2 ∨ VV (B + 9) (f_Mo_stays c f k v hk) := by
  have h9 := hv.mono (Nat.le_add_right B 9)
  rw [stays_eq]
  repeat' split
  all_goals first | exact Or.inl rfl | exact Or.inr h9 | exact Or.inr VV.m1 | exact Or.inr (hv.sum hh (by assumption))
/-- what a step that keeps nothing makes of a packed row -/
theorem ct_st {B : Nat} {c f hk k v : Int32} {q : Nat} {l : List Int32} (hk' : VK k) (hv : VV B v) (hB : B < 4000) (hq : q < 16) (hh : VK hk) (h5 : ¬ c = 5) (h6 : ¬ c = 6) :
    ct c f hk (pK k v q) l = (if f_Mo_stays c f k v hk = -2 then -1 else pK k (f_Mo_stays c f k v hk) q, l) := by
  have hv2 := hv.n2 hB
  have e0 : ¬ (-1 : Int32) = -2 := by decide
  have hmin : ∀ {x y : Int32}, VK x → y = -1 → y ≤ x := by
    intro x y hx hy
    obtain ⟨a, ha, rfl⟩ := hx
    rw [hy, ← kI_0]
    exact (kI_le (by decide) (by omega)).mpr (Nat.zero_le _)
  unfold ct
  rw [p_key hk' hv hB hq, p_val hk' hv hB hq, p_shr hk' hv hB hq, stays_eq]
  by_cases h1 : c = 1
  · simp only [h1, if_true]
    by_cases a1 : k = -1
    · simp [a1]
    · by_cases a3 : k = hk
      · subst a3
        simp [a1, hv2]
      · by_cases a2 : hk = -1 <;> simp [a1, a2, a3]
  · by_cases h2 : c = 2
    · subst h2
      simp only [if_true, show ¬ (2 : Int32) = 1 by decide, if_false]
      by_cases a1 : k = -1
      · simp [a1]
      · by_cases a2 : hk = -1
        · have := hmin hk' a2
          simp [a1, a2]
          rw [a2] at this
          intro q
          exact absurd this (Int32.not_le.mpr q)
        · by_cases a3 : hk ≤ k <;> simp [a1, a2, a3, hv2]
    · by_cases h3 : c = 3
      · subst h3
        simp only [if_true, show ¬ (3 : Int32) = 1 by decide, show ¬ (3 : Int32) = 2 by decide, if_false]
        by_cases a1 : v = -1
        · simp [a1, e0]
        · by_cases a2 : hk = -1
          · simp [a1, a2, e0]
          · have := (hv.sum hh a2).n2 (B := B + 9)
            by_cases hB9 : B + 9 < 4000
            · simp [a1, a2, this hB9]
            · obtain ⟨b, hb, e⟩ := hv.sum hh a2
              have : ¬ v + hk = -2 := by rw [e]; exact kI_m2 (by omega)
              simp [a1, a2, this]
      · by_cases h7 : c = 7
        · subst h7
          simp only [if_true, show ¬ (7 : Int32) = 1 by decide, show ¬ (7 : Int32) = 2 by decide, show ¬ (7 : Int32) = 3 by decide, show ¬ (7 : Int32) = 4 by decide, show ¬ (7 : Int32) = 5 by decide, show ¬ (7 : Int32) = 6 by decide, if_false]
          by_cases a1 : v = -1
          · simp [a1]
          · by_cases a2 : v < f <;> simp [a1, a2, hv2]
        · by_cases h4 : c = 4
          · simp [h1, h2, h3, h4, h5, h6, h7, hv2]
          · simp [h1, h2, h3, h4, h5, h6, h7, hv2]
