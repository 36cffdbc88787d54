-- ===== longs: shifts and masks (rows of the kit's BITS, pasted) =====
theorem wb_tb (n : Nat) : (lN n).toBitVec = BitVec.ofNat 64 n := rfl
theorem wb_inj {a b : Int64} (h : a.toBitVec = b.toBitVec) : a = b := Int64.toBitVec_inj.mp h
theorem wb_tn {n : Nat} (h : n < 2 ^ 64) : (lN n).toBitVec.toNat = n := by rw [wb_tb, BitVec.toNat_ofNat, Nat.mod_eq_of_lt h]
theorem wb_c : ∀ k, k < 64 → ((nI k).toInt64 &&& 63) = lN k := by decide +kernel
theorem wb_sm : ∀ k, k < 64 → (BitVec.ofNat 64 k).smod 64 = BitVec.ofNat 64 k := by decide +kernel
theorem wb_lt2 {a b : Nat} (h : a < b) : 2 ^ a < 2 ^ b := Nat.pow_lt_pow_right (by decide) h
theorem wb_shl (n : Nat) {k : Nat} (hk : k < 64) : lN n <<< ((nI k).toInt64 &&& 63) = lN (n * 2 ^ k) := by
  rw [wb_c k hk]
  apply wb_inj
  rw [Int64.toBitVec_shiftLeft, wb_tb, wb_tb, wb_tb, wb_sm k hk]
  apply BitVec.eq_of_toNat_eq
  rw [BitVec.shiftLeft_eq', BitVec.toNat_shiftLeft, BitVec.toNat_ofNat, BitVec.toNat_ofNat, BitVec.toNat_ofNat, Nat.mod_eq_of_lt (show k < 2 ^ 64 by omega), Nat.shiftLeft_eq, Nat.mul_mod, Nat.mod_mod, ← Nat.mul_mod]
theorem wb_and {a b : Nat} (ha : a < 2 ^ 64) (hb : b < 2 ^ 64) : lN a &&& lN b = lN (a &&& b) := by
  apply wb_inj
  rw [Int64.toBitVec_and, wb_tb, wb_tb, wb_tb]
  apply BitVec.eq_of_toNat_eq
  rw [BitVec.toNat_and, BitVec.toNat_ofNat, BitVec.toNat_ofNat, BitVec.toNat_ofNat, Nat.mod_eq_of_lt ha, Nat.mod_eq_of_lt hb, Nat.mod_eq_of_lt (Nat.and_lt_two_pow _ hb)]
theorem wb_or {a b : Nat} (ha : a < 2 ^ 64) (hb : b < 2 ^ 64) : lN a ||| lN b = lN (a ||| b) := by
  apply wb_inj
  rw [Int64.toBitVec_or, wb_tb, wb_tb, wb_tb]
  apply BitVec.eq_of_toNat_eq
  rw [BitVec.toNat_or, BitVec.toNat_ofNat, BitVec.toNat_ofNat, BitVec.toNat_ofNat, Nat.mod_eq_of_lt ha, Nat.mod_eq_of_lt hb, Nat.mod_eq_of_lt (Nat.or_lt_two_pow ha hb)]
theorem wb_mask {n k : Nat} (hn : n < 2 ^ 64) (hk : k < 64) : lN n &&& lN (2 ^ k - 1) = lN (n % 2 ^ k) := by
  rw [wb_and hn (by have := wb_lt2 hk; omega), Nat.and_two_pow_sub_one_eq_mod]
theorem wb_a1 {n : Nat} (hn : n < 2 ^ 64) : lN n &&& 1 = lN (n % 2) := wb_mask (k := 1) hn (by decide)
theorem pf_lI {a : Nat} (h : a < 2 ^ 63) : (lN a).toInt = (a : Int) := lg_ofNat_toInt h
theorem pf_shr {a d : Nat} {D : Int64} (hD : (D.toBitVec.smod 64).toNat = d) (h : a < 2 ^ 62) : lN a >>> D = lN (a / 2 ^ d) := by
  have hd : a / 2 ^ d ≤ a := Nat.div_le_self _ _
  apply Int64.toInt_inj.mp
  have e : (lN a >>> D).toInt = (lN a).toInt >>> d := by
    rw [← hD]
    exact BitVec.toInt_sshiftRight ..
  rw [e, Int.shiftRight_eq_div_pow, pf_lI (by omega), pf_lI (by omega)]
  rfl
theorem wb_sr {m j : Nat} (hm : m < 2 ^ 62) (hj : j < 64) : lN m >>> ((nI j).toInt64 &&& 63) = lN (m / 2 ^ j) := by
  refine pf_shr ?_ hm
  rw [wb_c j hj, wb_tb, wb_sm j hj, BitVec.toNat_ofNat]
  exact Nat.mod_eq_of_lt (by omega)
-- ===== the reference's rounding =====
theorem pw23 (o k : Nat) : 2 ^ (o + k) = 2 ^ o * 2 ^ k := Nat.pow_add 2 o k
theorem mo_l120 {c : Nat} {b : Int32} (h1 : 2 ^ 23 ≤ c) (h2 : c < 2 ^ 24) {E : Nat} (hE : b + 150 = nI E) (hE2 : E ≤ 252) : f_Mo_bitsOf_l120 FU (lN c) b = some (nI (E * 2 ^ 23 + (c - 2 ^ 23))) := by
  obtain ⟨g, hg⟩ : ∃ g, FU = g + 1 := ⟨999, rfl⟩
  rw [hg]
  show f_Mo_bitsOf_l120B _ _ _ = _
  unfold f_Mo_bitsOf_l120B
  have hc : 0 ≤ lg_cmp (lN c) 8388608 := by
    rw [lg_cmp_ge, show (8388608 : Int64) = lN (2 ^ 23) from rfl, pk_lLE (by decide) (by omega)]
    exact h1
  rw [if_pos hc, hE, lN_i, pk_shlN (n := E) _ 23 (by decide) (by omega), show (8388607 : Int32) = nI (2 ^ 23 - 1) from rfl, nI_and (by omega) (by decide), Nat.and_two_pow_sub_one_eq_mod, nI_or (by omega) (by omega), Nat.mul_comm E, ← Nat.two_pow_add_eq_or_of_lt (i := 23) (Nat.mod_lt _ (by decide))]
  rw [show c % 2 ^ 23 = c - 2 ^ 23 by omega]
theorem mo_b103 {c : Nat} {b : Int32} {s0 s1 : Int64} (hs : s1 + s0 = lN c) (h1 : 2 ^ 23 ≤ c) (h2 : c ≤ 2 ^ 24) {E : Nat} (hE : b + 150 = nI E) (hE2 : E ≤ 251) : f_Mo_bitsOf_b103 b s0 s1 = some (nI (E * 2 ^ 23 + (c - 2 ^ 23))) := by
  unfold f_Mo_bitsOf_b103
  rw [bn, hs]
  have hq : (lg_cmp (lN c) 16777216 = 0) ↔ c = 2 ^ 24 := by
    rw [lg_cmp_eq, show (16777216 : Int64) = lN (2 ^ 24) from rfl, pk_lEQ (by omega) (by decide)]
  by_cases h : c = 2 ^ 24
  · rw [if_pos (hq.mpr h), bn, show (Int32.toInt64 1 &&& 63) = ((nI 1).toInt64 &&& 63) from rfl, wb_sr (by omega) (by decide), h]
    have := mo_l120 (c := 2 ^ 24 / 2 ^ 1) (b := b + 1) (by decide) (by decide) (E := E + 1) (by rw [Int32.add_assoc, Int32.add_comm 1, ← Int32.add_assoc, hE, nI_1]) (by omega)
    rw [this, show (E + 1) * 2 ^ 23 + (2 ^ 24 / 2 ^ 1 - 2 ^ 23) = E * 2 ^ 23 + (2 ^ 24 - 2 ^ 23) by omega]
  · rw [if_neg (fun q => h (hq.mp q))]
    exact mo_l120 h1 (by omega) hE (by omega)
theorem mo_b59 {m o E : Nat} {e : Int32} (h1 : 2 ^ (o + 23) ≤ m) (h2 : m < 2 ^ (o + 24)) (ho : 1 ≤ o) (ho2 : o ≤ 37) (hE : e + nI o + 150 = nI E) (hE2 : E ≤ 251) : f_Mo_bitsOf_b59 (lN m) e (nI o) (lN (m % 2 ^ o)) (lN (2 ^ (o - 1))) = some (nI (E * 2 ^ 23 + (FP.Core.nearest m (2 ^ o) - 2 ^ 23))) := by
  have hp := Nat.two_pow_pos o
  have hm62 : m < 2 ^ 62 := Nat.lt_of_lt_of_le h2 (Nat.pow_le_pow_right (by decide) (by omega))
  have hhf : 2 ^ o = 2 * 2 ^ (o - 1) := by
    obtain ⟨k, rfl⟩ : ∃ k, o = k + 1 := ⟨o - 1, by omega⟩
    rw [Nat.add_sub_cancel, Nat.pow_succ, Nat.mul_comm]
  have hP1 : 2 ^ 23 ≤ m / 2 ^ o := (Nat.le_div_iff_mul_le hp).mpr (by rw [Nat.mul_comm, ← pw23]; exact h1)
  have hP2 : m / 2 ^ o < 2 ^ 24 := Nat.div_lt_of_lt_mul (by rw [← pw23]; exact h2)
  have hr : m % 2 ^ o < 2 ^ o := Nat.mod_lt _ hp
  have ho38 : 2 ^ o ≤ 2 ^ 37 := Nat.pow_le_pow_right (by decide) ho2
  generalize hP : m / 2 ^ o = P at hP1 hP2
  generalize hR : m % 2 ^ o = r at hr
  have hN : FP.Core.nearest m (2 ^ o) = if 2 * r < 2 ^ o then P else if 2 ^ o < 2 * r then P + 1 else P + P % 2 := by
    unfold FP.Core.nearest
    rw [hP, hR]
  have hgt : (0 < lg_cmp (lN r) (lN (2 ^ (o - 1)))) ↔ 2 ^ o < 2 * r := by
    rw [lg_cmp_gt, pk_lLT (by omega) (by omega)]; omega
  have heq : (lg_cmp (lN r) (lN (2 ^ (o - 1))) = 0) ↔ 2 ^ o = 2 * r := by
    rw [lg_cmp_eq, pk_lEQ (by omega) (by omega)]; omega
  have hodd : (lg_cmp (lN P &&& 1) 1 = 0) ↔ P % 2 = 1 := by
    rw [wb_a1 (by omega), lg_cmp_eq, show (1 : Int64) = lN 1 from rfl, pk_lEQ (by omega) (by decide)]
  have i1 : lN P + 1 = lN (P + 1) := lN_1 P
  have i0 : lN P + 0 = lN P := Int64.add_zero _
  unfold f_Mo_bitsOf_b59 f_Mo_bitsOf_b98 f_Mo_bitsOf_b102
  rw [bn, bn, wb_sr hm62 (by omega), hP, hN]
  by_cases c1 : 2 ^ o < 2 * r
  · rw [if_pos (hgt.mpr c1), if_neg (by omega), if_pos c1]
    exact mo_b103 i1 (by omega) (by omega) hE hE2
  · rw [if_neg (fun q => c1 (hgt.mp q))]
    by_cases c2 : 2 ^ o = 2 * r
    · rw [if_pos (heq.mpr c2), if_neg (show ¬ 2 * r < 2 ^ o by omega), if_neg c1]
      by_cases c3 : P % 2 = 1
      · rw [if_pos (hodd.mpr c3), c3]
        exact mo_b103 i1 (by omega) (by omega) hE hE2
      · rw [if_neg (fun q => c3 (hodd.mp q)), show P % 2 = 0 by omega, Nat.add_zero]
        exact mo_b103 i0 (by omega) (by omega) hE hE2
    · rw [if_neg (fun q => c2 (heq.mp q)), if_pos (by omega)]
      exact mo_b103 i0 (by omega) (by omega) hE hE2
theorem mo_bits {m o E : Nat} {e : Int32} (h1 : 2 ^ (o + 23) ≤ m) (h2 : m < 2 ^ (o + 24)) (ho : 1 ≤ o) (ho2 : o ≤ 37) (hE : e + nI o + 150 = nI E) (hE2 : E ≤ 251) : f_Mo_bitsOf (lN m) e = some (nI (E * 2 ^ 23 + (FP.Core.nearest m (2 ^ o) - 2 ^ 23))) := by
  have hp := Nat.two_pow_pos o
  have hp2 := Nat.two_pow_pos (o + 23)
  have hm62 : m < 2 ^ 62 := Nat.lt_of_lt_of_le h2 (Nat.pow_le_pow_right (by decide) (by omega))
  have h0 : ¬ lg_cmp (lN m) 0 = 0 := by
    rw [lg_cmp_eq, show (0 : Int64) = lN 0 from rfl, pk_lEQ (by omega) (by decide)]
    omega
  have hloop : ∀ (d j fuel : Nat), d + j = o → d < fuel → f_Mo_bitsOf_l16 fuel (lN m) e (nI j) = f_Mo_bitsOf_b59 (lN m) e (nI o) (lN (m % 2 ^ o)) (lN (2 ^ (o - 1))) := by
    intro d
    induction d with
    | zero =>
      intro j fuel hj hf
      obtain ⟨k, rfl⟩ : ∃ k, fuel = k + 1 := ⟨fuel - 1, by omega⟩
      have ej : j = o := by omega
      subst ej
      show f_Mo_bitsOf_l16B _ _ _ _ = _
      unfold f_Mo_bitsOf_l16B
      have hlt : lg_cmp (lN m >>> ((nI j).toInt64 &&& 63)) 16777216 < 0 := by
        rw [wb_sr hm62 (by omega), lg_cmp_lt, show (16777216 : Int64) = lN (2 ^ 24) from rfl, pk_lLT (Nat.lt_of_le_of_lt (Nat.div_le_self _ _) (by omega)) (by decide)]
        exact Nat.div_lt_of_lt_mul (by rw [← pw23]; exact h2)
      rw [if_pos hlt, bn, if_neg (nI_ne0 (by omega) (by omega)), wb_sr hm62 (by omega), wb_shl _ (by omega), lN_sub (Nat.div_mul_le_self _ _), nI_sub1 (by omega)]
      have e1 : m - m / 2 ^ j * 2 ^ j = m % 2 ^ j := by
        have := Nat.div_add_mod m (2 ^ j)
        rw [Nat.mul_comm] at this
        omega
      have e2 : (1 : Int64) <<< ((nI (j - 1)).toInt64 &&& 63) = lN (2 ^ (j - 1)) := by
        rw [show (1 : Int64) = lN 1 from rfl, wb_shl _ (by omega), Nat.one_mul]
      rw [e1, e2]
    | succ d ih =>
      intro j fuel hj hf
      obtain ⟨k, rfl⟩ : ∃ k, fuel = k + 1 := ⟨fuel - 1, by omega⟩
      show f_Mo_bitsOf_l16B _ _ _ _ = _
      unfold f_Mo_bitsOf_l16B
      have hlt : ¬ lg_cmp (lN m >>> ((nI j).toInt64 &&& 63)) 16777216 < 0 := by
        rw [wb_sr hm62 (by omega), lg_cmp_lt, show (16777216 : Int64) = lN (2 ^ 24) from rfl, pk_lLT (Nat.lt_of_le_of_lt (Nat.div_le_self _ _) (by omega)) (by decide)]
        have : 2 ^ 24 ≤ m / 2 ^ j := (Nat.le_div_iff_mul_le (Nat.two_pow_pos j)).mpr (by
          rw [← Nat.pow_add]
          exact Nat.le_trans (Nat.pow_le_pow_right (by decide) (by omega)) h1)
        omega
      rw [if_neg hlt, nI_1]
      exact ih (j + 1) k (by omega) (by omega)
  unfold f_Mo_bitsOf
  rw [if_neg h0]
  exact (hloop o 0 FU rfl (fuL (by omega))).trans (mo_b59 h1 h2 ho ho2 hE hE2)
