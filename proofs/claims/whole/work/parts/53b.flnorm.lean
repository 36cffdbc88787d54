-- ===== floats of the class =====
def nf (E t : Nat) : UInt32 := UInt32.ofNat (E * 2 ^ 23 + t)
theorem ex32 : FP.Core.b32.exps = 256 := by decide
theorem qx32 : FP.Core.b32.qmax = 104 := by decide
section NF
variable {E t : Nat}
theorem nf_nat (h2 : E ≤ 254) (ht : t < 2 ^ 23) : (nf E t).toNat = E * 2 ^ 23 + t := by
  unfold nf
  exact UInt32.toNat_ofNat_of_lt' (show E * 2 ^ 23 + t < 4294967296 by omega)
theorem val_nf (h1 : 1 ≤ E) (h2 : E ≤ 254) (ht : t < 2 ^ 23) : FP.Core.val32 (nf E t) = .fin false (2 ^ 23 + t) ((E : Int) - 150) := by
  unfold FP.Core.val32
  rw [nf_nat h2 ht]
  have h := FP.Core.decode_assemble FP.Core.b32 false E t (show E < 256 by omega) ht
  have ha : FP.Core.assemble FP.Core.b32 false E t = E * 2 ^ 23 + t := by
    show (0 * 256 + E) * 2 ^ 23 + t = _
    omega
  rw [ha] at h
  rw [h, ex32, if_neg (by omega), if_neg (by omega)]
  show FP.Core.Datum.fin false (2 ^ 23 + t) (-149 + ((E : Int) - 1)) = _
  rw [show (-149 : Int) + ((E : Int) - 1) = (E : Int) - 150 by omega]
theorem nf_fin (h2 : E ≤ 254) (ht : t < 2 ^ 23) : FP.Core.FFin (nf E t) := by
  rw [FP.Core.fin_bits32, nf_nat h2 ht]
  omega
theorem nf_nn (h2 : E ≤ 254) (ht : t < 2 ^ 23) : FP.Core.val32 (nf E t) ≠ .nan := (nf_fin h2 ht).ne_nan
theorem nf_of {a : UInt32} (h1 : 1 ≤ E) (h2 : E ≤ 254) (ht : t < 2 ^ 23) (h : FP.Core.val32 a = .fin false (2 ^ 23 + t) ((E : Int) - 150)) : a = nf E t := FP.Core.val32_inj (by rw [h]; intro q; cases q) (by rw [h, val_nf h1 h2 ht])
theorem nf_fits (h1 : 1 ≤ E) (h2 : E ≤ 254) (ht : t < 2 ^ 23) : FP.Core.fits FP.Core.b32 (.fin false (2 ^ 23 + t) ((E : Int) - 150)) := by
  rw [← val_nf h1 h2 ht]; exact FP.Core.val32_fits _
end NF
theorem fin_gd {a : UInt32} (h : FP.Core.FFin a) : a &&& 0x7fffffff ≤ 0x7f800000 := by
  rw [FP.Core.fin_bits32] at h
  rw [UInt32.le_iff_toNat_le, UInt32.toNat_and]
  show a.toNat &&& (2 ^ 31 - 1) ≤ 2139095040
  rw [Nat.and_two_pow_sub_one_eq_mod]
  omega
theorem nf_i (E t : Nat) : UInt32.toInt32 (nf E t) = nI (E * 2 ^ 23 + t) := rfl
/-- rounding to a normal number -/
theorem rr_norm {X Y o E : Nat} {e : Int} (hY : 0 < Y) (h1 : Y * 2 ^ (o + 23) ≤ X) (h2 : X < Y * 2 ^ (o + 24)) (hE : (E : Int) = e + o + 150) (hE1 : 1 ≤ E) (hE2 : E ≤ 250) :
    FP.Core.roundRatio FP.Core.b32 false X Y e = FP.Core.val32 (UInt32.ofNat (E * 2 ^ 23 + (FP.Core.nearest X (Y * 2 ^ o) - 2 ^ 23))) ∧ 2 ^ 23 ≤ FP.Core.nearest X (Y * 2 ^ o) ∧ FP.Core.nearest X (Y * 2 ^ o) ≤ 2 ^ 24 := by
  have hp := Nat.two_pow_pos o
  have hYo : 0 < Y * 2 ^ o := Nat.mul_pos hY hp
  have hX : 0 < X := Nat.lt_of_lt_of_le (Nat.mul_pos hY (Nat.two_pow_pos _)) h1
  have hq : FP.Core.quantum FP.Core.b32 X Y e = e + o := by
    refine FP.Core.quantum_eq hX hY (show (-149 : Int) ≤ e + o by omega) ?_ (Or.inr ?_)
    · have := (FP.Core.below_iff X Y (o + 24) 0).mpr (by rw [Nat.pow_zero, Nat.mul_one]; exact h2)
      have e2 : (e + o - e + ((FP.Core.b32.p : Nat) : Int)) = ((o + 24 : Nat) : Int) - ((0 : Nat) : Int) := by show e + o - e + 24 = _; omega
      rw [e2]; exact this
    · intro hb
      have e2 : (e + o - e + (((FP.Core.b32.p : Nat) : Int) - 1)) = ((o + 23 : Nat) : Int) - ((0 : Nat) : Int) := by show e + o - e + (24 - 1) = _; omega
      rw [e2, FP.Core.below_iff, Nat.pow_zero, Nat.mul_one] at hb
      omega
  have c1 : 2 ^ 23 ≤ FP.Core.nearest X (Y * 2 ^ o) := FP.Core.nearest_ge hYo (by
    rw [Nat.mul_left_comm, Nat.mul_comm (2 ^ 23), ← Nat.pow_add]; exact h1)
  have c2 : FP.Core.nearest X (Y * 2 ^ o) ≤ 2 ^ 24 := FP.Core.nearest_le hYo (by
    rw [Nat.mul_left_comm, Nat.mul_comm (2 ^ 24), ← Nat.pow_add]; omega)
  refine ⟨?_, c1, c2⟩
  unfold FP.Core.roundRatio FP.Core.roundAt
  rw [if_neg (by omega), hq]
  have u1 : FP.Core.unitsNum X e (e + o) = X := by
    unfold FP.Core.unitsNum
    rw [show (e - (e + o)).toNat = 0 by omega, Nat.pow_zero, Nat.mul_one]
  have u2 : FP.Core.unitsDen Y e (e + o) = Y * 2 ^ o := by
    unfold FP.Core.unitsDen
    rw [show (e + o - e).toNat = o by omega]
  rw [u1, u2]
  unfold FP.Core.settle FP.Core.bound
  generalize FP.Core.nearest X (Y * 2 ^ o) = c at c1 c2
  by_cases hc : c < 2 ^ 24
  · have hv := val_nf (E := E) (t := c - 2 ^ 23) hE1 (by omega) (by omega)
    unfold nf at hv
    rw [if_pos (show c < 2 ^ FP.Core.b32.p from hc), qx32, if_pos (show e + o ≤ (104 : Int) by omega), hv, show 2 ^ 23 + (c - 2 ^ 23) = c by omega, show (E : Int) - 150 = e + o by omega]
  · have hc2 : c = 2 ^ 24 := by omega
    have hv := val_nf (E := E + 1) (t := 0) (by omega) (by omega) (by decide)
    unfold nf at hv
    rw [if_neg (show ¬ c < 2 ^ FP.Core.b32.p from hc), qx32, if_pos (show e + o + 1 ≤ (104 : Int) by omega), hc2, show E * 2 ^ 23 + (2 ^ 24 - 2 ^ 23) = (E + 1) * 2 ^ 23 + 0 by omega, hv]
    show FP.Core.Datum.fin false (2 ^ 23) (e + o + 1) = _
    rw [show ((E + 1 : Nat) : Int) - 150 = e + o + 1 by omega]
theorem nice_N {E c e : Nat} (h1 : 2 ^ 23 ≤ c) (h2 : c ≤ 2 ^ 24) (hE : 100 ≤ E) (hE2 : E + 1 ≤ e ∨ (E ≤ e ∧ c < 2 ^ 24)) : Nice e (UInt32.ofNat (E * 2 ^ 23 + (c - 2 ^ 23))) := by
  by_cases hc : c < 2 ^ 24
  · exact Or.inr ⟨E, c - 2 ^ 23, hE, by omega, by omega, rfl⟩
  · exact Or.inr ⟨E + 1, 0, by omega, by omega, by decide, by rw [show E * 2 ^ 23 + (c - 2 ^ 23) = (E + 1) * 2 ^ 23 + 0 by omega]⟩
theorem log_o {m : Nat} (h : 2 ^ 24 ≤ m) : ∃ o, 1 ≤ o ∧ 2 ^ (o + 23) ≤ m ∧ m < 2 ^ (o + 24) := by
  have h0 : m ≠ 0 := by omega
  have l1 : 24 ≤ m.log2 := (Nat.le_log2 h0).mpr h
  refine ⟨m.log2 - 23, by omega, ?_, ?_⟩
  · rw [show m.log2 - 23 + 23 = m.log2 by omega]; exact Nat.log2_self_le h0
  · rw [show m.log2 - 23 + 24 = m.log2 + 1 by omega]; exact Nat.lt_log2_self
-- ===== the mean =====
theorem or1 (y : Nat) : y ||| 1 = y / 2 * 2 + 1 := by
  have := Nat.two_pow_add_eq_or_of_lt (i := 1) (b := 1) (by decide) (y / 2)
  rcases Nat.mod_two_eq_zero_or_one y with q | q
  · have e : y = 2 ^ 1 * (y / 2) := by omega
    rw [show y ||| 1 = 2 ^ 1 * (y / 2) ||| 1 by rw [← e], ← this]; omega
  · have e : y = 2 ^ 1 * (y / 2) + 1 := by omega
    have h2 : y ||| 1 = y := by
      rw [e, this, Nat.or_assoc, Nat.or_self]
    rw [h2]; omega
theorem sticky {X n o : Nat} (hn : 0 < n) (ho : 2 ≤ o) : FP.Core.nearest X (n * 2 ^ o) = FP.Core.nearest (if X / n * n = X then X / n else (X / n) ||| 1) (2 ^ o) := by
  have hp := Nat.two_pow_pos o
  obtain ⟨k, rfl⟩ : ∃ k, o = k + 2 := ⟨o - 2, by omega⟩
  have hpk := Nat.two_pow_pos k
  have e4 : 2 ^ (k + 2) = 4 * 2 ^ k := by rw [Nat.pow_add, Nat.mul_comm]
  have hXr : X = n * (X / n) + X % n := (Nat.div_add_mod X n).symm
  have hr : X % n < n := Nat.mod_lt _ hn
  generalize hy : X / n = y at hXr
  generalize hrr : X % n = r at hXr hr
  have hQ : X / (n * 2 ^ (k + 2)) = y / 2 ^ (k + 2) := by rw [← Nat.div_div_eq_div_mul, hy]
  have hW : X % (n * 2 ^ (k + 2)) = n * (y % 2 ^ (k + 2)) + r := by
    have h1 := Nat.div_add_mod X (n * 2 ^ (k + 2))
    have h2 := Nat.div_add_mod y (2 ^ (k + 2))
    rw [hQ] at h1
    have h3 : n * y = n * 2 ^ (k + 2) * (y / 2 ^ (k + 2)) + n * (y % 2 ^ (k + 2)) := by
      rw [Nat.mul_assoc, ← Nat.mul_add, h2]
    omega
  have hexact : (y * n = X) ↔ r = 0 := by rw [Nat.mul_comm]; omega
  unfold FP.Core.nearest
  rw [hQ, hW]
  have hw : y % 2 ^ (k + 2) < 2 ^ (k + 2) := Nat.mod_lt _ hp
  by_cases h0 : r = 0
  · rw [if_pos (hexact.mpr h0), h0, Nat.add_zero]
    generalize y % 2 ^ (k + 2) = w at hw
    have a1 : (2 * (n * w) < n * 2 ^ (k + 2)) ↔ 2 * w < 2 ^ (k + 2) := by rw [Nat.mul_left_comm]; exact Nat.mul_lt_mul_left hn
    have a2 : (n * 2 ^ (k + 2) < 2 * (n * w)) ↔ 2 ^ (k + 2) < 2 * w := by rw [Nat.mul_left_comm]; exact Nat.mul_lt_mul_left hn
    by_cases c1 : 2 * w < 2 ^ (k + 2)
    · rw [if_pos c1, if_pos (a1.mpr c1)]
    · rw [if_neg c1, if_neg (fun q => c1 (a1.mp q))]
      by_cases c2 : 2 ^ (k + 2) < 2 * w
      · rw [if_pos c2, if_pos (a2.mpr c2)]
      · rw [if_neg c2, if_neg (fun q => c2 (a2.mp q))]
  · rw [if_neg (fun q => h0 (hexact.mp q)), or1]
    have d1 : (y / 2 * 2 + 1) / 2 ^ (k + 2) = y / 2 ^ (k + 2) := by
      rw [show 2 ^ (k + 2) = 2 * 2 ^ (k + 1) by rw [← Nat.pow_succ']; , ← Nat.div_div_eq_div_mul, ← Nat.div_div_eq_div_mul]
      congr 1
      omega
    have d2 : (y / 2 * 2 + 1) % 2 ^ (k + 2) = y % 2 ^ (k + 2) / 2 * 2 + 1 := by
      have h1 := Nat.div_add_mod (y / 2 * 2 + 1) (2 ^ (k + 2))
      have h2 := Nat.div_add_mod y (2 ^ (k + 2))
      rw [d1] at h1
      have e5 : 2 ^ (k + 2) * (y / 2 ^ (k + 2)) = 2 * (2 * 2 ^ k * (y / 2 ^ (k + 2))) := by rw [e4, show 4 * 2 ^ k = 2 * (2 * 2 ^ k) by omega, Nat.mul_assoc]
      omega
    rw [d1, d2]
    generalize y % 2 ^ (k + 2) = w at hw
    have hwn : ∀ a, w < a → n * w + n ≤ n * a := fun a ha => by
      have := Nat.mul_le_mul_left n (Nat.succ_le_of_lt ha)
      rw [Nat.mul_succ] at this; exact this
    have hn4 : n * 2 ^ (k + 2) = 2 * (n * (2 * 2 ^ k)) := by rw [e4, show 4 * 2 ^ k = 2 * (2 * 2 ^ k) by omega, Nat.mul_left_comm]
    rcases Nat.lt_trichotomy w (2 * 2 ^ k) with c | c | c
    · have := hwn _ c
      rw [if_pos (by omega), if_pos (by omega)]
    · rw [c]
      rw [if_neg (by omega), if_pos (by omega), if_neg (by omega), if_pos (by omega)]
    · have : n * (2 * 2 ^ k) + n ≤ n * w := by
        have := Nat.mul_le_mul_left n (Nat.succ_le_of_lt c)
        rw [Nat.mul_succ] at this; exact this
      rw [if_neg (by omega), if_pos (by omega), if_neg (by omega), if_pos (by omega)]
