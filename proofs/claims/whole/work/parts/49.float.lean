-- ===== floats that occur; small things =====
def Nice (e : Nat) (f : UInt32) : Prop := f = 0 ∨ ∃ E t : Nat, 100 ≤ E ∧ E ≤ e ∧ t < 2 ^ 23 ∧ f = UInt32.ofNat (E * 2 ^ 23 + t)
theorem fuL {n : Nat} (h : n ≤ 511) : n < FU := Nat.lt_of_le_of_lt h (Nat.lt_of_succ_lt fu_lt)
theorem nle {i N : Nat} (h : i < N) (hN : N < 2 ^ 31) : ¬ nI N ≤ nI i := fun q => by rw [nI_leI hN (by omega)] at q; omega
