-- ===== floats: what is owed =====
def Nice (e : Nat) (f : UInt32) : Prop := f = 0 ∨ ∃ E t : Nat, 100 ≤ E ∧ E ≤ e ∧ t < 2 ^ 23 ∧ f = UInt32.ofNat (E * 2 ^ 23 + t)
theorem fl_mean {S n : Nat} (h1 : 1 ≤ n) (hn : n ≤ 300) (hS : S ≤ 120000) : (FP.fdiv (FP.i2f (nI S)) (FP.i2f (nI n))) &&& 0x7fffffff ≤ 0x7f800000 ∧ Nice 144 (FP.fdiv (FP.i2f (nI S)) (FP.i2f (nI n))) ∧
    f_U_bitsOf (FP.fdiv (FP.i2f (nI S)) (FP.i2f (nI n))) = some (UInt32.toInt32 (FP.fdiv (FP.i2f (nI S)) (FP.i2f (nI n)))) ∧ f_Mo_divided (nI S) (nI n) = some (UInt32.toInt32 (FP.fdiv (FP.i2f (nI S)) (FP.i2f (nI n)))) := sorry
theorem fl_add {e : Nat} {f g : UInt32} (hf : Nice e f) (hg : Nice e g) (he : e ≤ 160) : (FP.fadd f g) &&& 0x7fffffff ≤ 0x7f800000 ∧ Nice (e + 1) (FP.fadd f g) ∧ f_Mo_added (UInt32.toInt32 f) (UInt32.toInt32 g) = some (UInt32.toInt32 (FP.fadd f g)) := sorry
theorem fl_bits {e : Nat} {f : UInt32} (hf : Nice e f) (he : e ≤ 200) : f_U_bitsOf f = some (UInt32.toInt32 f) := sorry
