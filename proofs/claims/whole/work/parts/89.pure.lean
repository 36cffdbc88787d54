theorem pure_law (L : Nat) (xs : Nat → Int32) (hL : L ≤ 3072) : ∃ M' : Mem, f_L_l18 L xs FU 0 M0 = some (1, M') := sorry
