theorem mmax_s : Cond.static Lib.Math.max.name ∈ tw := tw_in 548 (by decide +kernel) (by decide +kernel)
theorem mmax_c : Cond.code Lib.Math.max.name Lib.Math.max.code 2 (some .int) ∈ tw := tw_in 549 (by decide +kernel) (by decide +kernel)
theorem mmin_s : Cond.static Lib.Math.min.name ∈ tw := tw_in 831 (by decide +kernel) (by decide +kernel)
theorem mmin_c : Cond.code Lib.Math.min.name Lib.Math.min.code 2 (some .int) ∈ tw := tw_in 832 (by decide +kernel) (by decide +kernel)
theorem mm_i : Cond.initialized "java/lang/Math" ∈ tw := tw_in 94 (by decide +kernel) (by decide +kernel)
/-- Math.max, Math.min: by the kit's rows -/
def f_J_max (x y : Int32) : Int32 := if x < y then y else x
def f_J_min (x y : Int32) : Int32 := if y < x then y else x
section MM
variable {S : SE} {X : MX} {cc : ByteArray} {nL : Nat} {own : String} {d : Nat} {M : Mem} {pc : Nat} {lv : List (Nat × Value)} {idx : Nat}
theorem v_mmax (C : CX S X cc nL own d) (rest : List Value) {x y : Int32} (hw : Cond.methodLink own idx Lib.Math.max.name ∈ tw) (hd : 1 ≤ d) (hr : (rest.map fun v => v.category).sum ≤ 8) (dd : decode cc pc = .ok (.invokestatic idx, 3)) (k : V S X nL M (pc + 3) lv (.int (f_J_max x y) :: rest)) : V S X nL M pc lv (.int y :: .int x :: rest) := fun H locs ls hP hS hl => by
  obtain ⟨hx, hb, hml, hown, hts, hK, hI, hf, hlo, hce, hsl, hN⟩ := C
  exact va_mmax hx hb (by rw [hml]; exact hl.1.symm) hown (hts _ hw) (hts _ mmax_s) (hts _ mm_i) (hts _ mmax_c) (Nat.le_trans hd hf) (by omega) hce hsl dd (k H locs ls hP hS hl)
theorem v_mmin (C : CX S X cc nL own d) (rest : List Value) {x y : Int32} (hw : Cond.methodLink own idx Lib.Math.min.name ∈ tw) (hd : 1 ≤ d) (hr : (rest.map fun v => v.category).sum ≤ 8) (dd : decode cc pc = .ok (.invokestatic idx, 3)) (k : V S X nL M (pc + 3) lv (.int (f_J_min x y) :: rest)) : V S X nL M pc lv (.int y :: .int x :: rest) := fun H locs ls hP hS hl => by
  obtain ⟨hx, hb, hml, hown, hts, hK, hI, hf, hlo, hce, hsl, hN⟩ := C
  exact va_mmin hx hb (by rw [hml]; exact hl.1.symm) hown (hts _ hw) (hts _ mmin_s) (hts _ mm_i) (hts _ mmin_c) (Nat.le_trans hd hf) (by omega) hce hsl dd (k H locs ls hP hS hl)
end MM
