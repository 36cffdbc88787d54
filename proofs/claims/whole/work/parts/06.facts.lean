theorem nat_ac : Cond.native arraycopyName ∈ tw := tw_in 825 (by decide +kernel) (by decide +kernel)
theorem sta_ac : Cond.static arraycopyName ∈ tw := tw_in 824 (by decide +kernel) (by decide +kernel)
theorem ini_ac : Cond.initialized "java/lang/System" ∈ tw := tw_in 95 (by decide +kernel) (by decide +kernel)
theorem lk_X11_208 : Cond.methodLink RX11 208 arraycopyName ∈ tw := tw_in 823 (by decide +kernel) (by decide +kernel)
-- ===== naming, guards, joins =====
def FU : Nat := 1000
def bnd {α β : Type} (e : α) (f : α → β) : β := f e
theorem bnd_ex {α β : Type} {e : α} {f : α → β} {r : β} (h : bnd e f = r) : ∃ q, e = q ∧ f q = r := ⟨e, rfl, h⟩
theorem gd_h {c : Prop} [Decidable c] {α : Type} {a : Option α} {r : α} (h : (if c then a else none) = some r) : c ∧ a = some r := by
  by_cases hc : c
  · rw [if_pos hc] at h; exact ⟨hc, h⟩
  · rw [if_neg hc] at h; cases h
theorem ite_h {c : Prop} [Decidable c] {α : Type} {a b r : α} (h : (if c then a else b) = r) : (c → a = r) ∧ (¬ c → b = r) := ⟨fun hc => by rw [if_pos hc] at h; exact h, fun hc => by rw [if_neg hc] at h; exact h⟩
theorem ne_toInt {x v : Int32} (h : ¬ x = v) (n : Int) (e : v.toInt = n) : x.toInt ≠ n := fun q => h (Int32.toInt_inj.mp (q.trans e.symm))
theorem CX.inj {S : SE} {X : MX} {cc : ByteArray} {nL : Nat} {own : String} {d : Nat} (C : CX S X cc nL own d) : Inj S := C.2.2.2.2.2.2.1
section NM
variable {S : SE} {X : MX} {cc : ByteArray} {nL : Nat} {own : String} {d : Nat} {M : Mem} {pc : Nat} {lv : List (Nat × Value)} {st : List Value} {α : Type} {r : α}
theorem v_nmi {e : Int32} {f : Int32 → α} (h : bnd e f = r) (k : ∀ x, f x = r → V S X nL M pc lv (.int x :: st)) : V S X nL M pc lv (.int e :: st) := k e h
theorem v_nml {e : Int64} {f : Int64 → α} (h : bnd e f = r) (k : ∀ x, f x = r → V S X nL M pc lv (.long x :: st)) : V S X nL M pc lv (.long e :: st) := k e h
theorem v_nmf {e : UInt32} {f : UInt32 → α} (h : bnd e f = r) (k : ∀ x, f x = r → V S X nL M pc lv (.float x :: st)) : V S X nL M pc lv (.float e :: st) := k e h
theorem v_nmr {e t : Nat} {f : Nat → α} (h : bnd e f = r) (hk : kd e = t) (k : ∀ x, kd x = t → f x = r → V S X nL M pc lv (.ref (S.2.1 x) :: st)) : V S X nL M pc lv (.ref (S.2.1 e) :: st) := k e hk h
theorem v_nmm {e : Mem} {f : Mem → α} (h : bnd e f = r) (k : ∀ m, f m = r → V S X nL m pc lv st) : V S X nL e pc lv st := k e h
theorem v_ldcwf (C : CX S X cc nL own d) {i : Nat} {v : UInt32} (hw : Cond.constantFloat own i v ∈ tw) (dd : decode cc pc = .ok (.ldc_w i, 3)) (k : V S X nL M (pc + 3) lv (.float v :: st)) : V S X nL M pc lv st := fun H locs ls hP hS hl => by
  obtain ⟨hx, hb, hml, hown, hts, -⟩ := C
  obtain ⟨kc, cf, hk, hcf, hcp⟩ := Cond.constantFloat_spec hown (hts _ hw)
  intro T hT X2
  obtain ⟨t, a, b⟩ := k H locs ls hP hS hl T hT X2
  obtain ⟨k', hk', he⟩ := X2.warmed.alike.2.2 _ _ hk
  refine ⟨t, ?_, b⟩
  jvm_step X2.here [hx, hb, dd, ldc_w.wp_float (s := T) (f := F0 X.2.2.2.2.2.1 pc ls st) X2.here.top hk' (by rw [he]; exact hcf) hcp]
  exact a
/-- a row of ints copied to another, or to itself, as it was -/
def mcpy (M : Mem) (a sp b dp n : Nat) : Mem := fun i => if i = b then va_cpy (M a) (M b) sp dp n else M i
theorem v_acopy (C : CX S X cc nL own d) {a b la lb idx : Nat} (ha : kd a = 20) (hla : ln a = la) (hb : kd b = 20) (hlb : ln b = lb) {sp dp n : Int32} (hg : ¬ sp < 0 ∧ ¬ dp < 0 ∧ ¬ n < 0 ∧ sp.toNatClampNeg + n.toNatClampNeg ≤ la ∧ dp.toNatClampNeg + n.toNatClampNeg ≤ lb) (hw : Cond.methodLink own idx arraycopyName ∈ tw) (hd : 1 ≤ d) (hst : st = []) (dd : decode cc pc = .ok (.invokestatic idx, 3)) (k : V S X nL (mcpy M a sp.toNatClampNeg b dp.toNatClampNeg n.toNatClampNeg) (pc + 3) lv st) : V S X nL M pc lv (.int n :: .int dp :: .ref (S.2.1 b) :: .int sp :: .ref (S.2.1 a) :: st) := fun H locs ls hP hS hl => by
  subst hla; subst hlb; subst hst
  have hla' : a < NC := kd_lt (by rw [ha]; decide)
  have hlb' : b < NC := kd_lt (by rw [hb]; decide)
  obtain ⟨g1, g2, g3, g4, g5⟩ := hg
  refine va_copyi C.1 C.2.1 (by rw [C.2.2.1]; exact hl.1.symm) C.2.2.2.1 (C.2.2.2.2.1 _ hw) (C.2.2.2.2.1 _ nat_ac) (C.2.2.2.2.1 _ sta_ac) (C.2.2.2.2.1 _ ini_ac) C.2.2.2.2.2.1 hP (wd_D C.2.2.2.2.2.2.1) hS a b 0 0 (by rw [wd_at hla', ent_20 ha]) (by rw [wd_at hlb', ent_20 hb]) rfl rfl rfl g1 g2 g3 g4 g5 (fun i _ => rfl) (Nat.le_trans hd C.2.2.2.2.2.2.2.1) (Nat.le_trans (Nat.le_trans (Nat.le_of_ble_eq_true rfl) (Nat.mul_le_mul_left 40 hd)) C.2.2.2.2.2.2.2.2.1) dd (fun H1 locs1 hP1 _ hS1 => ?_)
  rw [wd_set (M' := mcpy M a sp.toNatClampNeg b dp.toNatClampNeg n.toNatClampNeg) hlb' (by rw [ent_20 hb]; unfold mcpy; rw [if_pos rfl]) (fun j hj => ent_congr (by unfold mcpy; rw [if_neg hj]))] at hP1
  exact k H1 locs1 ls hP1 hS1 hl
end NM
section CV
variable {S : SE} {X : MX} {cc : ByteArray} {nL : Nat} {own : String} {d : Nat} {M : Mem} {pc : Nat} {lv : List (Nat × Value)} {st : List Value}
variable {y : MethodName} {cy : ByteArray} {ny : Nat} {ry : Option FieldType} {n dy idx : Nat} {As : List Value} {M1 : Mem} {v : Value} {o : Nat}
theorem cv0 (C : CX S X cc nL own d) (rest : List Value) (ho : kd o = 0) (hM : CM S y cy ny ry dy (.ref (S.2.1 o) :: As) M (some v) M1) (ii : CIV y cy ny ry n) (hy : RX0 = y.cls) (hw : Cond.methodLink own idx y ∈ tw) (hd : dy + 1 ≤ d) (hn : As.length = n) (hst : st = As.reverse ++ .ref (S.2.1 o) :: rest) (hr : (rest.map fun v => v.category).sum ≤ 8) (dd : decode cc pc = .ok (.invokevirtual idx, 3)) (k : V S X nL M1 (pc + 3) lv (v :: rest)) : V S X nL M pc lv st := v_callV C rest (ci := 0) (q := (RX0, TX0, 4)) rfl hy (ent_0 ho) (kd_lt (by rw [ho]; decide)) hM ii hw hd hn hst hr dd k
theorem cv0v (C : CX S X cc nL own d) (rest : List Value) (ho : kd o = 0) (hM : CM S y cy ny ry dy (.ref (S.2.1 o) :: As) M none M1) (ii : CIV y cy ny ry n) (hy : RX0 = y.cls) (hw : Cond.methodLink own idx y ∈ tw) (hd : dy + 1 ≤ d) (hn : As.length = n) (hst : st = As.reverse ++ .ref (S.2.1 o) :: rest) (hr : (rest.map fun v => v.category).sum ≤ 8) (dd : decode cc pc = .ok (.invokevirtual idx, 3)) (k : V S X nL M1 (pc + 3) lv rest) : V S X nL M pc lv st := v_callV C rest (ci := 0) (q := (RX0, TX0, 4)) rfl hy (ent_0 ho) (kd_lt (by rw [ho]; decide)) hM ii hw hd hn hst hr dd k
theorem cv1 (C : CX S X cc nL own d) (rest : List Value) (ho : kd o = 1) (hM : CM S y cy ny ry dy (.ref (S.2.1 o) :: As) M (some v) M1) (ii : CIV y cy ny ry n) (hy : RX1 = y.cls) (hw : Cond.methodLink own idx y ∈ tw) (hd : dy + 1 ≤ d) (hn : As.length = n) (hst : st = As.reverse ++ .ref (S.2.1 o) :: rest) (hr : (rest.map fun v => v.category).sum ≤ 8) (dd : decode cc pc = .ok (.invokevirtual idx, 3)) (k : V S X nL M1 (pc + 3) lv (v :: rest)) : V S X nL M pc lv st := v_callV C rest (ci := 1) (q := (RX1, TX1, 3)) rfl hy (ent_1 ho) (kd_lt (by rw [ho]; decide)) hM ii hw hd hn hst hr dd k
theorem cv1v (C : CX S X cc nL own d) (rest : List Value) (ho : kd o = 1) (hM : CM S y cy ny ry dy (.ref (S.2.1 o) :: As) M none M1) (ii : CIV y cy ny ry n) (hy : RX1 = y.cls) (hw : Cond.methodLink own idx y ∈ tw) (hd : dy + 1 ≤ d) (hn : As.length = n) (hst : st = As.reverse ++ .ref (S.2.1 o) :: rest) (hr : (rest.map fun v => v.category).sum ≤ 8) (dd : decode cc pc = .ok (.invokevirtual idx, 3)) (k : V S X nL M1 (pc + 3) lv rest) : V S X nL M pc lv st := v_callV C rest (ci := 1) (q := (RX1, TX1, 3)) rfl hy (ent_1 ho) (kd_lt (by rw [ho]; decide)) hM ii hw hd hn hst hr dd k
theorem cv2 (C : CX S X cc nL own d) (rest : List Value) (ho : kd o = 2) (hM : CM S y cy ny ry dy (.ref (S.2.1 o) :: As) M (some v) M1) (ii : CIV y cy ny ry n) (hy : RX2 = y.cls) (hw : Cond.methodLink own idx y ∈ tw) (hd : dy + 1 ≤ d) (hn : As.length = n) (hst : st = As.reverse ++ .ref (S.2.1 o) :: rest) (hr : (rest.map fun v => v.category).sum ≤ 8) (dd : decode cc pc = .ok (.invokevirtual idx, 3)) (k : V S X nL M1 (pc + 3) lv (v :: rest)) : V S X nL M pc lv st := v_callV C rest (ci := 2) (q := (RX2, TX2, 4)) rfl hy (ent_2 ho) (kd_lt (by rw [ho]; decide)) hM ii hw hd hn hst hr dd k
theorem cv2v (C : CX S X cc nL own d) (rest : List Value) (ho : kd o = 2) (hM : CM S y cy ny ry dy (.ref (S.2.1 o) :: As) M none M1) (ii : CIV y cy ny ry n) (hy : RX2 = y.cls) (hw : Cond.methodLink own idx y ∈ tw) (hd : dy + 1 ≤ d) (hn : As.length = n) (hst : st = As.reverse ++ .ref (S.2.1 o) :: rest) (hr : (rest.map fun v => v.category).sum ≤ 8) (dd : decode cc pc = .ok (.invokevirtual idx, 3)) (k : V S X nL M1 (pc + 3) lv rest) : V S X nL M pc lv st := v_callV C rest (ci := 2) (q := (RX2, TX2, 4)) rfl hy (ent_2 ho) (kd_lt (by rw [ho]; decide)) hM ii hw hd hn hst hr dd k
theorem cv3 (C : CX S X cc nL own d) (rest : List Value) (ho : kd o = 3) (hM : CM S y cy ny ry dy (.ref (S.2.1 o) :: As) M (some v) M1) (ii : CIV y cy ny ry n) (hy : RX3 = y.cls) (hw : Cond.methodLink own idx y ∈ tw) (hd : dy + 1 ≤ d) (hn : As.length = n) (hst : st = As.reverse ++ .ref (S.2.1 o) :: rest) (hr : (rest.map fun v => v.category).sum ≤ 8) (dd : decode cc pc = .ok (.invokevirtual idx, 3)) (k : V S X nL M1 (pc + 3) lv (v :: rest)) : V S X nL M pc lv st := v_callV C rest (ci := 3) (q := (RX3, TX3, 3)) rfl hy (ent_3 ho) (kd_lt (by rw [ho]; decide)) hM ii hw hd hn hst hr dd k
theorem cv3v (C : CX S X cc nL own d) (rest : List Value) (ho : kd o = 3) (hM : CM S y cy ny ry dy (.ref (S.2.1 o) :: As) M none M1) (ii : CIV y cy ny ry n) (hy : RX3 = y.cls) (hw : Cond.methodLink own idx y ∈ tw) (hd : dy + 1 ≤ d) (hn : As.length = n) (hst : st = As.reverse ++ .ref (S.2.1 o) :: rest) (hr : (rest.map fun v => v.category).sum ≤ 8) (dd : decode cc pc = .ok (.invokevirtual idx, 3)) (k : V S X nL M1 (pc + 3) lv rest) : V S X nL M pc lv st := v_callV C rest (ci := 3) (q := (RX3, TX3, 3)) rfl hy (ent_3 ho) (kd_lt (by rw [ho]; decide)) hM ii hw hd hn hst hr dd k
theorem cv4 (C : CX S X cc nL own d) (rest : List Value) (ho : kd o = 4) (hM : CM S y cy ny ry dy (.ref (S.2.1 o) :: As) M (some v) M1) (ii : CIV y cy ny ry n) (hy : RX4 = y.cls) (hw : Cond.methodLink own idx y ∈ tw) (hd : dy + 1 ≤ d) (hn : As.length = n) (hst : st = As.reverse ++ .ref (S.2.1 o) :: rest) (hr : (rest.map fun v => v.category).sum ≤ 8) (dd : decode cc pc = .ok (.invokevirtual idx, 3)) (k : V S X nL M1 (pc + 3) lv (v :: rest)) : V S X nL M pc lv st := v_callV C rest (ci := 4) (q := (RX4, TX4, 10)) rfl hy (ent_4 ho) (kd_lt (by rw [ho]; decide)) hM ii hw hd hn hst hr dd k
theorem cv4v (C : CX S X cc nL own d) (rest : List Value) (ho : kd o = 4) (hM : CM S y cy ny ry dy (.ref (S.2.1 o) :: As) M none M1) (ii : CIV y cy ny ry n) (hy : RX4 = y.cls) (hw : Cond.methodLink own idx y ∈ tw) (hd : dy + 1 ≤ d) (hn : As.length = n) (hst : st = As.reverse ++ .ref (S.2.1 o) :: rest) (hr : (rest.map fun v => v.category).sum ≤ 8) (dd : decode cc pc = .ok (.invokevirtual idx, 3)) (k : V S X nL M1 (pc + 3) lv rest) : V S X nL M pc lv st := v_callV C rest (ci := 4) (q := (RX4, TX4, 10)) rfl hy (ent_4 ho) (kd_lt (by rw [ho]; decide)) hM ii hw hd hn hst hr dd k
theorem cv5 (C : CX S X cc nL own d) (rest : List Value) (ho : kd o = 5) (hM : CM S y cy ny ry dy (.ref (S.2.1 o) :: As) M (some v) M1) (ii : CIV y cy ny ry n) (hy : RX5 = y.cls) (hw : Cond.methodLink own idx y ∈ tw) (hd : dy + 1 ≤ d) (hn : As.length = n) (hst : st = As.reverse ++ .ref (S.2.1 o) :: rest) (hr : (rest.map fun v => v.category).sum ≤ 8) (dd : decode cc pc = .ok (.invokevirtual idx, 3)) (k : V S X nL M1 (pc + 3) lv (v :: rest)) : V S X nL M pc lv st := v_callV C rest (ci := 5) (q := (RX5, TX5, 6)) rfl hy (ent_5 ho) (kd_lt (by rw [ho]; decide)) hM ii hw hd hn hst hr dd k
theorem cv5v (C : CX S X cc nL own d) (rest : List Value) (ho : kd o = 5) (hM : CM S y cy ny ry dy (.ref (S.2.1 o) :: As) M none M1) (ii : CIV y cy ny ry n) (hy : RX5 = y.cls) (hw : Cond.methodLink own idx y ∈ tw) (hd : dy + 1 ≤ d) (hn : As.length = n) (hst : st = As.reverse ++ .ref (S.2.1 o) :: rest) (hr : (rest.map fun v => v.category).sum ≤ 8) (dd : decode cc pc = .ok (.invokevirtual idx, 3)) (k : V S X nL M1 (pc + 3) lv rest) : V S X nL M pc lv st := v_callV C rest (ci := 5) (q := (RX5, TX5, 6)) rfl hy (ent_5 ho) (kd_lt (by rw [ho]; decide)) hM ii hw hd hn hst hr dd k
theorem cv6 (C : CX S X cc nL own d) (rest : List Value) (ho : kd o = 6) (hM : CM S y cy ny ry dy (.ref (S.2.1 o) :: As) M (some v) M1) (ii : CIV y cy ny ry n) (hy : RX6 = y.cls) (hw : Cond.methodLink own idx y ∈ tw) (hd : dy + 1 ≤ d) (hn : As.length = n) (hst : st = As.reverse ++ .ref (S.2.1 o) :: rest) (hr : (rest.map fun v => v.category).sum ≤ 8) (dd : decode cc pc = .ok (.invokevirtual idx, 3)) (k : V S X nL M1 (pc + 3) lv (v :: rest)) : V S X nL M pc lv st := v_callV C rest (ci := 6) (q := (RX6, TX6, 3)) rfl hy (ent_6 ho) (kd_lt (by rw [ho]; decide)) hM ii hw hd hn hst hr dd k
theorem cv6v (C : CX S X cc nL own d) (rest : List Value) (ho : kd o = 6) (hM : CM S y cy ny ry dy (.ref (S.2.1 o) :: As) M none M1) (ii : CIV y cy ny ry n) (hy : RX6 = y.cls) (hw : Cond.methodLink own idx y ∈ tw) (hd : dy + 1 ≤ d) (hn : As.length = n) (hst : st = As.reverse ++ .ref (S.2.1 o) :: rest) (hr : (rest.map fun v => v.category).sum ≤ 8) (dd : decode cc pc = .ok (.invokevirtual idx, 3)) (k : V S X nL M1 (pc + 3) lv rest) : V S X nL M pc lv st := v_callV C rest (ci := 6) (q := (RX6, TX6, 3)) rfl hy (ent_6 ho) (kd_lt (by rw [ho]; decide)) hM ii hw hd hn hst hr dd k
theorem cv7 (C : CX S X cc nL own d) (rest : List Value) (ho : kd o = 7) (hM : CM S y cy ny ry dy (.ref (S.2.1 o) :: As) M (some v) M1) (ii : CIV y cy ny ry n) (hy : RX7 = y.cls) (hw : Cond.methodLink own idx y ∈ tw) (hd : dy + 1 ≤ d) (hn : As.length = n) (hst : st = As.reverse ++ .ref (S.2.1 o) :: rest) (hr : (rest.map fun v => v.category).sum ≤ 8) (dd : decode cc pc = .ok (.invokevirtual idx, 3)) (k : V S X nL M1 (pc + 3) lv (v :: rest)) : V S X nL M pc lv st := v_callV C rest (ci := 7) (q := (RX7, TX7, 4)) rfl hy (ent_7 ho) (kd_lt (by rw [ho]; decide)) hM ii hw hd hn hst hr dd k
theorem cv7v (C : CX S X cc nL own d) (rest : List Value) (ho : kd o = 7) (hM : CM S y cy ny ry dy (.ref (S.2.1 o) :: As) M none M1) (ii : CIV y cy ny ry n) (hy : RX7 = y.cls) (hw : Cond.methodLink own idx y ∈ tw) (hd : dy + 1 ≤ d) (hn : As.length = n) (hst : st = As.reverse ++ .ref (S.2.1 o) :: rest) (hr : (rest.map fun v => v.category).sum ≤ 8) (dd : decode cc pc = .ok (.invokevirtual idx, 3)) (k : V S X nL M1 (pc + 3) lv rest) : V S X nL M pc lv st := v_callV C rest (ci := 7) (q := (RX7, TX7, 4)) rfl hy (ent_7 ho) (kd_lt (by rw [ho]; decide)) hM ii hw hd hn hst hr dd k
theorem cv8 (C : CX S X cc nL own d) (rest : List Value) (ho : kd o = 8) (hM : CM S y cy ny ry dy (.ref (S.2.1 o) :: As) M (some v) M1) (ii : CIV y cy ny ry n) (hy : RX8 = y.cls) (hw : Cond.methodLink own idx y ∈ tw) (hd : dy + 1 ≤ d) (hn : As.length = n) (hst : st = As.reverse ++ .ref (S.2.1 o) :: rest) (hr : (rest.map fun v => v.category).sum ≤ 8) (dd : decode cc pc = .ok (.invokevirtual idx, 3)) (k : V S X nL M1 (pc + 3) lv (v :: rest)) : V S X nL M pc lv st := v_callV C rest (ci := 8) (q := (RX8, TX8, 4)) rfl hy (ent_8 ho) (kd_lt (by rw [ho]; decide)) hM ii hw hd hn hst hr dd k
theorem cv8v (C : CX S X cc nL own d) (rest : List Value) (ho : kd o = 8) (hM : CM S y cy ny ry dy (.ref (S.2.1 o) :: As) M none M1) (ii : CIV y cy ny ry n) (hy : RX8 = y.cls) (hw : Cond.methodLink own idx y ∈ tw) (hd : dy + 1 ≤ d) (hn : As.length = n) (hst : st = As.reverse ++ .ref (S.2.1 o) :: rest) (hr : (rest.map fun v => v.category).sum ≤ 8) (dd : decode cc pc = .ok (.invokevirtual idx, 3)) (k : V S X nL M1 (pc + 3) lv rest) : V S X nL M pc lv st := v_callV C rest (ci := 8) (q := (RX8, TX8, 4)) rfl hy (ent_8 ho) (kd_lt (by rw [ho]; decide)) hM ii hw hd hn hst hr dd k
theorem cv9 (C : CX S X cc nL own d) (rest : List Value) (ho : kd o = 9) (hM : CM S y cy ny ry dy (.ref (S.2.1 o) :: As) M (some v) M1) (ii : CIV y cy ny ry n) (hy : RX9 = y.cls) (hw : Cond.methodLink own idx y ∈ tw) (hd : dy + 1 ≤ d) (hn : As.length = n) (hst : st = As.reverse ++ .ref (S.2.1 o) :: rest) (hr : (rest.map fun v => v.category).sum ≤ 8) (dd : decode cc pc = .ok (.invokevirtual idx, 3)) (k : V S X nL M1 (pc + 3) lv (v :: rest)) : V S X nL M pc lv st := v_callV C rest (ci := 9) (q := (RX9, TX9, 6)) rfl hy (ent_9 ho) (kd_lt (by rw [ho]; decide)) hM ii hw hd hn hst hr dd k
theorem cv9v (C : CX S X cc nL own d) (rest : List Value) (ho : kd o = 9) (hM : CM S y cy ny ry dy (.ref (S.2.1 o) :: As) M none M1) (ii : CIV y cy ny ry n) (hy : RX9 = y.cls) (hw : Cond.methodLink own idx y ∈ tw) (hd : dy + 1 ≤ d) (hn : As.length = n) (hst : st = As.reverse ++ .ref (S.2.1 o) :: rest) (hr : (rest.map fun v => v.category).sum ≤ 8) (dd : decode cc pc = .ok (.invokevirtual idx, 3)) (k : V S X nL M1 (pc + 3) lv rest) : V S X nL M pc lv st := v_callV C rest (ci := 9) (q := (RX9, TX9, 6)) rfl hy (ent_9 ho) (kd_lt (by rw [ho]; decide)) hM ii hw hd hn hst hr dd k
theorem cv10 (C : CX S X cc nL own d) (rest : List Value) (ho : kd o = 10) (hM : CM S y cy ny ry dy (.ref (S.2.1 o) :: As) M (some v) M1) (ii : CIV y cy ny ry n) (hy : RX10 = y.cls) (hw : Cond.methodLink own idx y ∈ tw) (hd : dy + 1 ≤ d) (hn : As.length = n) (hst : st = As.reverse ++ .ref (S.2.1 o) :: rest) (hr : (rest.map fun v => v.category).sum ≤ 8) (dd : decode cc pc = .ok (.invokevirtual idx, 3)) (k : V S X nL M1 (pc + 3) lv (v :: rest)) : V S X nL M pc lv st := v_callV C rest (ci := 10) (q := (RX10, TX10, 2)) rfl hy (ent_10 ho) (kd_lt (by rw [ho]; decide)) hM ii hw hd hn hst hr dd k
theorem cv10v (C : CX S X cc nL own d) (rest : List Value) (ho : kd o = 10) (hM : CM S y cy ny ry dy (.ref (S.2.1 o) :: As) M none M1) (ii : CIV y cy ny ry n) (hy : RX10 = y.cls) (hw : Cond.methodLink own idx y ∈ tw) (hd : dy + 1 ≤ d) (hn : As.length = n) (hst : st = As.reverse ++ .ref (S.2.1 o) :: rest) (hr : (rest.map fun v => v.category).sum ≤ 8) (dd : decode cc pc = .ok (.invokevirtual idx, 3)) (k : V S X nL M1 (pc + 3) lv rest) : V S X nL M pc lv st := v_callV C rest (ci := 10) (q := (RX10, TX10, 2)) rfl hy (ent_10 ho) (kd_lt (by rw [ho]; decide)) hM ii hw hd hn hst hr dd k
theorem cv11 (C : CX S X cc nL own d) (rest : List Value) (ho : kd o = 11) (hM : CM S y cy ny ry dy (.ref (S.2.1 o) :: As) M (some v) M1) (ii : CIV y cy ny ry n) (hy : RX11 = y.cls) (hw : Cond.methodLink own idx y ∈ tw) (hd : dy + 1 ≤ d) (hn : As.length = n) (hst : st = As.reverse ++ .ref (S.2.1 o) :: rest) (hr : (rest.map fun v => v.category).sum ≤ 8) (dd : decode cc pc = .ok (.invokevirtual idx, 3)) (k : V S X nL M1 (pc + 3) lv (v :: rest)) : V S X nL M pc lv st := v_callV C rest (ci := 11) (q := (RX11, TX11, 9)) rfl hy (ent_11 ho) (kd_lt (by rw [ho]; decide)) hM ii hw hd hn hst hr dd k
theorem cv11v (C : CX S X cc nL own d) (rest : List Value) (ho : kd o = 11) (hM : CM S y cy ny ry dy (.ref (S.2.1 o) :: As) M none M1) (ii : CIV y cy ny ry n) (hy : RX11 = y.cls) (hw : Cond.methodLink own idx y ∈ tw) (hd : dy + 1 ≤ d) (hn : As.length = n) (hst : st = As.reverse ++ .ref (S.2.1 o) :: rest) (hr : (rest.map fun v => v.category).sum ≤ 8) (dd : decode cc pc = .ok (.invokevirtual idx, 3)) (k : V S X nL M1 (pc + 3) lv rest) : V S X nL M pc lv st := v_callV C rest (ci := 11) (q := (RX11, TX11, 9)) rfl hy (ent_11 ho) (kd_lt (by rw [ho]; decide)) hM ii hw hd hn hst hr dd k
theorem cv12 (C : CX S X cc nL own d) (rest : List Value) (ho : kd o = 12) (hM : CM S y cy ny ry dy (.ref (S.2.1 o) :: As) M (some v) M1) (ii : CIV y cy ny ry n) (hy : RX12 = y.cls) (hw : Cond.methodLink own idx y ∈ tw) (hd : dy + 1 ≤ d) (hn : As.length = n) (hst : st = As.reverse ++ .ref (S.2.1 o) :: rest) (hr : (rest.map fun v => v.category).sum ≤ 8) (dd : decode cc pc = .ok (.invokevirtual idx, 3)) (k : V S X nL M1 (pc + 3) lv (v :: rest)) : V S X nL M pc lv st := v_callV C rest (ci := 12) (q := (RX12, TX12, 44)) rfl hy (ent_12 ho) (kd_lt (by rw [ho]; decide)) hM ii hw hd hn hst hr dd k
theorem cv12v (C : CX S X cc nL own d) (rest : List Value) (ho : kd o = 12) (hM : CM S y cy ny ry dy (.ref (S.2.1 o) :: As) M none M1) (ii : CIV y cy ny ry n) (hy : RX12 = y.cls) (hw : Cond.methodLink own idx y ∈ tw) (hd : dy + 1 ≤ d) (hn : As.length = n) (hst : st = As.reverse ++ .ref (S.2.1 o) :: rest) (hr : (rest.map fun v => v.category).sum ≤ 8) (dd : decode cc pc = .ok (.invokevirtual idx, 3)) (k : V S X nL M1 (pc + 3) lv rest) : V S X nL M pc lv st := v_callV C rest (ci := 12) (q := (RX12, TX12, 44)) rfl hy (ent_12 ho) (kd_lt (by rw [ho]; decide)) hM ii hw hd hn hst hr dd k
theorem cs (C : CX S X cc nL own d) (rest : List Value) (hM : CM S y cy ny ry dy As M (some v) M1) (ii : CIS y cy ny ry n) (hw : Cond.methodLink own idx y ∈ tw) (hd : dy + 1 ≤ d) (hn : As.length = n) (hst : st = As.reverse ++ rest) (hr : (rest.map fun v => v.category).sum ≤ 8) (dd : decode cc pc = .ok (.invokestatic idx, 3)) (k : V S X nL M1 (pc + 3) lv (v :: rest)) : V S X nL M pc lv st := v_callS C rest hM ii hw hd hn hst hr dd k
theorem csv (C : CX S X cc nL own d) (rest : List Value) (hM : CM S y cy ny ry dy As M none M1) (ii : CIS y cy ny ry n) (hw : Cond.methodLink own idx y ∈ tw) (hd : dy + 1 ≤ d) (hn : As.length = n) (hst : st = As.reverse ++ rest) (hr : (rest.map fun v => v.category).sum ≤ 8) (dd : decode cc pc = .ok (.invokestatic idx, 3)) (k : V S X nL M1 (pc + 3) lv rest) : V S X nL M pc lv st := v_callS C rest hM ii hw hd hn hst hr dd k
theorem csN (C : CX S X cc nL own d) (rest : List Value) (hM : CM S y cy ny ry dy As M (some v) M1) (ii : CIS y cy ny ry n) (hw : (own, idx, y) ∈ nwL) (hd : dy + 1 ≤ d) (hn : As.length = n) (hst : st = As.reverse ++ rest) (hr : (rest.map fun v => v.category).sum ≤ 8) (dd : decode cc pc = .ok (.invokestatic idx, 3)) (k : V S X nL M1 (pc + 3) lv (v :: rest)) : V S X nL M pc lv st := v_callSN C rest hM ii hw hd hn hst hr dd k
end CV
theorem kk0 : kd 0 = 11 := by decide +kernel
theorem kk1 : kd 1 = 23 := by decide +kernel
theorem kk2 : kd 2 = 24 := by decide +kernel
theorem kk3 : kd 3 = 3 := by decide +kernel
theorem kk4 : kd 4 = 8 := by decide +kernel
theorem kk5 : kd 5 = 20 := by decide +kernel
theorem kk6 : kd 6 = 20 := by decide +kernel
theorem kk7 : kd 7 = 8 := by decide +kernel
theorem kk10 : kd 10 = 7 := by decide +kernel
theorem kk11 : kd 11 = 20 := by decide +kernel
theorem kk12 : kd 12 = 20 := by decide +kernel
theorem kk27 : kd 27 = 1 := by decide +kernel
theorem kk28 : kd 28 = 26 := by decide +kernel
theorem kk43 : kd 43 = 20 := by decide +kernel
theorem kk44 : kd 44 = 25 := by decide +kernel
theorem kk55 : kd 55 = 5 := by decide +kernel
theorem kk63 : kd 63 = 4 := by decide +kernel
theorem kk67 : kd 67 = 5 := by decide +kernel
theorem kk68 : kd 68 = 0 := by decide +kernel
theorem kk71 : kd 71 = 2 := by decide +kernel
theorem kk72 : kd 72 = 20 := by decide +kernel
theorem kk73 : kd 73 = 20 := by decide +kernel
theorem kk75 : kd 75 = 4 := by decide +kernel
theorem kk79 : kd 79 = 5 := by decide +kernel
theorem kk87 : kd 87 = 4 := by decide +kernel
theorem kk91 : kd 91 = 12 := by decide +kernel
theorem kk92 : kd 92 = 20 := by decide +kernel
theorem kk93 : kd 93 = 20 := by decide +kernel
theorem kk94 : kd 94 = 20 := by decide +kernel
theorem kk95 : kd 95 = 20 := by decide +kernel
theorem kk96 : kd 96 = 20 := by decide +kernel
theorem kk97 : kd 97 = 20 := by decide +kernel
theorem kk98 : kd 98 = 20 := by decide +kernel
theorem kk99 : kd 99 = 20 := by decide +kernel
theorem kk100 : kd 100 = 20 := by decide +kernel
theorem kk101 : kd 101 = 20 := by decide +kernel
theorem kk102 : kd 102 = 20 := by decide +kernel
theorem kk103 : kd 103 = 20 := by decide +kernel
theorem kk104 : kd 104 = 20 := by decide +kernel
theorem kk105 : kd 105 = 20 := by decide +kernel
theorem kk106 : kd 106 = 20 := by decide +kernel
theorem kk107 : kd 107 = 20 := by decide +kernel
theorem kk108 : kd 108 = 20 := by decide +kernel
theorem kk109 : kd 109 = 20 := by decide +kernel
theorem kk110 : kd 110 = 20 := by decide +kernel
theorem kk111 : kd 111 = 20 := by decide +kernel
theorem kk112 : kd 112 = 20 := by decide +kernel
theorem kk113 : kd 113 = 20 := by decide +kernel
theorem kk114 : kd 114 = 20 := by decide +kernel
theorem kk115 : kd 115 = 20 := by decide +kernel
theorem kk116 : kd 116 = 20 := by decide +kernel
theorem kk117 : kd 117 = 20 := by decide +kernel
theorem kk118 : kd 118 = 20 := by decide +kernel
theorem kk119 : kd 119 = 22 := by decide +kernel
theorem kk120 : kd 120 = 20 := by decide +kernel
theorem kk121 : kd 121 = 20 := by decide +kernel
theorem kk122 : kd 122 = 20 := by decide +kernel
theorem kk123 : kd 123 = 20 := by decide +kernel
theorem ll5 : ln 5 = 10 := by decide +kernel
theorem ll6 : ln 6 = 10 := by decide +kernel
theorem ll11 : ln 11 = 12 := by decide +kernel
theorem ll12 : ln 12 = 12 := by decide +kernel
theorem ll43 : ln 43 = 14 := by decide +kernel
theorem ll72 : ln 72 = 10 := by decide +kernel
theorem ll73 : ln 73 = 10 := by decide +kernel
theorem ll92 : ln 92 = 3 := by decide +kernel
theorem ll93 : ln 93 = 90 := by decide +kernel
theorem ll94 : ln 94 = 3 := by decide +kernel
theorem ll95 : ln 95 = 2 := by decide +kernel
theorem ll96 : ln 96 = 20 := by decide +kernel
theorem ll97 : ln 97 = 20 := by decide +kernel
theorem ll98 : ln 98 = 12 := by decide +kernel
theorem ll99 : ln 99 = 12 := by decide +kernel
theorem ll100 : ln 100 = 2 := by decide +kernel
theorem ll101 : ln 101 = 20 := by decide +kernel
theorem ll102 : ln 102 = 10 := by decide +kernel
theorem ll103 : ln 103 = 2 := by decide +kernel
theorem ll104 : ln 104 = 400 := by decide +kernel
theorem ll105 : ln 105 = 300 := by decide +kernel
theorem ll106 : ln 106 = 300 := by decide +kernel
theorem ll107 : ln 107 = 300 := by decide +kernel
theorem ll108 : ln 108 = 300 := by decide +kernel
theorem ll109 : ln 109 = 300 := by decide +kernel
theorem ll110 : ln 110 = 300 := by decide +kernel
theorem ll111 : ln 111 = 12 := by decide +kernel
theorem ll112 : ln 112 = 480 := by decide +kernel
theorem ll113 : ln 113 = 480 := by decide +kernel
theorem ll114 : ln 114 = 10 := by decide +kernel
theorem ll115 : ln 115 = 10 := by decide +kernel
theorem ll116 : ln 116 = 10 := by decide +kernel
theorem ll117 : ln 117 = 20 := by decide +kernel
theorem ll118 : ln 118 = 10 := by decide +kernel
theorem ll119 : ln 119 = 4 := by decide +kernel
theorem ll120 : ln 120 = 4 := by decide +kernel
theorem ll121 : ln 121 = 4 := by decide +kernel
theorem ll122 : ln 122 = 240 := by decide +kernel
theorem ll123 : ln 123 = 60 := by decide +kernel
theorem fl_X11_11 : Cond.fieldLink RX11 11 RX11 "texts" "[LUnnestPlans$Text;" ∈ tw := tw_in 394 (by decide +kernel) (by decide +kernel)
theorem fl_X11_17 : Cond.fieldLink RX11 17 RX11 "sheets" "[LUnnestPlans$Sheet;" ∈ tw := tw_in 395 (by decide +kernel) (by decide +kernel)
theorem fl_X11_24 : Cond.fieldLink RX11 24 RX11 "question" "LUnnestPlans$Question;" ∈ tw := tw_in 396 (by decide +kernel) (by decide +kernel)
theorem fl_X11_28 : Cond.fieldLink RX11 28 RX11 "end" "I" ∈ tw := tw_in 400 (by decide +kernel) (by decide +kernel)
theorem fl_X11_32 : Cond.fieldLink RX11 32 RX11 "finding" "I" ∈ tw := tw_in 401 (by decide +kernel) (by decide +kernel)
theorem fl_X11_35 : Cond.fieldLink RX11 35 RX11 "stale" "Z" ∈ tw := tw_in 402 (by decide +kernel) (by decide +kernel)
theorem fl_X11_51 : Cond.fieldLink RX11 51 RX11 "byRow" "LUnnestPlans$Run;" ∈ tw := tw_in 397 (by decide +kernel) (by decide +kernel)
theorem fl_X11_55 : Cond.fieldLink RX11 55 RX11 "byFree" "LUnnestPlans$Run;" ∈ tw := tw_in 398 (by decide +kernel) (by decide +kernel)
theorem fl_X11_58 : Cond.fieldLink RX11 58 RX11 "tried" "LUnnestPlans$Run;" ∈ tw := tw_in 399 (by decide +kernel) (by decide +kernel)
theorem fl_X11_75 : Cond.fieldLink RX11 75 RX10 "size" "I" ∈ tw := tw_in 197 (by decide +kernel) (by decide +kernel)
theorem fl_X11_78 : Cond.fieldLink RX11 78 RX3 "steps" "LUnnestPlans$Steps;" ∈ tw := tw_in 178 (by decide +kernel) (by decide +kernel)
theorem fl_X11_82 : Cond.fieldLink RX11 82 RX7 "fault" "I" ∈ tw := tw_in 160 (by decide +kernel) (by decide +kernel)
theorem fl_X11_91 : Cond.fieldLink RX11 91 RX8 "fault" "I" ∈ tw := tw_in 133 (by decide +kernel) (by decide +kernel)
theorem fl_X11_94 : Cond.fieldLink RX11 94 RX8 "size" "I" ∈ tw := tw_in 131 (by decide +kernel) (by decide +kernel)
theorem fl_X11_95 : Cond.fieldLink RX11 95 RX8 "keys" "[I" ∈ tw := tw_in 123 (by decide +kernel) (by decide +kernel)
theorem fl_X11_99 : Cond.fieldLink RX11 99 RX8 "values" "[I" ∈ tw := tw_in 127 (by decide +kernel) (by decide +kernel)
theorem fl_X11_102 : Cond.fieldLink RX11 102 RX7 "size" "I" ∈ tw := tw_in 158 (by decide +kernel) (by decide +kernel)
theorem fl_X11_103 : Cond.fieldLink RX11 103 RX7 "codes" "[I" ∈ tw := tw_in 152 (by decide +kernel) (by decide +kernel)
theorem fl_X11_106 : Cond.fieldLink RX11 106 RX7 "figures" "[I" ∈ tw := tw_in 155 (by decide +kernel) (by decide +kernel)
theorem fl_X11_119 : Cond.fieldLink RX11 119 RX5 "report" "LUnnestPlans$Report;" ∈ tw := tw_in 377 (by decide +kernel) (by decide +kernel)
theorem fl_X11_123 : Cond.fieldLink RX11 123 RX4 "error" "I" ∈ tw := tw_in 340 (by decide +kernel) (by decide +kernel)
theorem fl_X11_149 : Cond.fieldLink RX11 149 RX5 "pairs" "LUnnestPlans$Pairs;" ∈ tw := tw_in 375 (by decide +kernel) (by decide +kernel)
theorem fl_X11_153 : Cond.fieldLink RX11 153 RX2 "size" "I" ∈ tw := tw_in 318 (by decide +kernel) (by decide +kernel)
theorem fl_X11_159 : Cond.fieldLink RX11 159 RX5 "course" "LUnnestPlans$Course;" ∈ tw := tw_in 373 (by decide +kernel) (by decide +kernel)
theorem fl_X11_188 : Cond.fieldLink RX11 188 RX6 "size" "I" ∈ tw := tw_in 215 (by decide +kernel) (by decide +kernel)
theorem fl_X11_199 : Cond.fieldLink RX11 199 RX6 "items" "[I" ∈ tw := tw_in 210 (by decide +kernel) (by decide +kernel)
theorem fl_X11_202 : Cond.fieldLink RX11 202 RX6 "form" "I" ∈ tw := tw_in 212 (by decide +kernel) (by decide +kernel)
theorem fl_X11_246 : Cond.fieldLink RX11 246 RX3 "outer" "LUnnestPlans$Table;" ∈ tw := tw_in 172 (by decide +kernel) (by decide +kernel)
theorem fl_X11_250 : Cond.fieldLink RX11 250 RX3 "inner" "LUnnestPlans$Table;" ∈ tw := tw_in 175 (by decide +kernel) (by decide +kernel)
theorem fl_X11_270 : Cond.fieldLink RX11 270 RX2 "keys" "[I" ∈ tw := tw_in 310 (by decide +kernel) (by decide +kernel)
theorem fl_X11_271 : Cond.fieldLink RX11 271 RX2 "values" "[I" ∈ tw := tw_in 313 (by decide +kernel) (by decide +kernel)
theorem fl_X11_272 : Cond.fieldLink RX11 272 RX0 "size" "I" ∈ tw := tw_in 290 (by decide +kernel) (by decide +kernel)
theorem fl_X11_273 : Cond.fieldLink RX11 273 RX4 "read" "I" ∈ tw := tw_in 343 (by decide +kernel) (by decide +kernel)
theorem fl_X0_9 : Cond.fieldLink RX0 9 RX0 "codes" "[I" ∈ tw := tw_in 282 (by decide +kernel) (by decide +kernel)
theorem fl_X0_15 : Cond.fieldLink RX0 15 RX0 "figures" "[I" ∈ tw := tw_in 285 (by decide +kernel) (by decide +kernel)
theorem fl_X0_18 : Cond.fieldLink RX0 18 RX0 "size" "I" ∈ tw := tw_in 287 (by decide +kernel) (by decide +kernel)
theorem fl_X0_22 : Cond.fieldLink RX0 22 RX0 "joinAt" "I" ∈ tw := tw_in 291 (by decide +kernel) (by decide +kernel)
theorem fl_X0_28 : Cond.fieldLink RX0 28 RX7 "size" "I" ∈ tw := tw_in 157 (by decide +kernel) (by decide +kernel)
theorem fl_X0_31 : Cond.fieldLink RX0 31 RX7 "codes" "[I" ∈ tw := tw_in 151 (by decide +kernel) (by decide +kernel)
theorem fl_X0_32 : Cond.fieldLink RX0 32 RX7 "figures" "[I" ∈ tw := tw_in 154 (by decide +kernel) (by decide +kernel)
theorem fl_X1_11 : Cond.fieldLink RX1 11 RX1 "rows" "[[I" ∈ tw := tw_in 257 (by decide +kernel) (by decide +kernel)
theorem fl_X1_16 : Cond.fieldLink RX1 16 RX1 "sizes" "[I" ∈ tw := tw_in 259 (by decide +kernel) (by decide +kernel)
theorem fl_X1_22 : Cond.fieldLink RX1 22 RX1 "tallies" "[LUnnestPlans$Tally;" ∈ tw := tw_in 261 (by decide +kernel) (by decide +kernel)
theorem fl_X2_9 : Cond.fieldLink RX2 9 RX2 "keys" "[I" ∈ tw := tw_in 308 (by decide +kernel) (by decide +kernel)
theorem fl_X2_15 : Cond.fieldLink RX2 15 RX2 "values" "[I" ∈ tw := tw_in 311 (by decide +kernel) (by decide +kernel)
theorem fl_X2_18 : Cond.fieldLink RX2 18 RX2 "places" "[I" ∈ tw := tw_in 314 (by decide +kernel) (by decide +kernel)
theorem fl_X2_21 : Cond.fieldLink RX2 21 RX2 "size" "I" ∈ tw := tw_in 316 (by decide +kernel) (by decide +kernel)
theorem fl_X2_31 : Cond.fieldLink RX2 31 RX8 "size" "I" ∈ tw := tw_in 130 (by decide +kernel) (by decide +kernel)
theorem fl_X2_34 : Cond.fieldLink RX2 34 RX8 "keys" "[I" ∈ tw := tw_in 122 (by decide +kernel) (by decide +kernel)
theorem fl_X2_35 : Cond.fieldLink RX2 35 RX8 "values" "[I" ∈ tw := tw_in 126 (by decide +kernel) (by decide +kernel)
theorem fl_X4_9 : Cond.fieldLink RX4 9 RX4 "answers" "[I" ∈ tw := tw_in 334 (by decide +kernel) (by decide +kernel)
theorem fl_X4_15 : Cond.fieldLink RX4 15 RX4 "means" "[F" ∈ tw := tw_in 335 (by decide +kernel) (by decide +kernel)
theorem fl_X4_19 : Cond.fieldLink RX4 19 RX4 "logged" "[I" ∈ tw := tw_in 336 (by decide +kernel) (by decide +kernel)
theorem fl_X4_22 : Cond.fieldLink RX4 22 RX4 "logSize" "I" ∈ tw := tw_in 337 (by decide +kernel) (by decide +kernel)
theorem fl_X4_26 : Cond.fieldLink RX4 26 RX4 "error" "I" ∈ tw := tw_in 338 (by decide +kernel) (by decide +kernel)
theorem fl_X4_29 : Cond.fieldLink RX4 29 RX4 "read" "I" ∈ tw := tw_in 341 (by decide +kernel) (by decide +kernel)
theorem fl_X4_32 : Cond.fieldLink RX4 32 RX4 "handedOn" "I" ∈ tw := tw_in 344 (by decide +kernel) (by decide +kernel)
theorem fl_X4_35 : Cond.fieldLink RX4 35 RX4 "opened" "I" ∈ tw := tw_in 346 (by decide +kernel) (by decide +kernel)
theorem fl_X4_38 : Cond.fieldLink RX4 38 RX4 "open" "I" ∈ tw := tw_in 347 (by decide +kernel) (by decide +kernel)
theorem fl_X4_41 : Cond.fieldLink RX4 41 RX4 "mostOpen" "I" ∈ tw := tw_in 348 (by decide +kernel) (by decide +kernel)
theorem fl_X4_44 : Cond.fieldLink RX4 44 RX0 "size" "I" ∈ tw := tw_in 288 (by decide +kernel) (by decide +kernel)
theorem fl_X4_55 : Cond.fieldLink RX4 55 RX0 "codes" "[I" ∈ tw := tw_in 283 (by decide +kernel) (by decide +kernel)
theorem fl_X5_12 : Cond.fieldLink RX5 12 RX5 "course" "LUnnestPlans$Course;" ∈ tw := tw_in 372 (by decide +kernel) (by decide +kernel)
theorem fl_X5_21 : Cond.fieldLink RX5 21 RX5 "pairs" "LUnnestPlans$Pairs;" ∈ tw := tw_in 374 (by decide +kernel) (by decide +kernel)
theorem fl_X5_28 : Cond.fieldLink RX5 28 RX5 "report" "LUnnestPlans$Report;" ∈ tw := tw_in 376 (by decide +kernel) (by decide +kernel)
theorem fl_X5_33 : Cond.fieldLink RX5 33 RX5 "wanted" "I" ∈ tw := tw_in 379 (by decide +kernel) (by decide +kernel)
theorem fl_X5_37 : Cond.fieldLink RX5 37 RX5 "arrived" "I" ∈ tw := tw_in 380 (by decide +kernel) (by decide +kernel)
theorem fl_X5_40 : Cond.fieldLink RX5 40 RX5 "kept" "LUnnestPlans$Kept;" ∈ tw := tw_in 378 (by decide +kernel) (by decide +kernel)
theorem fl_X5_44 : Cond.fieldLink RX5 44 RX3 "outer" "LUnnestPlans$Table;" ∈ tw := tw_in 171 (by decide +kernel) (by decide +kernel)
theorem fl_X5_50 : Cond.fieldLink RX5 50 RX3 "steps" "LUnnestPlans$Steps;" ∈ tw := tw_in 177 (by decide +kernel) (by decide +kernel)
theorem fl_X5_61 : Cond.fieldLink RX5 61 RX8 "size" "I" ∈ tw := tw_in 129 (by decide +kernel) (by decide +kernel)
theorem fl_X5_66 : Cond.fieldLink RX5 66 RX4 "error" "I" ∈ tw := tw_in 339 (by decide +kernel) (by decide +kernel)
theorem fl_X5_69 : Cond.fieldLink RX5 69 RX8 "keys" "[I" ∈ tw := tw_in 121 (by decide +kernel) (by decide +kernel)
theorem fl_X5_73 : Cond.fieldLink RX5 73 RX8 "values" "[I" ∈ tw := tw_in 125 (by decide +kernel) (by decide +kernel)
theorem fl_X5_83 : Cond.fieldLink RX5 83 RX3 "inner" "LUnnestPlans$Table;" ∈ tw := tw_in 174 (by decide +kernel) (by decide +kernel)
theorem fl_X5_93 : Cond.fieldLink RX5 93 RX1 "tallies" "[LUnnestPlans$Tally;" ∈ tw := tw_in 262 (by decide +kernel) (by decide +kernel)
theorem fl_X5_110 : Cond.fieldLink RX5 110 RX0 "joinAt" "I" ∈ tw := tw_in 292 (by decide +kernel) (by decide +kernel)
theorem fl_X5_130 : Cond.fieldLink RX5 130 RX2 "places" "[I" ∈ tw := tw_in 315 (by decide +kernel) (by decide +kernel)
theorem fl_X5_137 : Cond.fieldLink RX5 137 RX4 "read" "I" ∈ tw := tw_in 342 (by decide +kernel) (by decide +kernel)
theorem fl_X5_140 : Cond.fieldLink RX5 140 RX4 "handedOn" "I" ∈ tw := tw_in 345 (by decide +kernel) (by decide +kernel)
theorem fl_X5_150 : Cond.fieldLink RX5 150 RX0 "size" "I" ∈ tw := tw_in 289 (by decide +kernel) (by decide +kernel)
theorem fl_X5_151 : Cond.fieldLink RX5 151 RX0 "codes" "[I" ∈ tw := tw_in 284 (by decide +kernel) (by decide +kernel)
theorem fl_X5_154 : Cond.fieldLink RX5 154 RX2 "size" "I" ∈ tw := tw_in 317 (by decide +kernel) (by decide +kernel)
theorem fl_X5_155 : Cond.fieldLink RX5 155 RX2 "keys" "[I" ∈ tw := tw_in 309 (by decide +kernel) (by decide +kernel)
theorem fl_X5_156 : Cond.fieldLink RX5 156 RX2 "values" "[I" ∈ tw := tw_in 312 (by decide +kernel) (by decide +kernel)
theorem fl_X5_157 : Cond.fieldLink RX5 157 RX1 "sizes" "[I" ∈ tw := tw_in 260 (by decide +kernel) (by decide +kernel)
theorem fl_X5_160 : Cond.fieldLink RX5 160 RX1 "rows" "[[I" ∈ tw := tw_in 258 (by decide +kernel) (by decide +kernel)
theorem fl_X5_195 : Cond.fieldLink RX5 195 RX0 "figures" "[I" ∈ tw := tw_in 286 (by decide +kernel) (by decide +kernel)
theorem fl_X6_9 : Cond.fieldLink RX6 9 RX6 "items" "[I" ∈ tw := tw_in 208 (by decide +kernel) (by decide +kernel)
theorem fl_X6_15 : Cond.fieldLink RX6 15 RX6 "form" "I" ∈ tw := tw_in 211 (by decide +kernel) (by decide +kernel)
theorem fl_X6_19 : Cond.fieldLink RX6 19 RX6 "size" "I" ∈ tw := tw_in 213 (by decide +kernel) (by decide +kernel)
theorem fl_X7_9 : Cond.fieldLink RX7 9 RX7 "codes" "[I" ∈ tw := tw_in 150 (by decide +kernel) (by decide +kernel)
theorem fl_X7_15 : Cond.fieldLink RX7 15 RX7 "figures" "[I" ∈ tw := tw_in 153 (by decide +kernel) (by decide +kernel)
theorem fl_X7_18 : Cond.fieldLink RX7 18 RX7 "size" "I" ∈ tw := tw_in 156 (by decide +kernel) (by decide +kernel)
theorem fl_X7_22 : Cond.fieldLink RX7 22 RX7 "fault" "I" ∈ tw := tw_in 159 (by decide +kernel) (by decide +kernel)
theorem fl_X7_25 : Cond.fieldLink RX7 25 RX10 "size" "I" ∈ tw := tw_in 195 (by decide +kernel) (by decide +kernel)
theorem fl_X7_28 : Cond.fieldLink RX7 28 RX10 "bytes" "[I" ∈ tw := tw_in 192 (by decide +kernel) (by decide +kernel)
theorem fl_X8_9 : Cond.fieldLink RX8 9 RX8 "keys" "[I" ∈ tw := tw_in 120 (by decide +kernel) (by decide +kernel)
theorem fl_X8_15 : Cond.fieldLink RX8 15 RX8 "values" "[I" ∈ tw := tw_in 124 (by decide +kernel) (by decide +kernel)
theorem fl_X8_18 : Cond.fieldLink RX8 18 RX8 "size" "I" ∈ tw := tw_in 128 (by decide +kernel) (by decide +kernel)
theorem fl_X8_22 : Cond.fieldLink RX8 22 RX8 "fault" "I" ∈ tw := tw_in 132 (by decide +kernel) (by decide +kernel)
theorem fl_X8_29 : Cond.fieldLink RX8 29 RX10 "size" "I" ∈ tw := tw_in 196 (by decide +kernel) (by decide +kernel)
theorem fl_X8_32 : Cond.fieldLink RX8 32 RX10 "bytes" "[I" ∈ tw := tw_in 193 (by decide +kernel) (by decide +kernel)
theorem fl_X9_9 : Cond.fieldLink RX9 9 RX9 "rows" "I" ∈ tw := tw_in 238 (by decide +kernel) (by decide +kernel)
theorem fl_X9_15 : Cond.fieldLink RX9 15 RX9 "present" "I" ∈ tw := tw_in 239 (by decide +kernel) (by decide +kernel)
theorem fl_X9_18 : Cond.fieldLink RX9 18 RX9 "sum" "I" ∈ tw := tw_in 240 (by decide +kernel) (by decide +kernel)
theorem fl_X9_21 : Cond.fieldLink RX9 21 RX9 "least" "I" ∈ tw := tw_in 241 (by decide +kernel) (by decide +kernel)
theorem fl_X9_24 : Cond.fieldLink RX9 24 RX9 "greatest" "I" ∈ tw := tw_in 242 (by decide +kernel) (by decide +kernel)
theorem fl_X9_27 : Cond.fieldLink RX9 27 RX9 "matched" "Z" ∈ tw := tw_in 243 (by decide +kernel) (by decide +kernel)
theorem fl_X10_7 : Cond.fieldLink RX10 7 RX10 "size" "I" ∈ tw := tw_in 194 (by decide +kernel) (by decide +kernel)
theorem fl_X10_13 : Cond.fieldLink RX10 13 RX10 "bytes" "[I" ∈ tw := tw_in 191 (by decide +kernel) (by decide +kernel)
theorem fl_X10_17 : Cond.fieldLink RX10 17 RX6 "size" "I" ∈ tw := tw_in 214 (by decide +kernel) (by decide +kernel)
theorem fl_X10_20 : Cond.fieldLink RX10 20 RX6 "items" "[I" ∈ tw := tw_in 209 (by decide +kernel) (by decide +kernel)
theorem fl_X12_7 : Cond.fieldLink RX12 7 RX12 "typed" "[I" ∈ tw := tw_in 886 (by decide +kernel) (by decide +kernel)
theorem fl_X12_13 : Cond.fieldLink RX12 13 RX12 "texts" "[I" ∈ tw := tw_in 887 (by decide +kernel) (by decide +kernel)
theorem fl_X12_16 : Cond.fieldLink RX12 16 RX12 "faults" "[I" ∈ tw := tw_in 888 (by decide +kernel) (by decide +kernel)
theorem fl_X12_19 : Cond.fieldLink RX12 19 RX12 "rows" "[I" ∈ tw := tw_in 889 (by decide +kernel) (by decide +kernel)
theorem fl_X12_22 : Cond.fieldLink RX12 22 RX12 "ks" "[I" ∈ tw := tw_in 890 (by decide +kernel) (by decide +kernel)
theorem fl_X12_25 : Cond.fieldLink RX12 25 RX12 "vs" "[I" ∈ tw := tw_in 891 (by decide +kernel) (by decide +kernel)
theorem fl_X12_28 : Cond.fieldLink RX12 28 RX12 "kinds" "[I" ∈ tw := tw_in 893 (by decide +kernel) (by decide +kernel)
theorem fl_X12_31 : Cond.fieldLink RX12 31 RX12 "figures" "[I" ∈ tw := tw_in 894 (by decide +kernel) (by decide +kernel)
theorem fl_X12_34 : Cond.fieldLink RX12 34 RX12 "errorAt" "[I" ∈ tw := tw_in 898 (by decide +kernel) (by decide +kernel)
theorem fl_X12_37 : Cond.fieldLink RX12 37 RX12 "answers" "[I" ∈ tw := tw_in 899 (by decide +kernel) (by decide +kernel)
theorem fl_X12_40 : Cond.fieldLink RX12 40 RX12 "costs" "[I" ∈ tw := tw_in 900 (by decide +kernel) (by decide +kernel)
theorem fl_X12_43 : Cond.fieldLink RX12 43 RX12 "logged" "[I" ∈ tw := tw_in 901 (by decide +kernel) (by decide +kernel)
theorem fl_X12_46 : Cond.fieldLink RX12 46 RX12 "logs" "[I" ∈ tw := tw_in 902 (by decide +kernel) (by decide +kernel)
theorem fl_X12_49 : Cond.fieldLink RX12 49 RX12 "rowK" "[I" ∈ tw := tw_in 904 (by decide +kernel) (by decide +kernel)
theorem fl_X12_52 : Cond.fieldLink RX12 52 RX12 "rowV" "[I" ∈ tw := tw_in 905 (by decide +kernel) (by decide +kernel)
theorem fl_X12_55 : Cond.fieldLink RX12 55 RX12 "rowPair" "[I" ∈ tw := tw_in 906 (by decide +kernel) (by decide +kernel)
theorem fl_X12_58 : Cond.fieldLink RX12 58 RX12 "outK" "[I" ∈ tw := tw_in 908 (by decide +kernel) (by decide +kernel)
theorem fl_X12_61 : Cond.fieldLink RX12 61 RX12 "outV" "[I" ∈ tw := tw_in 909 (by decide +kernel) (by decide +kernel)
theorem fl_X12_64 : Cond.fieldLink RX12 64 RX12 "outPair" "[I" ∈ tw := tw_in 910 (by decide +kernel) (by decide +kernel)
theorem fl_X12_67 : Cond.fieldLink RX12 67 RX12 "hadMany" "[I" ∈ tw := tw_in 911 (by decide +kernel) (by decide +kernel)
theorem fl_X12_70 : Cond.fieldLink RX12 70 RX12 "hadK" "[I" ∈ tw := tw_in 912 (by decide +kernel) (by decide +kernel)
theorem fl_X12_73 : Cond.fieldLink RX12 73 RX12 "hadV" "[I" ∈ tw := tw_in 913 (by decide +kernel) (by decide +kernel)
theorem fl_X12_76 : Cond.fieldLink RX12 76 RX12 "pairK" "[I" ∈ tw := tw_in 918 (by decide +kernel) (by decide +kernel)
theorem fl_X12_79 : Cond.fieldLink RX12 79 RX12 "pairV" "[I" ∈ tw := tw_in 919 (by decide +kernel) (by decide +kernel)
theorem fl_X12_82 : Cond.fieldLink RX12 82 RX12 "pairOf" "[I" ∈ tw := tw_in 920 (by decide +kernel) (by decide +kernel)
theorem fl_X12_85 : Cond.fieldLink RX12 85 RX12 "planRow" "[I" ∈ tw := tw_in 922 (by decide +kernel) (by decide +kernel)
theorem fl_X12_88 : Cond.fieldLink RX12 88 RX12 "ownAnswers" "[I" ∈ tw := tw_in 923 (by decide +kernel) (by decide +kernel)
theorem fl_X12_91 : Cond.fieldLink RX12 91 RX12 "isThere" "[Z" ∈ tw := tw_in 924 (by decide +kernel) (by decide +kernel)
theorem fl_X12_95 : Cond.fieldLink RX12 95 RX12 "forms" "[I" ∈ tw := tw_in 925 (by decide +kernel) (by decide +kernel)
theorem fl_X12_98 : Cond.fieldLink RX12 98 RX12 "sizes" "[I" ∈ tw := tw_in 926 (by decide +kernel) (by decide +kernel)
theorem fl_X12_101 : Cond.fieldLink RX12 101 RX12 "items" "[I" ∈ tw := tw_in 927 (by decide +kernel) (by decide +kernel)
theorem fl_X12_104 : Cond.fieldLink RX12 104 RX12 "moved" "[I" ∈ tw := tw_in 928 (by decide +kernel) (by decide +kernel)
theorem fl_X12_145 : Cond.fieldLink RX12 145 RX12 "stepsTold" "I" ∈ tw := tw_in 892 (by decide +kernel) (by decide +kernel)
theorem fl_X12_175 : Cond.fieldLink RX12 175 RX12 "endTold" "I" ∈ tw := tw_in 895 (by decide +kernel) (by decide +kernel)
theorem fl_X12_178 : Cond.fieldLink RX12 178 RX12 "outMany" "I" ∈ tw := tw_in 907 (by decide +kernel) (by decide +kernel)
theorem fl_X12_181 : Cond.fieldLink RX12 181 RX12 "many" "I" ∈ tw := tw_in 903 (by decide +kernel) (by decide +kernel)
theorem fl_X12_184 : Cond.fieldLink RX12 184 RX12 "endNow" "I" ∈ tw := tw_in 896 (by decide +kernel) (by decide +kernel)
theorem fl_X12_190 : Cond.fieldLink RX12 190 RX12 "without" "I" ∈ tw := tw_in 897 (by decide +kernel) (by decide +kernel)
theorem fl_X12_200 : Cond.fieldLink RX12 200 RX12 "handed" "I" ∈ tw := tw_in 914 (by decide +kernel) (by decide +kernel)
theorem fl_X12_207 : Cond.fieldLink RX12 207 RX12 "isOver" "Z" ∈ tw := tw_in 916 (by decide +kernel) (by decide +kernel)
theorem fl_X12_211 : Cond.fieldLink RX12 211 RX12 "readMany" "I" ∈ tw := tw_in 915 (by decide +kernel) (by decide +kernel)
theorem fl_X12_244 : Cond.fieldLink RX12 244 RX12 "pairs" "I" ∈ tw := tw_in 917 (by decide +kernel) (by decide +kernel)
theorem fl_X12_261 : Cond.fieldLink RX12 261 RX12 "planMany" "I" ∈ tw := tw_in 921 (by decide +kernel) (by decide +kernel)
theorem fl_X12_331 : Cond.fieldLink RX12 331 RX12 "finding" "I" ∈ tw := tw_in 929 (by decide +kernel) (by decide +kernel)
theorem lk_X11_61 : Cond.methodLink RX11 61 yX11_within ∈ tw := tw_in 426 (by decide +kernel) (by decide +kernel)
theorem lk_X11_65 : Cond.methodLink RX11 65 yX11_isByte ∈ tw := tw_in 429 (by decide +kernel) (by decide +kernel)
theorem lk_X11_69 : Cond.methodLink RX11 69 yX10_append ∈ tw := tw_in 432 (by decide +kernel) (by decide +kernel)
theorem lk_X11_72 : Cond.methodLink RX11 72 yX11_understand ∈ tw := tw_in 436 (by decide +kernel) (by decide +kernel)
theorem lk_X11_87 : Cond.methodLink RX11 87 yX11_tableOf ∈ tw := tw_in 454 (by decide +kernel) (by decide +kernel)
theorem lk_X11_109 : Cond.methodLink RX11 109 yX11_isPlan ∈ tw := tw_in 497 (by decide +kernel) (by decide +kernel)
theorem lk_X11_112 : Cond.methodLink RX11 112 yX11_refresh ∈ tw := tw_in 500 (by decide +kernel) (by decide +kernel)
theorem lk_X11_115 : Cond.methodLink RX11 115 yX11_runOf ∈ tw := tw_in 683 (by decide +kernel) (by decide +kernel)
theorem lk_X11_128 : Cond.methodLink RX11 128 yX11_hosts ∈ tw := tw_in 691 (by decide +kernel) (by decide +kernel)
theorem lk_X11_132 : Cond.methodLink RX11 132 yX4_answerOf ∈ tw := tw_in 695 (by decide +kernel) (by decide +kernel)
theorem lk_X11_136 : Cond.methodLink RX11 136 yX11_sameBit ∈ tw := tw_in 703 (by decide +kernel) (by decide +kernel)
theorem lk_X11_139 : Cond.methodLink RX11 139 yX4_together ∈ tw := tw_in 715 (by decide +kernel) (by decide +kernel)
theorem lk_X11_143 : Cond.methodLink RX11 143 yX7_speakingBits ∈ tw := tw_in 724 (by decide +kernel) (by decide +kernel)
theorem lk_X11_146 : Cond.methodLink RX11 146 yX11_endSpeaks ∈ tw := tw_in 728 (by decide +kernel) (by decide +kernel)
theorem lk_X11_156 : Cond.methodLink RX11 156 yX11_pairPart ∈ tw := tw_in 733 (by decide +kernel) (by decide +kernel)
theorem lk_X11_163 : Cond.methodLink RX11 163 yX0_codeAt ∈ tw := tw_in 741 (by decide +kernel) (by decide +kernel)
theorem lk_X11_168 : Cond.methodLink RX11 168 yX4_costOf ∈ tw := tw_in 750 (by decide +kernel) (by decide +kernel)
theorem lk_X11_171 : Cond.methodLink RX11 171 yX4_loggedAt ∈ tw := tw_in 758 (by decide +kernel) (by decide +kernel)
theorem lk_X11_174 : Cond.methodLink RX11 174 yX11_spareBits ∈ tw := tw_in 767 (by decide +kernel) (by decide +kernel)
theorem lk_X11_177 : Cond.methodLink RX11 177 yX11_found ∈ tw := tw_in 775 (by decide +kernel) (by decide +kernel)
theorem lk_X11_180 : Cond.methodLink RX11 180 yX6_renew ∈ tw := tw_in 779 (by decide +kernel) (by decide +kernel)
theorem lk_X11_184 : Cond.methodLink RX11 184 yX6_isLost ∈ tw := tw_in 788 (by decide +kernel) (by decide +kernel)
theorem lk_X11_189 : Cond.methodLink RX11 189 yX6_forget ∈ tw := tw_in 792 (by decide +kernel) (by decide +kernel)
theorem lk_X11_192 : Cond.methodLink RX11 192 yX6_findingAt ∈ tw := tw_in 800 (by decide +kernel) (by decide +kernel)
theorem lk_X11_195 : Cond.methodLink RX11 195 yX6_assign ∈ tw := tw_in 806 (by decide +kernel) (by decide +kernel)
theorem lk_X11_205 : Cond.methodLink RX11 205 yX6_hasRange ∈ tw := tw_in 819 (by decide +kernel) (by decide +kernel)
theorem lk_X11_214 : Cond.methodLink RX11 214 yJ9_min_7cf53 ∈ tw := tw_in 830 (by decide +kernel) (by decide +kernel)
theorem lk_X11_219 : Cond.methodLink RX11 219 yX10_appendFrom ∈ tw := tw_in 837 (by decide +kernel) (by decide +kernel)
theorem lk_X11_223 : Cond.methodLink RX11 223 yX11_counted ∈ tw := tw_in 847 (by decide +kernel) (by decide +kernel)
theorem lk_X11_228 : Cond.methodLink RX11 228 yX11_mix ∈ tw := tw_in 856 (by decide +kernel) (by decide +kernel)
theorem lk_X11_232 : Cond.methodLink RX11 232 yX11_mixTexts ∈ tw := tw_in 860 (by decide +kernel) (by decide +kernel)
theorem lk_X11_236 : Cond.methodLink RX11 236 yX11_speaks ∈ tw := tw_in 867 (by decide +kernel) (by decide +kernel)
theorem lk_X11_239 : Cond.methodLink RX11 239 yX11_mixReport ∈ tw := tw_in 868 (by decide +kernel) (by decide +kernel)
theorem lk_X11_243 : Cond.methodLink RX11 243 yX11_mixEnds ∈ tw := tw_in 876 (by decide +kernel) (by decide +kernel)
theorem lk_X11_253 : Cond.methodLink RX11 253 yX7_parse ∈ tw := tw_in 440 (by decide +kernel) (by decide +kernel)
theorem lk_X11_257 : Cond.methodLink RX11 257 yX8_parse ∈ tw := tw_in 458 (by decide +kernel) (by decide +kernel)
theorem lk_X11_258 : Cond.methodLink RX11 258 yX5_askRowByRow ∈ tw := tw_in 504 (by decide +kernel) (by decide +kernel)
theorem lk_X11_262 : Cond.methodLink RX11 262 yX5_askFree ∈ tw := tw_in 642 (by decide +kernel) (by decide +kernel)
theorem lk_X11_266 : Cond.methodLink RX11 266 yX4_isLike ∈ tw := tw_in 707 (by decide +kernel) (by decide +kernel)
theorem lk_X11_278 : Cond.methodLink RX11 278 yX11_fault ∈ tw := tw_in 864 (by decide +kernel) (by decide +kernel)
theorem lk_X11_280 : Cond.methodLink RX11 280 yX11_row ∈ tw := tw_in 865 (by decide +kernel) (by decide +kernel)
theorem lk_X11_284 : Cond.methodLink RX11 284 yX11_step ∈ tw := tw_in 866 (by decide +kernel) (by decide +kernel)
theorem lk_X11_287 : Cond.methodLink RX11 287 yX11_mixAnswers ∈ tw := tw_in 872 (by decide +kernel) (by decide +kernel)
theorem lk_X0_25 : Cond.methodLink RX0 25 yX0_begin ∈ tw := tw_in 512 (by decide +kernel) (by decide +kernel)
theorem lk_X0_33 : Cond.methodLink RX0 33 yX0_add ∈ tw := tw_in 516 (by decide +kernel) (by decide +kernel)
theorem lk_X0_37 : Cond.methodLink RX0 37 yX7_firstSpeaking ∈ tw := tw_in 650 (by decide +kernel) (by decide +kernel)
theorem lk_X0_41 : Cond.methodLink RX0 41 yX0_addJoin ∈ tw := tw_in 658 (by decide +kernel) (by decide +kernel)
theorem lk_X0_45 : (RX0, 45, yX11_endSpeaks) ∈ nwL := by decide +kernel
theorem lk_X0_49 : (RX0, 49, yX11_within) ∈ nwL := by decide +kernel
theorem lk_X1_27 : Cond.methodLink RX1 27 yJ7_fill_53178 ∈ tw := tw_in 536 (by decide +kernel) (by decide +kernel)
theorem lk_X1_33 : Cond.methodLink RX1 33 yX9_clear ∈ tw := tw_in 539 (by decide +kernel) (by decide +kernel)
theorem lk_X2_25 : Cond.methodLink RX2 25 yJ7_fill_53178 ∈ tw := tw_in 669 (by decide +kernel) (by decide +kernel)
theorem lk_X2_36 : Cond.methodLink RX2 36 yX2_placeOf ∈ tw := tw_in 679 (by decide +kernel) (by decide +kernel)
theorem lk_X4_49 : Cond.methodLink RX4 49 yJ9_max_7cf53 ∈ tw := tw_in 547 (by decide +kernel) (by decide +kernel)
theorem lk_X4_58 : Cond.methodLink RX4 58 yX4_tell ∈ tw := tw_in 550 (by decide +kernel) (by decide +kernel)
theorem lk_X4_62 : Cond.methodLink RX4 62 yX9_isError ∈ tw := tw_in 617 (by decide +kernel) (by decide +kernel)
theorem lk_X4_68 : Cond.methodLink RX4 68 yX9_outcome ∈ tw := tw_in 621 (by decide +kernel) (by decide +kernel)
theorem lk_X4_71 : Cond.methodLink RX4 71 yX9_mean ∈ tw := tw_in 637 (by decide +kernel) (by decide +kernel)
theorem lk_X4_75 : (RX4, 75, yX11_within) ∈ nwL := by decide +kernel
theorem lk_X4_79 : (RX4, 79, yX11_bitsOf) ∈ nwL := by decide +kernel
theorem lk_X5_54 : Cond.methodLink RX5 54 yX0_layRowByRow ∈ tw := tw_in 508 (by decide +kernel) (by decide +kernel)
theorem lk_X5_58 : Cond.methodLink RX5 58 yX4_clear ∈ tw := tw_in 520 (by decide +kernel) (by decide +kernel)
theorem lk_X5_76 : Cond.methodLink RX5 76 yX2_setOne ∈ tw := tw_in 524 (by decide +kernel) (by decide +kernel)
theorem lk_X5_80 : Cond.methodLink RX5 80 yX5_begin ∈ tw := tw_in 528 (by decide +kernel) (by decide +kernel)
theorem lk_X5_86 : Cond.methodLink RX5 86 yX5_readInner ∈ tw := tw_in 554 (by decide +kernel) (by decide +kernel)
theorem lk_X5_90 : Cond.methodLink RX5 90 yX5_handOnKept ∈ tw := tw_in 609 (by decide +kernel) (by decide +kernel)
theorem lk_X5_99 : Cond.methodLink RX5 99 yX4_settle ∈ tw := tw_in 613 (by decide +kernel) (by decide +kernel)
theorem lk_X5_103 : Cond.methodLink RX5 103 yX4_shutAll ∈ tw := tw_in 638 (by decide +kernel) (by decide +kernel)
theorem lk_X5_107 : Cond.methodLink RX5 107 yX0_layFree ∈ tw := tw_in 646 (by decide +kernel) (by decide +kernel)
theorem lk_X5_113 : Cond.methodLink RX5 113 yX2_setNone ∈ tw := tw_in 665 (by decide +kernel) (by decide +kernel)
theorem lk_X5_116 : (RX5, 116, yX11_endSpeaks) ∈ nwL := by decide +kernel
theorem lk_X5_120 : Cond.methodLink RX5 120 yX7_hasUnion ∈ tw := tw_in 671 (by decide +kernel) (by decide +kernel)
theorem lk_X5_126 : Cond.methodLink RX5 126 yX2_gather ∈ tw := tw_in 675 (by decide +kernel) (by decide +kernel)
theorem lk_X5_133 : Cond.methodLink RX5 133 yX1_clear ∈ tw := tw_in 532 (by decide +kernel) (by decide +kernel)
theorem lk_X5_134 : Cond.methodLink RX5 134 yX4_openAll ∈ tw := tw_in 543 (by decide +kernel) (by decide +kernel)
theorem lk_X5_143 : Cond.methodLink RX5 143 yX5_packed ∈ tw := tw_in 558 (by decide +kernel) (by decide +kernel)
theorem lk_X5_147 : Cond.methodLink RX5 147 yX5_feed ∈ tw := tw_in 561 (by decide +kernel) (by decide +kernel)
theorem lk_X5_164 : Cond.methodLink RX5 164 yX5_pass ∈ tw := tw_in 565 (by decide +kernel) (by decide +kernel)
theorem lk_X5_167 : Cond.methodLink RX5 167 yX5_arrive ∈ tw := tw_in 592 (by decide +kernel) (by decide +kernel)
theorem lk_X5_171 : Cond.methodLink RX5 171 yX5_joins ∈ tw := tw_in 605 (by decide +kernel) (by decide +kernel)
theorem lk_X5_175 : Cond.methodLink RX5 175 yX5_keyOf ∈ tw := tw_in 573 (by decide +kernel) (by decide +kernel)
theorem lk_X5_179 : Cond.methodLink RX5 179 yX5_through ∈ tw := tw_in 569 (by decide +kernel) (by decide +kernel)
theorem lk_X5_183 : Cond.methodLink RX5 183 yX5_valueOf ∈ tw := tw_in 576 (by decide +kernel) (by decide +kernel)
theorem lk_X5_186 : Cond.methodLink RX5 186 yX2_keyAt ∈ tw := tw_in 579 (by decide +kernel) (by decide +kernel)
theorem lk_X5_189 : Cond.methodLink RX5 189 yX1_isNew ∈ tw := tw_in 583 (by decide +kernel) (by decide +kernel)
theorem lk_X5_192 : Cond.methodLink RX5 192 yX1_addToGroup ∈ tw := tw_in 587 (by decide +kernel) (by decide +kernel)
theorem lk_X5_198 : (RX5, 198, yX11_within) ∈ nwL := by decide +kernel
theorem lk_X5_201 : Cond.methodLink RX5 201 yX2_valueAt ∈ tw := tw_in 597 (by decide +kernel) (by decide +kernel)
theorem lk_X5_204 : Cond.methodLink RX5 204 yX9_take ∈ tw := tw_in 601 (by decide +kernel) (by decide +kernel)
theorem lk_X6_22 : Cond.methodLink RX6 22 yJ7_fill_53178 ∈ tw := tw_in 783 (by decide +kernel) (by decide +kernel)
theorem lk_X6_28 : Cond.methodLink RX6 28 yX6_isLost ∈ tw := tw_in 804 (by decide +kernel) (by decide +kernel)
theorem lk_X6_32 : (RX6, 32, yX11_within) ∈ nwL := by decide +kernel
theorem lk_X7_31 : Cond.methodLink RX7 31 yX7_codeOf ∈ tw := tw_in 444 (by decide +kernel) (by decide +kernel)
theorem lk_X7_35 : Cond.methodLink RX7 35 yX7_add ∈ tw := tw_in 447 (by decide +kernel) (by decide +kernel)
theorem lk_X7_39 : (RX7, 39, yX11_isFigure) ∈ nwL := by decide +kernel
theorem lk_X7_43 : Cond.methodLink RX7 43 yX7_speaksAt ∈ tw := tw_in 654 (by decide +kernel) (by decide +kernel)
theorem lk_X8_25 : Cond.methodLink RX8 25 yX8_firstWrong ∈ tw := tw_in 462 (by decide +kernel) (by decide +kernel)
theorem lk_X8_35 : Cond.methodLink RX8 35 yX8_valueOf ∈ tw := tw_in 466 (by decide +kernel) (by decide +kernel)
theorem lk_X8_39 : (RX8, 39, yX11_isFigure) ∈ nwL := by decide +kernel
theorem lk_X9_31 : Cond.methodLink RX9 31 yX9_mean ∈ tw := tw_in 625 (by decide +kernel) (by decide +kernel)
theorem lk_X9_35 : (RX9, 35, yX11_bitsOf) ∈ nwL := by decide +kernel
theorem lk_X9_39 : Cond.methodLink RX9 39 yX9_isIn ∈ tw := tw_in 633 (by decide +kernel) (by decide +kernel)
theorem lk_X10_23 : (RX10, 23, yX11_isByte) ∈ nwL := by decide +kernel
theorem lk_X10_29 : Cond.methodLink RX10 29 yX10_append ∈ tw := tw_in 842 (by decide +kernel) (by decide +kernel)
theorem lk_X12_107 : Cond.methodLink RX12 107 yX12_in ∈ tw := tw_in 1027 (by decide +kernel) (by decide +kernel)
theorem lk_X12_116 : Cond.methodLink RX12 116 yX12_bitsOf ∈ tw := tw_in 1177 (by decide +kernel) (by decide +kernel)
theorem lk_X12_121 : Cond.methodLink RX12 121 yX12_isText ∈ tw := tw_in 1024 (by decide +kernel) (by decide +kernel)
theorem lk_X12_125 : Cond.methodLink RX12 125 yX12_roomOf ∈ tw := tw_in 1030 (by decide +kernel) (by decide +kernel)
theorem lk_X12_129 : Cond.methodLink RX12 129 yX12_isSheet ∈ tw := tw_in 1045 (by decide +kernel) (by decide +kernel)
theorem lk_X12_132 : Cond.methodLink RX12 132 yX12_meets ∈ tw := tw_in 1048 (by decide +kernel) (by decide +kernel)
theorem lk_X12_135 : Cond.methodLink RX12 135 yX12_type ∈ tw := tw_in 1052 (by decide +kernel) (by decide +kernel)
theorem lk_X12_139 : Cond.methodLink RX12 139 yX12_byteAt ∈ tw := tw_in 1073 (by decide +kernel) (by decide +kernel)
theorem lk_X12_142 : Cond.methodLink RX12 142 yX12_valueAt ∈ tw := tw_in 1069 (by decide +kernel) (by decide +kernel)
theorem lk_X12_149 : Cond.methodLink RX12 149 yX12_kindOf ∈ tw := tw_in 1081 (by decide +kernel) (by decide +kernel)
theorem lk_X12_152 : Cond.methodLink RX12 152 yX12_readsTable ∈ tw := tw_in 1065 (by decide +kernel) (by decide +kernel)
theorem lk_X12_155 : Cond.methodLink RX12 155 yX12_readsSteps ∈ tw := tw_in 1077 (by decide +kernel) (by decide +kernel)
theorem lk_X12_159 : Cond.methodLink RX12 159 yX12_reads ∈ tw := tw_in 1061 (by decide +kernel) (by decide +kernel)
theorem lk_X12_162 : Cond.methodLink RX12 162 yX12_faultOf ∈ tw := tw_in 1057 (by decide +kernel) (by decide +kernel)
theorem lk_X12_165 : Cond.methodLink RX12 165 yX12_isTwo ∈ tw := tw_in 1088 (by decide +kernel) (by decide +kernel)
theorem lk_X12_168 : Cond.methodLink RX12 168 yX12_rowOf ∈ tw := tw_in 1091 (by decide +kernel) (by decide +kernel)
theorem lk_X12_172 : Cond.methodLink RX12 172 yX12_stepOf ∈ tw := tw_in 1099 (by decide +kernel) (by decide +kernel)
theorem lk_X12_187 : Cond.methodLink RX12 187 yX12_divided ∈ tw := tw_in 1174 (by decide +kernel) (by decide +kernel)
theorem lk_X12_193 : Cond.methodLink RX12 193 yX12_stays ∈ tw := tw_in 1155 (by decide +kernel) (by decide +kernel)
theorem lk_X12_197 : Cond.methodLink RX12 197 yX12_isNew ∈ tw := tw_in 1158 (by decide +kernel) (by decide +kernel)
theorem lk_X12_203 : Cond.methodLink RX12 203 yX12_puts ∈ tw := tw_in 1162 (by decide +kernel) (by decide +kernel)
theorem lk_X12_214 : Cond.methodLink RX12 214 yX12_goes ∈ tw := tw_in 1151 (by decide +kernel) (by decide +kernel)
theorem lk_X12_218 : Cond.methodLink RX12 218 yX12_comesOfInner ∈ tw := tw_in 1143 (by decide +kernel) (by decide +kernel)
theorem lk_X12_221 : Cond.methodLink RX12 221 yX12_goThrough ∈ tw := tw_in 1147 (by decide +kernel) (by decide +kernel)
theorem lk_X12_225 : Cond.methodLink RX12 225 yX12_groups ∈ tw := tw_in 1166 (by decide +kernel) (by decide +kernel)
theorem lk_X12_228 : Cond.methodLink RX12 228 yX12_logs ∈ tw := tw_in 1135 (by decide +kernel) (by decide +kernel)
theorem lk_X12_231 : Cond.methodLink RX12 231 yX12_begins ∈ tw := tw_in 1127 (by decide +kernel) (by decide +kernel)
theorem lk_X12_235 : Cond.methodLink RX12 235 yX12_opens ∈ tw := tw_in 1131 (by decide +kernel) (by decide +kernel)
theorem lk_X12_238 : Cond.methodLink RX12 238 yX12_asksFor ∈ tw := tw_in 1139 (by decide +kernel) (by decide +kernel)
theorem lk_X12_241 : Cond.methodLink RX12 241 yX12_answerOf ∈ tw := tw_in 1170 (by decide +kernel) (by decide +kernel)
theorem lk_X12_247 : Cond.methodLink RX12 247 yX12_speaksNow ∈ tw := tw_in 1191 (by decide +kernel) (by decide +kernel)
theorem lk_X12_250 : Cond.methodLink RX12 250 yX12_isOfV ∈ tw := tw_in 1195 (by decide +kernel) (by decide +kernel)
theorem lk_X12_254 : Cond.methodLink RX12 254 yX12_isIn ∈ tw := tw_in 1207 (by decide +kernel) (by decide +kernel)
theorem lk_X12_258 : Cond.methodLink RX12 258 yX12_joinAt ∈ tw := tw_in 1203 (by decide +kernel) (by decide +kernel)
theorem lk_X12_264 : Cond.methodLink RX12 264 yX12_isLike ∈ tw := tw_in 1222 (by decide +kernel) (by decide +kernel)
theorem lk_X12_267 : Cond.methodLink RX12 267 yX12_findsDomain ∈ tw := tw_in 1187 (by decide +kernel) (by decide +kernel)
theorem lk_X12_270 : Cond.methodLink RX12 270 yX12_plans ∈ tw := tw_in 1199 (by decide +kernel) (by decide +kernel)
theorem lk_X12_273 : Cond.methodLink RX12 273 yX12_joins ∈ tw := tw_in 1210 (by decide +kernel) (by decide +kernel)
theorem lk_X12_277 : Cond.methodLink RX12 277 yX12_comesIn ∈ tw := tw_in 1214 (by decide +kernel) (by decide +kernel)
theorem lk_X12_280 : Cond.methodLink RX12 280 yX12_does ∈ tw := tw_in 1218 (by decide +kernel) (by decide +kernel)
theorem lk_X12_283 : Cond.methodLink RX12 283 yX12_rowByRow ∈ tw := tw_in 1123 (by decide +kernel) (by decide +kernel)
theorem lk_X12_286 : Cond.methodLink RX12 286 yX12_free ∈ tw := tw_in 1183 (by decide +kernel) (by decide +kernel)
theorem lk_X12_289 : Cond.methodLink RX12 289 yX12_runs ∈ tw := tw_in 1119 (by decide +kernel) (by decide +kernel)
theorem lk_X12_292 : Cond.methodLink RX12 292 yX12_runsTold ∈ tw := tw_in 1115 (by decide +kernel) (by decide +kernel)
theorem lk_X12_295 : Cond.methodLink RX12 295 yX12_errorOf ∈ tw := tw_in 1111 (by decide +kernel) (by decide +kernel)
theorem lk_X12_298 : Cond.methodLink RX12 298 yX12_answerNow ∈ tw := tw_in 1234 (by decide +kernel) (by decide +kernel)
theorem lk_X12_301 : Cond.methodLink RX12 301 yX12_answerFor ∈ tw := tw_in 1230 (by decide +kernel) (by decide +kernel)
theorem lk_X12_304 : Cond.methodLink RX12 304 yX12_sameOf ∈ tw := tw_in 1242 (by decide +kernel) (by decide +kernel)
theorem lk_X12_307 : Cond.methodLink RX12 307 yX12_added ∈ tw := tw_in 1254 (by decide +kernel) (by decide +kernel)
theorem lk_X12_310 : Cond.methodLink RX12 310 yX12_totalOf ∈ tw := tw_in 1250 (by decide +kernel) (by decide +kernel)
theorem lk_X12_313 : Cond.methodLink RX12 313 yX12_speaksOf ∈ tw := tw_in 1262 (by decide +kernel) (by decide +kernel)
theorem lk_X12_316 : Cond.methodLink RX12 316 yX12_domainOf ∈ tw := tw_in 1270 (by decide +kernel) (by decide +kernel)
theorem lk_X12_319 : Cond.methodLink RX12 319 yX12_planOf ∈ tw := tw_in 1278 (by decide +kernel) (by decide +kernel)
theorem lk_X12_322 : Cond.methodLink RX12 322 yX12_costOf ∈ tw := tw_in 1286 (by decide +kernel) (by decide +kernel)
theorem lk_X12_325 : Cond.methodLink RX12 325 yX12_logOf ∈ tw := tw_in 1294 (by decide +kernel) (by decide +kernel)
theorem lk_X12_328 : Cond.methodLink RX12 328 yX12_spareOf ∈ tw := tw_in 1302 (by decide +kernel) (by decide +kernel)
theorem lk_X12_334 : Cond.methodLink RX12 334 yX12_lacks ∈ tw := tw_in 1318 (by decide +kernel) (by decide +kernel)
theorem lk_X12_337 : Cond.methodLink RX12 337 yX12_keep ∈ tw := tw_in 1322 (by decide +kernel) (by decide +kernel)
theorem lk_X12_341 : Cond.methodLink RX12 341 yX12_tellOf ∈ tw := tw_in 1343 (by decide +kernel) (by decide +kernel)
theorem lk_X12_346 : Cond.methodLink RX12 346 yX12_answerDigest ∈ tw := tw_in 1358 (by decide +kernel) (by decide +kernel)
theorem lk_X12_352 : Cond.methodLink RX12 352 yX12_count ∈ tw := tw_in 1353 (by decide +kernel) (by decide +kernel)
theorem lk_X12_355 : Cond.methodLink RX12 355 yX12_planDigest ∈ tw := tw_in 1354 (by decide +kernel) (by decide +kernel)
theorem kc_X11_198 : Cond.constant RX11 198 (-2147483648) ∈ tw := tw_in 814 (by decide +kernel) (by decide +kernel)
theorem kc_X11_226 : Cond.constantLong RX11 226 17 ∈ tw := tw_in 855 (by decide +kernel) (by decide +kernel)
theorem kc_X11_276 : Cond.constantLong RX11 276 31 ∈ tw := tw_in 859 (by decide +kernel) (by decide +kernel)
theorem kc_X11_290 : Cond.constantFloat RX11 290 1258291200 ∈ tw := tw_in 632 (by decide +kernel) (by decide +kernel)
theorem kc_X1_36 : Cond.constant RX1 36 (-1048321) ∈ tw := tw_in 591 (by decide +kernel) (by decide +kernel)
theorem kc_X5_32 : Cond.constant RX5 32 1000000 ∈ tw := tw_in 371 (by decide +kernel) (by decide +kernel)
theorem kc_X12_111 : Cond.constantLong RX12 111 16777216 ∈ tw := tw_in 1180 (by decide +kernel) (by decide +kernel)
theorem kc_X12_113 : Cond.constantLong RX12 113 8388608 ∈ tw := tw_in 1181 (by decide +kernel) (by decide +kernel)
theorem kc_X12_115 : Cond.constant RX12 115 8388607 ∈ tw := tw_in 1182 (by decide +kernel) (by decide +kernel)
theorem kc_X12_120 : Cond.constant RX12 120 8388608 ∈ tw := tw_in 1257 (by decide +kernel) (by decide +kernel)
theorem kc_X12_340 : Cond.constant RX12 340 (-2147483648) ∈ tw := tw_in 1330 (by decide +kernel) (by decide +kernel)
theorem kc_X12_344 : Cond.constantLong RX12 344 31 ∈ tw := tw_in 1352 (by decide +kernel) (by decide +kernel)
theorem kc_X12_350 : Cond.constantLong RX12 350 17 ∈ tw := tw_in 1351 (by decide +kernel) (by decide +kernel)
theorem ci_Course_add : CIV yX0_add cX0_add 3 none 2 := ⟨tw_in 519 (by decide +kernel) (by decide +kernel), tw_in 89 (by decide +kernel) (by decide +kernel), tw_in 518 (by decide +kernel) (by decide +kernel), tw_in 5 (by decide +kernel) (by decide +kernel), by decide, by decide +kernel, by decide +kernel, by decide +kernel⟩
theorem ci_Course_begin : CIV yX0_begin cX0_begin 1 none 0 := ⟨tw_in 515 (by decide +kernel) (by decide +kernel), tw_in 89 (by decide +kernel) (by decide +kernel), tw_in 514 (by decide +kernel) (by decide +kernel), tw_in 4 (by decide +kernel) (by decide +kernel), by decide, by decide +kernel, by decide +kernel, by decide +kernel⟩
theorem ci_Course_layRowByRow : CIV yX0_layRowByRow cX0_layRowByRow 4 none 2 := ⟨tw_in 511 (by decide +kernel) (by decide +kernel), tw_in 89 (by decide +kernel) (by decide +kernel), tw_in 509 (by decide +kernel) (by decide +kernel), tw_in 510 (by decide +kernel) (by decide +kernel), by decide, by decide +kernel, by decide +kernel, by decide +kernel⟩
theorem ci_Steps_speaksAt : CIV yX7_speaksAt cX7_speaksAt 2 (some .boolean) 1 := ⟨tw_in 657 (by decide +kernel) (by decide +kernel), tw_in 83 (by decide +kernel) (by decide +kernel), tw_in 656 (by decide +kernel) (by decide +kernel), tw_in 16 (by decide +kernel) (by decide +kernel), by decide, by decide +kernel, by decide +kernel, by decide +kernel⟩
theorem ci_Steps_firstSpeaking : CIV yX7_firstSpeaking cX7_firstSpeaking 2 (some .int) 0 := ⟨tw_in 653 (by decide +kernel) (by decide +kernel), tw_in 83 (by decide +kernel) (by decide +kernel), tw_in 651 (by decide +kernel) (by decide +kernel), tw_in 652 (by decide +kernel) (by decide +kernel), by decide, by decide +kernel, by decide +kernel, by decide +kernel⟩
theorem ci_Course_addJoin : CIV yX0_addJoin cX0_addJoin 2 none 1 := ⟨tw_in 661 (by decide +kernel) (by decide +kernel), tw_in 89 (by decide +kernel) (by decide +kernel), tw_in 660 (by decide +kernel) (by decide +kernel), tw_in 17 (by decide +kernel) (by decide +kernel), by decide, by decide +kernel, by decide +kernel, by decide +kernel⟩
theorem ci_U_endSpeaks : CIS yX11_endSpeaks cX11_endSpeaks 1 (some .boolean) 1 := ⟨tw_in 664 (by decide +kernel) (by decide +kernel), tw_in 80 (by decide +kernel) (by decide +kernel), tw_in 663 (by decide +kernel) (by decide +kernel), by decide, by decide +kernel, by decide +kernel, by decide +kernel⟩
theorem ci_Course_layFree : CIV yX0_layFree cX0_layFree 6 none 2 := ⟨tw_in 649 (by decide +kernel) (by decide +kernel), tw_in 89 (by decide +kernel) (by decide +kernel), tw_in 647 (by decide +kernel) (by decide +kernel), tw_in 648 (by decide +kernel) (by decide +kernel), by decide, by decide +kernel, by decide +kernel, by decide +kernel⟩
theorem ci_U_within : CIS yX11_within cX11_within 2 (some .boolean) 2 := ⟨tw_in 428 (by decide +kernel) (by decide +kernel), tw_in 80 (by decide +kernel) (by decide +kernel), tw_in 427 (by decide +kernel) (by decide +kernel), by decide, by decide +kernel, by decide +kernel, by decide +kernel⟩
theorem ci_Course_codeAt : CIV yX0_codeAt cX0_codeAt 2 (some .int) 1 := ⟨tw_in 744 (by decide +kernel) (by decide +kernel), tw_in 89 (by decide +kernel) (by decide +kernel), tw_in 742 (by decide +kernel) (by decide +kernel), tw_in 743 (by decide +kernel) (by decide +kernel), by decide, by decide +kernel, by decide +kernel, by decide +kernel⟩
theorem ci_J_fill : CIS yJ7_fill_53178 cJ7_fill_53178 4 none 2 := ⟨tw_in 538 (by decide +kernel) (by decide +kernel), tw_in 93 (by decide +kernel) (by decide +kernel), tw_in 537 (by decide +kernel) (by decide +kernel), by decide, by decide +kernel, by decide +kernel, by decide +kernel⟩
theorem ci_Tally_clear : CIV yX9_clear cX9_clear 1 none 0 := ⟨tw_in 542 (by decide +kernel) (by decide +kernel), tw_in 87 (by decide +kernel) (by decide +kernel), tw_in 540 (by decide +kernel) (by decide +kernel), tw_in 541 (by decide +kernel) (by decide +kernel), by decide, by decide +kernel, by decide +kernel, by decide +kernel⟩
theorem ci_Kept_clear : CIV yX1_clear cX1_clear 2 none 0 := ⟨tw_in 535 (by decide +kernel) (by decide +kernel), tw_in 86 (by decide +kernel) (by decide +kernel), tw_in 533 (by decide +kernel) (by decide +kernel), tw_in 534 (by decide +kernel) (by decide +kernel), by decide, by decide +kernel, by decide +kernel, by decide +kernel⟩
theorem ci_Kept_isNew : CIV yX1_isNew cX1_isNew 4 (some .boolean) 2 := ⟨tw_in 586 (by decide +kernel) (by decide +kernel), tw_in 86 (by decide +kernel) (by decide +kernel), tw_in 584 (by decide +kernel) (by decide +kernel), tw_in 585 (by decide +kernel) (by decide +kernel), by decide, by decide +kernel, by decide +kernel, by decide +kernel⟩
theorem ci_Kept_addToGroup : CIV yX1_addToGroup cX1_addToGroup 5 none 2 := ⟨tw_in 590 (by decide +kernel) (by decide +kernel), tw_in 86 (by decide +kernel) (by decide +kernel), tw_in 588 (by decide +kernel) (by decide +kernel), tw_in 589 (by decide +kernel) (by decide +kernel), by decide, by decide +kernel, by decide +kernel, by decide +kernel⟩
theorem ci_Pairs_setOne : CIV yX2_setOne cX2_setOne 3 none 2 := ⟨tw_in 527 (by decide +kernel) (by decide +kernel), tw_in 90 (by decide +kernel) (by decide +kernel), tw_in 525 (by decide +kernel) (by decide +kernel), tw_in 526 (by decide +kernel) (by decide +kernel), by decide, by decide +kernel, by decide +kernel, by decide +kernel⟩
theorem ci_Pairs_setNone : CIV yX2_setNone cX2_setNone 1 none 0 := ⟨tw_in 668 (by decide +kernel) (by decide +kernel), tw_in 90 (by decide +kernel) (by decide +kernel), tw_in 666 (by decide +kernel) (by decide +kernel), tw_in 667 (by decide +kernel) (by decide +kernel), by decide, by decide +kernel, by decide +kernel, by decide +kernel⟩
theorem ci_Pairs_placeOf : CIV yX2_placeOf cX2_placeOf 4 (some .int) 2 := ⟨tw_in 682 (by decide +kernel) (by decide +kernel), tw_in 90 (by decide +kernel) (by decide +kernel), tw_in 681 (by decide +kernel) (by decide +kernel), tw_in 18 (by decide +kernel) (by decide +kernel), by decide, by decide +kernel, by decide +kernel, by decide +kernel⟩
theorem ci_Pairs_gather : CIV yX2_gather cX2_gather 4 none 2 := ⟨tw_in 678 (by decide +kernel) (by decide +kernel), tw_in 90 (by decide +kernel) (by decide +kernel), tw_in 676 (by decide +kernel) (by decide +kernel), tw_in 677 (by decide +kernel) (by decide +kernel), by decide, by decide +kernel, by decide +kernel, by decide +kernel⟩
theorem ci_Pairs_keyAt : CIV yX2_keyAt cX2_keyAt 2 (some .int) 1 := ⟨tw_in 582 (by decide +kernel) (by decide +kernel), tw_in 90 (by decide +kernel) (by decide +kernel), tw_in 580 (by decide +kernel) (by decide +kernel), tw_in 581 (by decide +kernel) (by decide +kernel), by decide, by decide +kernel, by decide +kernel, by decide +kernel⟩
theorem ci_Pairs_valueAt : CIV yX2_valueAt cX2_valueAt 2 (some .int) 1 := ⟨tw_in 600 (by decide +kernel) (by decide +kernel), tw_in 90 (by decide +kernel) (by decide +kernel), tw_in 598 (by decide +kernel) (by decide +kernel), tw_in 599 (by decide +kernel) (by decide +kernel), by decide, by decide +kernel, by decide +kernel, by decide +kernel⟩
theorem ci_Report_clear : CIV yX4_clear cX4_clear 1 none 0 := ⟨tw_in 523 (by decide +kernel) (by decide +kernel), tw_in 91 (by decide +kernel) (by decide +kernel), tw_in 521 (by decide +kernel) (by decide +kernel), tw_in 522 (by decide +kernel) (by decide +kernel), by decide, by decide +kernel, by decide +kernel, by decide +kernel⟩
theorem ci_J_max : CIS yJ9_max_7cf53 cJ9_max_7cf53 2 (some .int) 2 := ⟨tw_in 549 (by decide +kernel) (by decide +kernel), tw_in 94 (by decide +kernel) (by decide +kernel), tw_in 548 (by decide +kernel) (by decide +kernel), by decide, by decide +kernel, by decide +kernel, by decide +kernel⟩
theorem ci_Report_tell : CIV yX4_tell cX4_tell 2 none 1 := ⟨tw_in 553 (by decide +kernel) (by decide +kernel), tw_in 91 (by decide +kernel) (by decide +kernel), tw_in 552 (by decide +kernel) (by decide +kernel), tw_in 7 (by decide +kernel) (by decide +kernel), by decide, by decide +kernel, by decide +kernel, by decide +kernel⟩
theorem ci_Report_openAll : CIV yX4_openAll cX4_openAll 3 none 1 := ⟨tw_in 546 (by decide +kernel) (by decide +kernel), tw_in 91 (by decide +kernel) (by decide +kernel), tw_in 544 (by decide +kernel) (by decide +kernel), tw_in 545 (by decide +kernel) (by decide +kernel), by decide, by decide +kernel, by decide +kernel, by decide +kernel⟩
theorem ci_Report_shutAll : CIV yX4_shutAll cX4_shutAll 3 none 1 := ⟨tw_in 641 (by decide +kernel) (by decide +kernel), tw_in 91 (by decide +kernel) (by decide +kernel), tw_in 639 (by decide +kernel) (by decide +kernel), tw_in 640 (by decide +kernel) (by decide +kernel), by decide, by decide +kernel, by decide +kernel, by decide +kernel⟩
theorem ci_Tally_isError : CIV yX9_isError cX9_isError 2 (some .boolean) 1 := ⟨tw_in 620 (by decide +kernel) (by decide +kernel), tw_in 87 (by decide +kernel) (by decide +kernel), tw_in 618 (by decide +kernel) (by decide +kernel), tw_in 619 (by decide +kernel) (by decide +kernel), by decide, by decide +kernel, by decide +kernel, by decide +kernel⟩
theorem ci_Tally_mean : CIV yX9_mean cX9_mean 1 (some .float) 0 := ⟨tw_in 628 (by decide +kernel) (by decide +kernel), tw_in 87 (by decide +kernel) (by decide +kernel), tw_in 626 (by decide +kernel) (by decide +kernel), tw_in 627 (by decide +kernel) (by decide +kernel), by decide, by decide +kernel, by decide +kernel, by decide +kernel⟩
theorem ci_U_bitsOf : CIS yX11_bitsOf cX11_bitsOf 4 (some .int) 1 := ⟨tw_in 631 (by decide +kernel) (by decide +kernel), tw_in 80 (by decide +kernel) (by decide +kernel), tw_in 630 (by decide +kernel) (by decide +kernel), by decide, by decide +kernel, by decide +kernel, by decide +kernel⟩
theorem ci_Tally_isIn : CIV yX9_isIn cX9_isIn 2 (some .int) 1 := ⟨tw_in 636 (by decide +kernel) (by decide +kernel), tw_in 87 (by decide +kernel) (by decide +kernel), tw_in 635 (by decide +kernel) (by decide +kernel), tw_in 15 (by decide +kernel) (by decide +kernel), by decide, by decide +kernel, by decide +kernel, by decide +kernel⟩
theorem ci_Tally_outcome : CIV yX9_outcome cX9_outcome 3 (some .int) 2 := ⟨tw_in 624 (by decide +kernel) (by decide +kernel), tw_in 87 (by decide +kernel) (by decide +kernel), tw_in 622 (by decide +kernel) (by decide +kernel), tw_in 623 (by decide +kernel) (by decide +kernel), by decide, by decide +kernel, by decide +kernel, by decide +kernel⟩
theorem ci_Report_settle : CIV yX4_settle cX4_settle 5 none 4 := ⟨tw_in 616 (by decide +kernel) (by decide +kernel), tw_in 91 (by decide +kernel) (by decide +kernel), tw_in 614 (by decide +kernel) (by decide +kernel), tw_in 615 (by decide +kernel) (by decide +kernel), by decide, by decide +kernel, by decide +kernel, by decide +kernel⟩
theorem ci_Report_answerOf : CIV yX4_answerOf cX4_answerOf 2 (some .int) 1 := ⟨tw_in 698 (by decide +kernel) (by decide +kernel), tw_in 91 (by decide +kernel) (by decide +kernel), tw_in 696 (by decide +kernel) (by decide +kernel), tw_in 697 (by decide +kernel) (by decide +kernel), by decide, by decide +kernel, by decide +kernel, by decide +kernel⟩
theorem ci_Report_loggedAt : CIV yX4_loggedAt cX4_loggedAt 2 (some .int) 1 := ⟨tw_in 761 (by decide +kernel) (by decide +kernel), tw_in 91 (by decide +kernel) (by decide +kernel), tw_in 759 (by decide +kernel) (by decide +kernel), tw_in 760 (by decide +kernel) (by decide +kernel), by decide, by decide +kernel, by decide +kernel, by decide +kernel⟩
theorem ci_Report_costOf : CIV yX4_costOf cX4_costOf 2 (some .int) 1 := ⟨tw_in 753 (by decide +kernel) (by decide +kernel), tw_in 91 (by decide +kernel) (by decide +kernel), tw_in 751 (by decide +kernel) (by decide +kernel), tw_in 752 (by decide +kernel) (by decide +kernel), by decide, by decide +kernel, by decide +kernel, by decide +kernel⟩
theorem ci_Report_isLike : CIV yX4_isLike cX4_isLike 4 (some .boolean) 2 := ⟨tw_in 710 (by decide +kernel) (by decide +kernel), tw_in 91 (by decide +kernel) (by decide +kernel), tw_in 708 (by decide +kernel) (by decide +kernel), tw_in 709 (by decide +kernel) (by decide +kernel), by decide, by decide +kernel, by decide +kernel, by decide +kernel⟩
theorem ci_Report_together : CIV yX4_together cX4_together 6 (some .int) 2 := ⟨tw_in 718 (by decide +kernel) (by decide +kernel), tw_in 91 (by decide +kernel) (by decide +kernel), tw_in 716 (by decide +kernel) (by decide +kernel), tw_in 717 (by decide +kernel) (by decide +kernel), by decide, by decide +kernel, by decide +kernel, by decide +kernel⟩
theorem ci_Run_begin : CIV yX5_begin cX5_begin 1 none 0 := ⟨tw_in 531 (by decide +kernel) (by decide +kernel), tw_in 88 (by decide +kernel) (by decide +kernel), tw_in 530 (by decide +kernel) (by decide +kernel), tw_in 6 (by decide +kernel) (by decide +kernel), by decide, by decide +kernel, by decide +kernel, by decide +kernel⟩
theorem ci_Run_packed : CIS yX5_packed cX5_packed 3 (some .int) 3 := ⟨tw_in 560 (by decide +kernel) (by decide +kernel), tw_in 88 (by decide +kernel) (by decide +kernel), tw_in 559 (by decide +kernel) (by decide +kernel), by decide, by decide +kernel, by decide +kernel, by decide +kernel⟩
theorem ci_Run_keyOf : CIS yX5_keyOf cX5_keyOf 1 (some .int) 1 := ⟨tw_in 575 (by decide +kernel) (by decide +kernel), tw_in 88 (by decide +kernel) (by decide +kernel), tw_in 574 (by decide +kernel) (by decide +kernel), by decide, by decide +kernel, by decide +kernel, by decide +kernel⟩
theorem ci_Run_valueOf : CIS yX5_valueOf cX5_valueOf 1 (some .int) 1 := ⟨tw_in 578 (by decide +kernel) (by decide +kernel), tw_in 88 (by decide +kernel) (by decide +kernel), tw_in 577 (by decide +kernel) (by decide +kernel), by decide, by decide +kernel, by decide +kernel, by decide +kernel⟩
theorem ci_Run_through : CIV yX5_through cX5_through 6 (some .int) 2 := ⟨tw_in 572 (by decide +kernel) (by decide +kernel), tw_in 88 (by decide +kernel) (by decide +kernel), tw_in 571 (by decide +kernel) (by decide +kernel), tw_in 11 (by decide +kernel) (by decide +kernel), by decide, by decide +kernel, by decide +kernel, by decide +kernel⟩
theorem ci_Run_pass : CIV yX5_pass cX5_pass 6 (some .int) 3 := ⟨tw_in 568 (by decide +kernel) (by decide +kernel), tw_in 88 (by decide +kernel) (by decide +kernel), tw_in 567 (by decide +kernel) (by decide +kernel), tw_in 10 (by decide +kernel) (by decide +kernel), by decide, by decide +kernel, by decide +kernel, by decide +kernel⟩
theorem ci_Tally_take : CIV yX9_take cX9_take 3 none 2 := ⟨tw_in 604 (by decide +kernel) (by decide +kernel), tw_in 87 (by decide +kernel) (by decide +kernel), tw_in 602 (by decide +kernel) (by decide +kernel), tw_in 603 (by decide +kernel) (by decide +kernel), by decide, by decide +kernel, by decide +kernel, by decide +kernel⟩
theorem ci_Run_arrive : CIV yX5_arrive cX5_arrive 3 none 1 := ⟨tw_in 595 (by decide +kernel) (by decide +kernel), tw_in 88 (by decide +kernel) (by decide +kernel), tw_in 594 (by decide +kernel) (by decide +kernel), tw_in 12 (by decide +kernel) (by decide +kernel), by decide, by decide +kernel, by decide +kernel, by decide +kernel⟩
theorem ci_Run_joins : CIV yX5_joins cX5_joins 4 (some .boolean) 2 := ⟨tw_in 608 (by decide +kernel) (by decide +kernel), tw_in 88 (by decide +kernel) (by decide +kernel), tw_in 607 (by decide +kernel) (by decide +kernel), tw_in 13 (by decide +kernel) (by decide +kernel), by decide, by decide +kernel, by decide +kernel, by decide +kernel⟩
theorem ci_Run_feed : CIV yX5_feed cX5_feed 5 none 2 := ⟨tw_in 564 (by decide +kernel) (by decide +kernel), tw_in 88 (by decide +kernel) (by decide +kernel), tw_in 563 (by decide +kernel) (by decide +kernel), tw_in 9 (by decide +kernel) (by decide +kernel), by decide, by decide +kernel, by decide +kernel, by decide +kernel⟩
theorem ci_Run_readInner : CIV yX5_readInner cX5_readInner 3 none 1 := ⟨tw_in 557 (by decide +kernel) (by decide +kernel), tw_in 88 (by decide +kernel) (by decide +kernel), tw_in 556 (by decide +kernel) (by decide +kernel), tw_in 8 (by decide +kernel) (by decide +kernel), by decide, by decide +kernel, by decide +kernel, by decide +kernel⟩
theorem ci_Run_handOnKept : CIV yX5_handOnKept cX5_handOnKept 4 none 0 := ⟨tw_in 612 (by decide +kernel) (by decide +kernel), tw_in 88 (by decide +kernel) (by decide +kernel), tw_in 611 (by decide +kernel) (by decide +kernel), tw_in 14 (by decide +kernel) (by decide +kernel), by decide, by decide +kernel, by decide +kernel, by decide +kernel⟩
theorem ci_Run_askRowByRow : CIV yX5_askRowByRow cX5_askRowByRow 6 none 3 := ⟨tw_in 507 (by decide +kernel) (by decide +kernel), tw_in 88 (by decide +kernel) (by decide +kernel), tw_in 505 (by decide +kernel) (by decide +kernel), tw_in 506 (by decide +kernel) (by decide +kernel), by decide, by decide +kernel, by decide +kernel, by decide +kernel⟩
theorem ci_Steps_hasUnion : CIV yX7_hasUnion cX7_hasUnion 2 (some .boolean) 0 := ⟨tw_in 674 (by decide +kernel) (by decide +kernel), tw_in 83 (by decide +kernel) (by decide +kernel), tw_in 672 (by decide +kernel) (by decide +kernel), tw_in 673 (by decide +kernel) (by decide +kernel), by decide, by decide +kernel, by decide +kernel, by decide +kernel⟩
theorem ci_Run_askFree : CIV yX5_askFree cX5_askFree 5 none 2 := ⟨tw_in 645 (by decide +kernel) (by decide +kernel), tw_in 88 (by decide +kernel) (by decide +kernel), tw_in 643 (by decide +kernel) (by decide +kernel), tw_in 644 (by decide +kernel) (by decide +kernel), by decide, by decide +kernel, by decide +kernel, by decide +kernel⟩
theorem ci_Sheet_isLost : CIV yX6_isLost cX6_isLost 1 (some .boolean) 0 := ⟨tw_in 791 (by decide +kernel) (by decide +kernel), tw_in 85 (by decide +kernel) (by decide +kernel), tw_in 789 (by decide +kernel) (by decide +kernel), tw_in 790 (by decide +kernel) (by decide +kernel), by decide, by decide +kernel, by decide +kernel, by decide +kernel⟩
theorem ci_Sheet_forget : CIV yX6_forget cX6_forget 1 none 0 := ⟨tw_in 795 (by decide +kernel) (by decide +kernel), tw_in 85 (by decide +kernel) (by decide +kernel), tw_in 793 (by decide +kernel) (by decide +kernel), tw_in 794 (by decide +kernel) (by decide +kernel), by decide, by decide +kernel, by decide +kernel, by decide +kernel⟩
theorem ci_Sheet_renew : CIV yX6_renew cX6_renew 3 none 2 := ⟨tw_in 782 (by decide +kernel) (by decide +kernel), tw_in 85 (by decide +kernel) (by decide +kernel), tw_in 780 (by decide +kernel) (by decide +kernel), tw_in 781 (by decide +kernel) (by decide +kernel), by decide, by decide +kernel, by decide +kernel, by decide +kernel⟩
theorem ci_Sheet_findingAt : CIV yX6_findingAt cX6_findingAt 3 (some .int) 2 := ⟨tw_in 803 (by decide +kernel) (by decide +kernel), tw_in 85 (by decide +kernel) (by decide +kernel), tw_in 801 (by decide +kernel) (by decide +kernel), tw_in 802 (by decide +kernel) (by decide +kernel), by decide, by decide +kernel, by decide +kernel, by decide +kernel⟩
theorem ci_Sheet_hasRange : CIV yX6_hasRange cX6_hasRange 3 (some .boolean) 2 := ⟨tw_in 822 (by decide +kernel) (by decide +kernel), tw_in 85 (by decide +kernel) (by decide +kernel), tw_in 820 (by decide +kernel) (by decide +kernel), tw_in 821 (by decide +kernel) (by decide +kernel), by decide, by decide +kernel, by decide +kernel, by decide +kernel⟩
theorem ci_Sheet_assign : CIV yX6_assign cX6_assign 3 none 2 := ⟨tw_in 809 (by decide +kernel) (by decide +kernel), tw_in 85 (by decide +kernel) (by decide +kernel), tw_in 807 (by decide +kernel) (by decide +kernel), tw_in 808 (by decide +kernel) (by decide +kernel), by decide, by decide +kernel, by decide +kernel, by decide +kernel⟩
theorem ci_Steps_codeOf : CIS yX7_codeOf cX7_codeOf 1 (some .int) 1 := ⟨tw_in 446 (by decide +kernel) (by decide +kernel), tw_in 83 (by decide +kernel) (by decide +kernel), tw_in 445 (by decide +kernel) (by decide +kernel), by decide, by decide +kernel, by decide +kernel, by decide +kernel⟩
theorem ci_Steps_add : CIV yX7_add cX7_add 3 none 2 := ⟨tw_in 450 (by decide +kernel) (by decide +kernel), tw_in 83 (by decide +kernel) (by decide +kernel), tw_in 449 (by decide +kernel) (by decide +kernel), tw_in 1 (by decide +kernel) (by decide +kernel), by decide, by decide +kernel, by decide +kernel, by decide +kernel⟩
theorem ci_U_isFigure : CIS yX11_isFigure cX11_isFigure 1 (some .boolean) 1 := ⟨tw_in 453 (by decide +kernel) (by decide +kernel), tw_in 80 (by decide +kernel) (by decide +kernel), tw_in 452 (by decide +kernel) (by decide +kernel), by decide, by decide +kernel, by decide +kernel, by decide +kernel⟩
theorem ci_Steps_parse : CIV yX7_parse cX7_parse 4 none 1 := ⟨tw_in 443 (by decide +kernel) (by decide +kernel), tw_in 83 (by decide +kernel) (by decide +kernel), tw_in 441 (by decide +kernel) (by decide +kernel), tw_in 442 (by decide +kernel) (by decide +kernel), by decide, by decide +kernel, by decide +kernel, by decide +kernel⟩
theorem ci_Steps_speakingBits : CIV yX7_speakingBits cX7_speakingBits 3 (some .int) 0 := ⟨tw_in 727 (by decide +kernel) (by decide +kernel), tw_in 83 (by decide +kernel) (by decide +kernel), tw_in 725 (by decide +kernel) (by decide +kernel), tw_in 726 (by decide +kernel) (by decide +kernel), by decide, by decide +kernel, by decide +kernel, by decide +kernel⟩
theorem ci_Table_firstWrong : CIS yX8_firstWrong cX8_firstWrong 4 (some .int) 1 := ⟨tw_in 464 (by decide +kernel) (by decide +kernel), tw_in 82 (by decide +kernel) (by decide +kernel), tw_in 463 (by decide +kernel) (by decide +kernel), by decide, by decide +kernel, by decide +kernel, by decide +kernel⟩
theorem ci_Table_valueOf : CIS yX8_valueOf cX8_valueOf 1 (some .int) 1 := ⟨tw_in 468 (by decide +kernel) (by decide +kernel), tw_in 82 (by decide +kernel) (by decide +kernel), tw_in 467 (by decide +kernel) (by decide +kernel), by decide, by decide +kernel, by decide +kernel, by decide +kernel⟩
theorem ci_Table_parse : CIV yX8_parse cX8_parse 3 none 1 := ⟨tw_in 461 (by decide +kernel) (by decide +kernel), tw_in 82 (by decide +kernel) (by decide +kernel), tw_in 459 (by decide +kernel) (by decide +kernel), tw_in 460 (by decide +kernel) (by decide +kernel), by decide, by decide +kernel, by decide +kernel, by decide +kernel⟩
theorem ci_Text_append : CIV yX10_append cX10_append 2 (some .boolean) 1 := ⟨tw_in 435 (by decide +kernel) (by decide +kernel), tw_in 84 (by decide +kernel) (by decide +kernel), tw_in 433 (by decide +kernel) (by decide +kernel), tw_in 434 (by decide +kernel) (by decide +kernel), by decide, by decide +kernel, by decide +kernel, by decide +kernel⟩
theorem ci_U_isByte : CIS yX11_isByte cX11_isByte 1 (some .boolean) 1 := ⟨tw_in 431 (by decide +kernel) (by decide +kernel), tw_in 80 (by decide +kernel) (by decide +kernel), tw_in 430 (by decide +kernel) (by decide +kernel), by decide, by decide +kernel, by decide +kernel, by decide +kernel⟩
theorem ci_Text_appendFrom : CIV yX10_appendFrom cX10_appendFrom 3 (some .int) 1 := ⟨tw_in 840 (by decide +kernel) (by decide +kernel), tw_in 84 (by decide +kernel) (by decide +kernel), tw_in 838 (by decide +kernel) (by decide +kernel), tw_in 839 (by decide +kernel) (by decide +kernel), by decide, by decide +kernel, by decide +kernel, by decide +kernel⟩
theorem ci_U_tableOf : CIV yX11_tableOf cX11_tableOf 2 (some (.object "UnnestPlans$Table")) 1 := ⟨tw_in 457 (by decide +kernel) (by decide +kernel), tw_in 80 (by decide +kernel) (by decide +kernel), tw_in 456 (by decide +kernel) (by decide +kernel), tw_in 2 (by decide +kernel) (by decide +kernel), by decide, by decide +kernel, by decide +kernel, by decide +kernel⟩
theorem ci_U_understand : CIV yX11_understand cX11_understand 2 none 1 := ⟨tw_in 439 (by decide +kernel) (by decide +kernel), tw_in 80 (by decide +kernel) (by decide +kernel), tw_in 438 (by decide +kernel) (by decide +kernel), tw_in 0 (by decide +kernel) (by decide +kernel), by decide, by decide +kernel, by decide +kernel, by decide +kernel⟩
theorem ci_U_type : CIV yX11_type cX11_type 3 (some .int) 2 := ⟨tw_in 425 (by decide +kernel) (by decide +kernel), tw_in 80 (by decide +kernel) (by decide +kernel), tw_in 423 (by decide +kernel) (by decide +kernel), tw_in 424 (by decide +kernel) (by decide +kernel), by decide, by decide +kernel, by decide +kernel, by decide +kernel⟩
theorem ci_U_wipe : CIV yX11_wipe cX11_wipe 3 (some .int) 1 := ⟨tw_in 472 (by decide +kernel) (by decide +kernel), tw_in 80 (by decide +kernel) (by decide +kernel), tw_in 470 (by decide +kernel) (by decide +kernel), tw_in 471 (by decide +kernel) (by decide +kernel), by decide, by decide +kernel, by decide +kernel, by decide +kernel⟩
theorem ci_U_undo : CIV yX11_undo cX11_undo 2 (some .int) 1 := ⟨tw_in 476 (by decide +kernel) (by decide +kernel), tw_in 80 (by decide +kernel) (by decide +kernel), tw_in 474 (by decide +kernel) (by decide +kernel), tw_in 475 (by decide +kernel) (by decide +kernel), by decide, by decide +kernel, by decide +kernel, by decide +kernel⟩
theorem ci_U_fault : CIV yX11_fault cX11_fault 2 (some .int) 1 := ⟨tw_in 480 (by decide +kernel) (by decide +kernel), tw_in 80 (by decide +kernel) (by decide +kernel), tw_in 478 (by decide +kernel) (by decide +kernel), tw_in 479 (by decide +kernel) (by decide +kernel), by decide, by decide +kernel, by decide +kernel, by decide +kernel⟩
theorem ci_U_row : CIV yX11_row cX11_row 4 (some .int) 3 := ⟨tw_in 484 (by decide +kernel) (by decide +kernel), tw_in 80 (by decide +kernel) (by decide +kernel), tw_in 482 (by decide +kernel) (by decide +kernel), tw_in 483 (by decide +kernel) (by decide +kernel), by decide, by decide +kernel, by decide +kernel, by decide +kernel⟩
theorem ci_U_step : CIV yX11_step cX11_step 3 (some .int) 2 := ⟨tw_in 488 (by decide +kernel) (by decide +kernel), tw_in 80 (by decide +kernel) (by decide +kernel), tw_in 486 (by decide +kernel) (by decide +kernel), tw_in 487 (by decide +kernel) (by decide +kernel), by decide, by decide +kernel, by decide +kernel, by decide +kernel⟩
theorem ci_U_end : CIV yX11_end cX11_end 3 (some .int) 1 := ⟨tw_in 492 (by decide +kernel) (by decide +kernel), tw_in 80 (by decide +kernel) (by decide +kernel), tw_in 490 (by decide +kernel) (by decide +kernel), tw_in 491 (by decide +kernel) (by decide +kernel), by decide, by decide +kernel, by decide +kernel, by decide +kernel⟩
theorem ci_U_isPlan : CIS yX11_isPlan cX11_isPlan 1 (some .boolean) 1 := ⟨tw_in 499 (by decide +kernel) (by decide +kernel), tw_in 80 (by decide +kernel) (by decide +kernel), tw_in 498 (by decide +kernel) (by decide +kernel), by decide, by decide +kernel, by decide +kernel, by decide +kernel⟩
theorem ci_U_refresh : CIV yX11_refresh cX11_refresh 1 none 0 := ⟨tw_in 503 (by decide +kernel) (by decide +kernel), tw_in 80 (by decide +kernel) (by decide +kernel), tw_in 502 (by decide +kernel) (by decide +kernel), tw_in 3 (by decide +kernel) (by decide +kernel), by decide, by decide +kernel, by decide +kernel, by decide +kernel⟩
theorem ci_U_runOf : CIV yX11_runOf cX11_runOf 2 (some (.object "UnnestPlans$Run")) 1 := ⟨tw_in 686 (by decide +kernel) (by decide +kernel), tw_in 80 (by decide +kernel) (by decide +kernel), tw_in 685 (by decide +kernel) (by decide +kernel), tw_in 19 (by decide +kernel) (by decide +kernel), by decide, by decide +kernel, by decide +kernel, by decide +kernel⟩
theorem ci_U_error : CIV yX11_error cX11_error 2 (some .int) 1 := ⟨tw_in 496 (by decide +kernel) (by decide +kernel), tw_in 80 (by decide +kernel) (by decide +kernel), tw_in 494 (by decide +kernel) (by decide +kernel), tw_in 495 (by decide +kernel) (by decide +kernel), by decide, by decide +kernel, by decide +kernel, by decide +kernel⟩
theorem ci_U_hosts : CIV yX11_hosts cX11_hosts 1 (some .int) 0 := ⟨tw_in 694 (by decide +kernel) (by decide +kernel), tw_in 80 (by decide +kernel) (by decide +kernel), tw_in 693 (by decide +kernel) (by decide +kernel), tw_in 20 (by decide +kernel) (by decide +kernel), by decide, by decide +kernel, by decide +kernel, by decide +kernel⟩
theorem ci_U_answer : CIV yX11_answer cX11_answer 3 (some .int) 2 := ⟨tw_in 690 (by decide +kernel) (by decide +kernel), tw_in 80 (by decide +kernel) (by decide +kernel), tw_in 688 (by decide +kernel) (by decide +kernel), tw_in 689 (by decide +kernel) (by decide +kernel), by decide, by decide +kernel, by decide +kernel, by decide +kernel⟩
theorem ci_U_sameBit : CIV yX11_sameBit cX11_sameBit 1 (some .int) 0 := ⟨tw_in 706 (by decide +kernel) (by decide +kernel), tw_in 80 (by decide +kernel) (by decide +kernel), tw_in 705 (by decide +kernel) (by decide +kernel), tw_in 21 (by decide +kernel) (by decide +kernel), by decide, by decide +kernel, by decide +kernel, by decide +kernel⟩
theorem ci_U_same : CIV yX11_same cX11_same 1 (some .int) 0 := ⟨tw_in 702 (by decide +kernel) (by decide +kernel), tw_in 80 (by decide +kernel) (by decide +kernel), tw_in 700 (by decide +kernel) (by decide +kernel), tw_in 701 (by decide +kernel) (by decide +kernel), by decide, by decide +kernel, by decide +kernel, by decide +kernel⟩
theorem ci_U_total : CIV yX11_total cX11_total 1 (some .int) 0 := ⟨tw_in 714 (by decide +kernel) (by decide +kernel), tw_in 80 (by decide +kernel) (by decide +kernel), tw_in 712 (by decide +kernel) (by decide +kernel), tw_in 713 (by decide +kernel) (by decide +kernel), by decide, by decide +kernel, by decide +kernel, by decide +kernel⟩
theorem ci_U_speaks : CIV yX11_speaks cX11_speaks 1 (some .int) 0 := ⟨tw_in 723 (by decide +kernel) (by decide +kernel), tw_in 80 (by decide +kernel) (by decide +kernel), tw_in 721 (by decide +kernel) (by decide +kernel), tw_in 722 (by decide +kernel) (by decide +kernel), by decide, by decide +kernel, by decide +kernel, by decide +kernel⟩
theorem ci_U_pairPart : CIV yX11_pairPart cX11_pairPart 3 (some .int) 2 := ⟨tw_in 736 (by decide +kernel) (by decide +kernel), tw_in 80 (by decide +kernel) (by decide +kernel), tw_in 735 (by decide +kernel) (by decide +kernel), tw_in 22 (by decide +kernel) (by decide +kernel), by decide, by decide +kernel, by decide +kernel, by decide +kernel⟩
theorem ci_U_domain : CIV yX11_domain cX11_domain 3 (some .int) 2 := ⟨tw_in 732 (by decide +kernel) (by decide +kernel), tw_in 80 (by decide +kernel) (by decide +kernel), tw_in 730 (by decide +kernel) (by decide +kernel), tw_in 731 (by decide +kernel) (by decide +kernel), by decide, by decide +kernel, by decide +kernel, by decide +kernel⟩
theorem ci_U_plan : CIV yX11_plan cX11_plan 2 (some .int) 1 := ⟨tw_in 740 (by decide +kernel) (by decide +kernel), tw_in 80 (by decide +kernel) (by decide +kernel), tw_in 738 (by decide +kernel) (by decide +kernel), tw_in 739 (by decide +kernel) (by decide +kernel), by decide, by decide +kernel, by decide +kernel, by decide +kernel⟩
theorem ci_U_cost : CIV yX11_cost cX11_cost 3 (some .int) 2 := ⟨tw_in 749 (by decide +kernel) (by decide +kernel), tw_in 80 (by decide +kernel) (by decide +kernel), tw_in 747 (by decide +kernel) (by decide +kernel), tw_in 748 (by decide +kernel) (by decide +kernel), by decide, by decide +kernel, by decide +kernel, by decide +kernel⟩
theorem ci_U_log : CIV yX11_log cX11_log 3 (some .int) 2 := ⟨tw_in 757 (by decide +kernel) (by decide +kernel), tw_in 80 (by decide +kernel) (by decide +kernel), tw_in 755 (by decide +kernel) (by decide +kernel), tw_in 756 (by decide +kernel) (by decide +kernel), by decide, by decide +kernel, by decide +kernel, by decide +kernel⟩
theorem ci_U_spareBits : CIV yX11_spareBits cX11_spareBits 3 (some .int) 0 := ⟨tw_in 770 (by decide +kernel) (by decide +kernel), tw_in 80 (by decide +kernel) (by decide +kernel), tw_in 769 (by decide +kernel) (by decide +kernel), tw_in 23 (by decide +kernel) (by decide +kernel), by decide, by decide +kernel, by decide +kernel, by decide +kernel⟩
theorem ci_U_spare : CIV yX11_spare cX11_spare 1 (some .int) 0 := ⟨tw_in 766 (by decide +kernel) (by decide +kernel), tw_in 80 (by decide +kernel) (by decide +kernel), tw_in 764 (by decide +kernel) (by decide +kernel), tw_in 765 (by decide +kernel) (by decide +kernel), by decide, by decide +kernel, by decide +kernel, by decide +kernel⟩
theorem ci_U_found : CIV yX11_found cX11_found 2 (some .int) 1 := ⟨tw_in 778 (by decide +kernel) (by decide +kernel), tw_in 80 (by decide +kernel) (by decide +kernel), tw_in 777 (by decide +kernel) (by decide +kernel), tw_in 24 (by decide +kernel) (by decide +kernel), by decide, by decide +kernel, by decide +kernel, by decide +kernel⟩
theorem ci_U_sheet : CIV yX11_sheet cX11_sheet 4 (some .int) 3 := ⟨tw_in 774 (by decide +kernel) (by decide +kernel), tw_in 80 (by decide +kernel) (by decide +kernel), tw_in 772 (by decide +kernel) (by decide +kernel), tw_in 773 (by decide +kernel) (by decide +kernel), by decide, by decide +kernel, by decide +kernel, by decide +kernel⟩
theorem ci_U_lose : CIV yX11_lose cX11_lose 3 (some .int) 1 := ⟨tw_in 787 (by decide +kernel) (by decide +kernel), tw_in 80 (by decide +kernel) (by decide +kernel), tw_in 785 (by decide +kernel) (by decide +kernel), tw_in 786 (by decide +kernel) (by decide +kernel), by decide, by decide +kernel, by decide +kernel, by decide +kernel⟩
theorem ci_U_put : CIV yX11_put cX11_put 6 (some .int) 4 := ⟨tw_in 799 (by decide +kernel) (by decide +kernel), tw_in 80 (by decide +kernel) (by decide +kernel), tw_in 797 (by decide +kernel) (by decide +kernel), tw_in 798 (by decide +kernel) (by decide +kernel), by decide, by decide +kernel, by decide +kernel, by decide +kernel⟩
theorem ci_U_get : CIV yX11_get cX11_get 5 (some .int) 3 := ⟨tw_in 813 (by decide +kernel) (by decide +kernel), tw_in 80 (by decide +kernel) (by decide +kernel), tw_in 811 (by decide +kernel) (by decide +kernel), tw_in 812 (by decide +kernel) (by decide +kernel), by decide, by decide +kernel, by decide +kernel, by decide +kernel⟩
theorem ci_U_copy : CIV yX11_copy cX11_copy 6 (some .int) 5 := ⟨tw_in 818 (by decide +kernel) (by decide +kernel), tw_in 80 (by decide +kernel) (by decide +kernel), tw_in 816 (by decide +kernel) (by decide +kernel), tw_in 817 (by decide +kernel) (by decide +kernel), by decide, by decide +kernel, by decide +kernel, by decide +kernel⟩
theorem ci_J_min : CIS yJ9_min_7cf53 cJ9_min_7cf53 2 (some .int) 2 := ⟨tw_in 832 (by decide +kernel) (by decide +kernel), tw_in 94 (by decide +kernel) (by decide +kernel), tw_in 831 (by decide +kernel) (by decide +kernel), by decide, by decide +kernel, by decide +kernel, by decide +kernel⟩
theorem ci_U_write : CIV yX11_write cX11_write 6 (some .int) 2 := ⟨tw_in 829 (by decide +kernel) (by decide +kernel), tw_in 80 (by decide +kernel) (by decide +kernel), tw_in 827 (by decide +kernel) (by decide +kernel), tw_in 828 (by decide +kernel) (by decide +kernel), by decide, by decide +kernel, by decide +kernel, by decide +kernel⟩
theorem ci_U_read : CIV yX11_read cX11_read 4 (some .int) 2 := ⟨tw_in 836 (by decide +kernel) (by decide +kernel), tw_in 80 (by decide +kernel) (by decide +kernel), tw_in 834 (by decide +kernel) (by decide +kernel), tw_in 835 (by decide +kernel) (by decide +kernel), by decide, by decide +kernel, by decide +kernel, by decide +kernel⟩
theorem ci_U_counted : CIV yX11_counted cX11_counted 2 (some .int) 1 := ⟨tw_in 850 (by decide +kernel) (by decide +kernel), tw_in 80 (by decide +kernel) (by decide +kernel), tw_in 849 (by decide +kernel) (by decide +kernel), tw_in 25 (by decide +kernel) (by decide +kernel), by decide, by decide +kernel, by decide +kernel, by decide +kernel⟩
theorem ci_U_count : CIV yX11_count cX11_count 2 (some .int) 1 := ⟨tw_in 846 (by decide +kernel) (by decide +kernel), tw_in 80 (by decide +kernel) (by decide +kernel), tw_in 844 (by decide +kernel) (by decide +kernel), tw_in 845 (by decide +kernel) (by decide +kernel), by decide, by decide +kernel, by decide +kernel, by decide +kernel⟩
theorem ci_U_mix : CIS yX11_mix cX11_mix 3 (some .long) 2 := ⟨tw_in 858 (by decide +kernel) (by decide +kernel), tw_in 80 (by decide +kernel) (by decide +kernel), tw_in 857 (by decide +kernel) (by decide +kernel), by decide, by decide +kernel, by decide +kernel, by decide +kernel⟩
theorem ci_U_mixTexts : CIV yX11_mixTexts cX11_mixTexts 6 (some .long) 1 := ⟨tw_in 863 (by decide +kernel) (by decide +kernel), tw_in 80 (by decide +kernel) (by decide +kernel), tw_in 862 (by decide +kernel) (by decide +kernel), tw_in 26 (by decide +kernel) (by decide +kernel), by decide, by decide +kernel, by decide +kernel, by decide +kernel⟩
theorem ci_U_mixAnswers : CIV yX11_mixAnswers cX11_mixAnswers 7 (some .long) 2 := ⟨tw_in 875 (by decide +kernel) (by decide +kernel), tw_in 80 (by decide +kernel) (by decide +kernel), tw_in 874 (by decide +kernel) (by decide +kernel), tw_in 28 (by decide +kernel) (by decide +kernel), by decide, by decide +kernel, by decide +kernel, by decide +kernel⟩
theorem ci_U_mixReport : CIV yX11_mixReport cX11_mixReport 7 (some .long) 2 := ⟨tw_in 871 (by decide +kernel) (by decide +kernel), tw_in 80 (by decide +kernel) (by decide +kernel), tw_in 870 (by decide +kernel) (by decide +kernel), tw_in 27 (by decide +kernel) (by decide +kernel), by decide, by decide +kernel, by decide +kernel, by decide +kernel⟩
theorem ci_U_mixEnds : CIV yX11_mixEnds cX11_mixEnds 6 (some .long) 1 := ⟨tw_in 879 (by decide +kernel) (by decide +kernel), tw_in 80 (by decide +kernel) (by decide +kernel), tw_in 878 (by decide +kernel) (by decide +kernel), tw_in 29 (by decide +kernel) (by decide +kernel), by decide, by decide +kernel, by decide +kernel, by decide +kernel⟩
theorem ci_U_digest : CIV yX11_digest cX11_digest 4 (some .long) 0 := ⟨tw_in 854 (by decide +kernel) (by decide +kernel), tw_in 80 (by decide +kernel) (by decide +kernel), tw_in 852 (by decide +kernel) (by decide +kernel), tw_in 853 (by decide +kernel) (by decide +kernel), by decide, by decide +kernel, by decide +kernel, by decide +kernel⟩
theorem ci_Mo_in : CIS yX12_in cX12_in 3 (some .boolean) 3 := ⟨tw_in 1029 (by decide +kernel) (by decide +kernel), tw_in 92 (by decide +kernel) (by decide +kernel), tw_in 1028 (by decide +kernel) (by decide +kernel), by decide, by decide +kernel, by decide +kernel, by decide +kernel⟩
theorem ci_Mo_isIn : CIS yX12_isIn cX12_isIn 2 (some .boolean) 2 := ⟨tw_in 1209 (by decide +kernel) (by decide +kernel), tw_in 92 (by decide +kernel) (by decide +kernel), tw_in 1208 (by decide +kernel) (by decide +kernel), by decide, by decide +kernel, by decide +kernel, by decide +kernel⟩
theorem ci_Mo_isTwo : CIS yX12_isTwo cX12_isTwo 1 (some .boolean) 1 := ⟨tw_in 1090 (by decide +kernel) (by decide +kernel), tw_in 92 (by decide +kernel) (by decide +kernel), tw_in 1089 (by decide +kernel) (by decide +kernel), by decide, by decide +kernel, by decide +kernel, by decide +kernel⟩
theorem ci_Mo_bitsOf : CIS yX12_bitsOf cX12_bitsOf 11 (some .int) 2 := ⟨tw_in 1179 (by decide +kernel) (by decide +kernel), tw_in 92 (by decide +kernel) (by decide +kernel), tw_in 1178 (by decide +kernel) (by decide +kernel), by decide, by decide +kernel, by decide +kernel, by decide +kernel⟩
theorem ci_Mo_divided : CIS yX12_divided cX12_divided 5 (some .int) 2 := ⟨tw_in 1176 (by decide +kernel) (by decide +kernel), tw_in 92 (by decide +kernel) (by decide +kernel), tw_in 1175 (by decide +kernel) (by decide +kernel), by decide, by decide +kernel, by decide +kernel, by decide +kernel⟩
theorem ci_Mo_added : CIS yX12_added cX12_added 9 (some .int) 2 := ⟨tw_in 1256 (by decide +kernel) (by decide +kernel), tw_in 92 (by decide +kernel) (by decide +kernel), tw_in 1255 (by decide +kernel) (by decide +kernel), by decide, by decide +kernel, by decide +kernel, by decide +kernel⟩
theorem ci_Mo_isText : CIS yX12_isText cX12_isText 1 (some .boolean) 1 := ⟨tw_in 1026 (by decide +kernel) (by decide +kernel), tw_in 92 (by decide +kernel) (by decide +kernel), tw_in 1025 (by decide +kernel) (by decide +kernel), by decide, by decide +kernel, by decide +kernel, by decide +kernel⟩
theorem ci_Mo_roomOf : CIS yX12_roomOf cX12_roomOf 1 (some .int) 1 := ⟨tw_in 1032 (by decide +kernel) (by decide +kernel), tw_in 92 (by decide +kernel) (by decide +kernel), tw_in 1031 (by decide +kernel) (by decide +kernel), by decide, by decide +kernel, by decide +kernel, by decide +kernel⟩
theorem ci_Mo_type : CIV yX12_type cX12_type 3 (some .int) 2 := ⟨tw_in 1023 (by decide +kernel) (by decide +kernel), tw_in 92 (by decide +kernel) (by decide +kernel), tw_in 1021 (by decide +kernel) (by decide +kernel), tw_in 1022 (by decide +kernel) (by decide +kernel), by decide, by decide +kernel, by decide +kernel, by decide +kernel⟩
theorem ci_Mo_wipe : CIV yX12_wipe cX12_wipe 3 (some .int) 1 := ⟨tw_in 1036 (by decide +kernel) (by decide +kernel), tw_in 92 (by decide +kernel) (by decide +kernel), tw_in 1034 (by decide +kernel) (by decide +kernel), tw_in 1035 (by decide +kernel) (by decide +kernel), by decide, by decide +kernel, by decide +kernel, by decide +kernel⟩
theorem ci_Mo_undo : CIV yX12_undo cX12_undo 2 (some .int) 1 := ⟨tw_in 1040 (by decide +kernel) (by decide +kernel), tw_in 92 (by decide +kernel) (by decide +kernel), tw_in 1038 (by decide +kernel) (by decide +kernel), tw_in 1039 (by decide +kernel) (by decide +kernel), by decide, by decide +kernel, by decide +kernel, by decide +kernel⟩
theorem ci_Mo_isSheet : CIS yX12_isSheet cX12_isSheet 1 (some .boolean) 1 := ⟨tw_in 1047 (by decide +kernel) (by decide +kernel), tw_in 92 (by decide +kernel) (by decide +kernel), tw_in 1046 (by decide +kernel) (by decide +kernel), by decide, by decide +kernel, by decide +kernel, by decide +kernel⟩
theorem ci_Mo_meets : CIV yX12_meets cX12_meets 2 (some .int) 1 := ⟨tw_in 1051 (by decide +kernel) (by decide +kernel), tw_in 92 (by decide +kernel) (by decide +kernel), tw_in 1050 (by decide +kernel) (by decide +kernel), tw_in 30 (by decide +kernel) (by decide +kernel), by decide, by decide +kernel, by decide +kernel, by decide +kernel⟩
theorem ci_Mo_read : CIV yX12_read cX12_read 4 (some .int) 2 := ⟨tw_in 1044 (by decide +kernel) (by decide +kernel), tw_in 92 (by decide +kernel) (by decide +kernel), tw_in 1042 (by decide +kernel) (by decide +kernel), tw_in 1043 (by decide +kernel) (by decide +kernel), by decide, by decide +kernel, by decide +kernel, by decide +kernel⟩
theorem ci_Mo_byteAt : CIV yX12_byteAt cX12_byteAt 3 (some .int) 2 := ⟨tw_in 1076 (by decide +kernel) (by decide +kernel), tw_in 92 (by decide +kernel) (by decide +kernel), tw_in 1075 (by decide +kernel) (by decide +kernel), tw_in 35 (by decide +kernel) (by decide +kernel), by decide, by decide +kernel, by decide +kernel, by decide +kernel⟩
theorem ci_Mo_valueAt : CIV yX12_valueAt cX12_valueAt 4 (some .int) 2 := ⟨tw_in 1072 (by decide +kernel) (by decide +kernel), tw_in 92 (by decide +kernel) (by decide +kernel), tw_in 1071 (by decide +kernel) (by decide +kernel), tw_in 34 (by decide +kernel) (by decide +kernel), by decide, by decide +kernel, by decide +kernel, by decide +kernel⟩
theorem ci_Mo_readsTable : CIV yX12_readsTable cX12_readsTable 6 (some .int) 1 := ⟨tw_in 1068 (by decide +kernel) (by decide +kernel), tw_in 92 (by decide +kernel) (by decide +kernel), tw_in 1067 (by decide +kernel) (by decide +kernel), tw_in 33 (by decide +kernel) (by decide +kernel), by decide, by decide +kernel, by decide +kernel, by decide +kernel⟩
theorem ci_Mo_kindOf : CIS yX12_kindOf cX12_kindOf 1 (some .int) 1 := ⟨tw_in 1083 (by decide +kernel) (by decide +kernel), tw_in 92 (by decide +kernel) (by decide +kernel), tw_in 1082 (by decide +kernel) (by decide +kernel), by decide, by decide +kernel, by decide +kernel, by decide +kernel⟩
theorem ci_Mo_readsSteps : CIV yX12_readsSteps cX12_readsSteps 5 (some .int) 0 := ⟨tw_in 1080 (by decide +kernel) (by decide +kernel), tw_in 92 (by decide +kernel) (by decide +kernel), tw_in 1079 (by decide +kernel) (by decide +kernel), tw_in 36 (by decide +kernel) (by decide +kernel), by decide, by decide +kernel, by decide +kernel, by decide +kernel⟩
theorem ci_Mo_reads : CIV yX12_reads cX12_reads 1 none 0 := ⟨tw_in 1064 (by decide +kernel) (by decide +kernel), tw_in 92 (by decide +kernel) (by decide +kernel), tw_in 1063 (by decide +kernel) (by decide +kernel), tw_in 32 (by decide +kernel) (by decide +kernel), by decide, by decide +kernel, by decide +kernel, by decide +kernel⟩
theorem ci_Mo_faultOf : CIV yX12_faultOf cX12_faultOf 2 (some .int) 1 := ⟨tw_in 1060 (by decide +kernel) (by decide +kernel), tw_in 92 (by decide +kernel) (by decide +kernel), tw_in 1059 (by decide +kernel) (by decide +kernel), tw_in 31 (by decide +kernel) (by decide +kernel), by decide, by decide +kernel, by decide +kernel, by decide +kernel⟩
theorem ci_Mo_fault : CIV yX12_fault cX12_fault 2 (some .int) 1 := ⟨tw_in 1056 (by decide +kernel) (by decide +kernel), tw_in 92 (by decide +kernel) (by decide +kernel), tw_in 1054 (by decide +kernel) (by decide +kernel), tw_in 1055 (by decide +kernel) (by decide +kernel), by decide, by decide +kernel, by decide +kernel, by decide +kernel⟩
theorem ci_Mo_rowOf : CIV yX12_rowOf cX12_rowOf 4 (some .int) 3 := ⟨tw_in 1094 (by decide +kernel) (by decide +kernel), tw_in 92 (by decide +kernel) (by decide +kernel), tw_in 1093 (by decide +kernel) (by decide +kernel), tw_in 37 (by decide +kernel) (by decide +kernel), by decide, by decide +kernel, by decide +kernel, by decide +kernel⟩
theorem ci_Mo_row : CIV yX12_row cX12_row 4 (some .int) 3 := ⟨tw_in 1087 (by decide +kernel) (by decide +kernel), tw_in 92 (by decide +kernel) (by decide +kernel), tw_in 1085 (by decide +kernel) (by decide +kernel), tw_in 1086 (by decide +kernel) (by decide +kernel), by decide, by decide +kernel, by decide +kernel, by decide +kernel⟩
theorem ci_Mo_stepOf : CIV yX12_stepOf cX12_stepOf 3 (some .int) 2 := ⟨tw_in 1102 (by decide +kernel) (by decide +kernel), tw_in 92 (by decide +kernel) (by decide +kernel), tw_in 1101 (by decide +kernel) (by decide +kernel), tw_in 38 (by decide +kernel) (by decide +kernel), by decide, by decide +kernel, by decide +kernel, by decide +kernel⟩
theorem ci_Mo_step : CIV yX12_step cX12_step 3 (some .int) 2 := ⟨tw_in 1098 (by decide +kernel) (by decide +kernel), tw_in 92 (by decide +kernel) (by decide +kernel), tw_in 1096 (by decide +kernel) (by decide +kernel), tw_in 1097 (by decide +kernel) (by decide +kernel), by decide, by decide +kernel, by decide +kernel, by decide +kernel⟩
theorem ci_Mo_end : CIV yX12_end cX12_end 3 (some .int) 1 := ⟨tw_in 1106 (by decide +kernel) (by decide +kernel), tw_in 92 (by decide +kernel) (by decide +kernel), tw_in 1104 (by decide +kernel) (by decide +kernel), tw_in 1105 (by decide +kernel) (by decide +kernel), by decide, by decide +kernel, by decide +kernel, by decide +kernel⟩
theorem ci_Mo_logs : CIV yX12_logs cX12_logs 3 none 2 := ⟨tw_in 1138 (by decide +kernel) (by decide +kernel), tw_in 92 (by decide +kernel) (by decide +kernel), tw_in 1137 (by decide +kernel) (by decide +kernel), tw_in 45 (by decide +kernel) (by decide +kernel), by decide, by decide +kernel, by decide +kernel, by decide +kernel⟩
theorem ci_Mo_puts : CIV yX12_puts cX12_puts 4 none 3 := ⟨tw_in 1165 (by decide +kernel) (by decide +kernel), tw_in 92 (by decide +kernel) (by decide +kernel), tw_in 1164 (by decide +kernel) (by decide +kernel), tw_in 51 (by decide +kernel) (by decide +kernel), by decide, by decide +kernel, by decide +kernel, by decide +kernel⟩
theorem ci_Mo_comesIn : CIV yX12_comesIn cX12_comesIn 2 none 0 := ⟨tw_in 1217 (by decide +kernel) (by decide +kernel), tw_in 92 (by decide +kernel) (by decide +kernel), tw_in 1216 (by decide +kernel) (by decide +kernel), tw_in 61 (by decide +kernel) (by decide +kernel), by decide, by decide +kernel, by decide +kernel, by decide +kernel⟩
theorem ci_Mo_comesOfInner : CIV yX12_comesOfInner cX12_comesOfInner 2 none 0 := ⟨tw_in 1146 (by decide +kernel) (by decide +kernel), tw_in 92 (by decide +kernel) (by decide +kernel), tw_in 1145 (by decide +kernel) (by decide +kernel), tw_in 47 (by decide +kernel) (by decide +kernel), by decide, by decide +kernel, by decide +kernel, by decide +kernel⟩
theorem ci_Mo_stays : CIS yX12_stays cX12_stays 6 (some .int) 5 := ⟨tw_in 1157 (by decide +kernel) (by decide +kernel), tw_in 92 (by decide +kernel) (by decide +kernel), tw_in 1156 (by decide +kernel) (by decide +kernel), by decide, by decide +kernel, by decide +kernel, by decide +kernel⟩
theorem ci_Mo_groups : CIV yX12_groups cX12_groups 3 none 0 := ⟨tw_in 1169 (by decide +kernel) (by decide +kernel), tw_in 92 (by decide +kernel) (by decide +kernel), tw_in 1168 (by decide +kernel) (by decide +kernel), tw_in 52 (by decide +kernel) (by decide +kernel), by decide, by decide +kernel, by decide +kernel, by decide +kernel⟩
theorem ci_Mo_answerOf : CIV yX12_answerOf cX12_answerOf 12 (some .int) 2 := ⟨tw_in 1173 (by decide +kernel) (by decide +kernel), tw_in 92 (by decide +kernel) (by decide +kernel), tw_in 1172 (by decide +kernel) (by decide +kernel), tw_in 53 (by decide +kernel) (by decide +kernel), by decide, by decide +kernel, by decide +kernel, by decide +kernel⟩
theorem ci_Mo_isNew : CIV yX12_isNew cX12_isNew 7 (some .boolean) 3 := ⟨tw_in 1161 (by decide +kernel) (by decide +kernel), tw_in 92 (by decide +kernel) (by decide +kernel), tw_in 1160 (by decide +kernel) (by decide +kernel), tw_in 50 (by decide +kernel) (by decide +kernel), by decide, by decide +kernel, by decide +kernel, by decide +kernel⟩
theorem ci_Mo_goes : CIV yX12_goes cX12_goes 9 none 6 := ⟨tw_in 1154 (by decide +kernel) (by decide +kernel), tw_in 92 (by decide +kernel) (by decide +kernel), tw_in 1153 (by decide +kernel) (by decide +kernel), tw_in 49 (by decide +kernel) (by decide +kernel), by decide, by decide +kernel, by decide +kernel, by decide +kernel⟩
theorem ci_Mo_goThrough : CIV yX12_goThrough cX12_goThrough 6 none 4 := ⟨tw_in 1150 (by decide +kernel) (by decide +kernel), tw_in 92 (by decide +kernel) (by decide +kernel), tw_in 1149 (by decide +kernel) (by decide +kernel), tw_in 48 (by decide +kernel) (by decide +kernel), by decide, by decide +kernel, by decide +kernel, by decide +kernel⟩
theorem ci_Mo_asksFor : CIV yX12_asksFor cX12_asksFor 4 none 1 := ⟨tw_in 1142 (by decide +kernel) (by decide +kernel), tw_in 92 (by decide +kernel) (by decide +kernel), tw_in 1141 (by decide +kernel) (by decide +kernel), tw_in 46 (by decide +kernel) (by decide +kernel), by decide, by decide +kernel, by decide +kernel, by decide +kernel⟩
theorem ci_Mo_opens : CIV yX12_opens cX12_opens 3 none 2 := ⟨tw_in 1134 (by decide +kernel) (by decide +kernel), tw_in 92 (by decide +kernel) (by decide +kernel), tw_in 1133 (by decide +kernel) (by decide +kernel), tw_in 44 (by decide +kernel) (by decide +kernel), by decide, by decide +kernel, by decide +kernel, by decide +kernel⟩
theorem ci_Mo_begins : CIV yX12_begins cX12_begins 3 none 1 := ⟨tw_in 1130 (by decide +kernel) (by decide +kernel), tw_in 92 (by decide +kernel) (by decide +kernel), tw_in 1129 (by decide +kernel) (by decide +kernel), tw_in 43 (by decide +kernel) (by decide +kernel), by decide, by decide +kernel, by decide +kernel, by decide +kernel⟩
theorem ci_Mo_rowByRow : CIV yX12_rowByRow cX12_rowByRow 3 none 0 := ⟨tw_in 1126 (by decide +kernel) (by decide +kernel), tw_in 92 (by decide +kernel) (by decide +kernel), tw_in 1125 (by decide +kernel) (by decide +kernel), tw_in 42 (by decide +kernel) (by decide +kernel), by decide, by decide +kernel, by decide +kernel, by decide +kernel⟩
theorem ci_Mo_speaksNow : CIV yX12_speaksNow cX12_speaksNow 3 (some .int) 0 := ⟨tw_in 1194 (by decide +kernel) (by decide +kernel), tw_in 92 (by decide +kernel) (by decide +kernel), tw_in 1193 (by decide +kernel) (by decide +kernel), tw_in 56 (by decide +kernel) (by decide +kernel), by decide, by decide +kernel, by decide +kernel, by decide +kernel⟩
theorem ci_Mo_isOfV : CIV yX12_isOfV cX12_isOfV 3 (some .boolean) 0 := ⟨tw_in 1198 (by decide +kernel) (by decide +kernel), tw_in 92 (by decide +kernel) (by decide +kernel), tw_in 1197 (by decide +kernel) (by decide +kernel), tw_in 57 (by decide +kernel) (by decide +kernel), by decide, by decide +kernel, by decide +kernel, by decide +kernel⟩
theorem ci_Mo_findsDomain : CIV yX12_findsDomain cX12_findsDomain 4 none 0 := ⟨tw_in 1190 (by decide +kernel) (by decide +kernel), tw_in 92 (by decide +kernel) (by decide +kernel), tw_in 1189 (by decide +kernel) (by decide +kernel), tw_in 55 (by decide +kernel) (by decide +kernel), by decide, by decide +kernel, by decide +kernel, by decide +kernel⟩
theorem ci_Mo_joinAt : CIV yX12_joinAt cX12_joinAt 3 (some .int) 0 := ⟨tw_in 1206 (by decide +kernel) (by decide +kernel), tw_in 92 (by decide +kernel) (by decide +kernel), tw_in 1205 (by decide +kernel) (by decide +kernel), tw_in 59 (by decide +kernel) (by decide +kernel), by decide, by decide +kernel, by decide +kernel, by decide +kernel⟩
theorem ci_Mo_plans : CIV yX12_plans cX12_plans 4 none 0 := ⟨tw_in 1202 (by decide +kernel) (by decide +kernel), tw_in 92 (by decide +kernel) (by decide +kernel), tw_in 1201 (by decide +kernel) (by decide +kernel), tw_in 58 (by decide +kernel) (by decide +kernel), by decide, by decide +kernel, by decide +kernel, by decide +kernel⟩
theorem ci_Mo_isLike : CIV yX12_isLike cX12_isLike 4 (some .boolean) 1 := ⟨tw_in 1225 (by decide +kernel) (by decide +kernel), tw_in 92 (by decide +kernel) (by decide +kernel), tw_in 1224 (by decide +kernel) (by decide +kernel), tw_in 63 (by decide +kernel) (by decide +kernel), by decide, by decide +kernel, by decide +kernel, by decide +kernel⟩
theorem ci_Mo_joins : CIV yX12_joins cX12_joins 4 none 1 := ⟨tw_in 1213 (by decide +kernel) (by decide +kernel), tw_in 92 (by decide +kernel) (by decide +kernel), tw_in 1212 (by decide +kernel) (by decide +kernel), tw_in 60 (by decide +kernel) (by decide +kernel), by decide, by decide +kernel, by decide +kernel, by decide +kernel⟩
theorem ci_Mo_does : CIV yX12_does cX12_does 6 none 1 := ⟨tw_in 1221 (by decide +kernel) (by decide +kernel), tw_in 92 (by decide +kernel) (by decide +kernel), tw_in 1220 (by decide +kernel) (by decide +kernel), tw_in 62 (by decide +kernel) (by decide +kernel), by decide, by decide +kernel, by decide +kernel, by decide +kernel⟩
theorem ci_Mo_free : CIV yX12_free cX12_free 4 none 0 := ⟨tw_in 1186 (by decide +kernel) (by decide +kernel), tw_in 92 (by decide +kernel) (by decide +kernel), tw_in 1185 (by decide +kernel) (by decide +kernel), tw_in 54 (by decide +kernel) (by decide +kernel), by decide, by decide +kernel, by decide +kernel, by decide +kernel⟩
theorem ci_Mo_runs : CIV yX12_runs cX12_runs 2 none 1 := ⟨tw_in 1122 (by decide +kernel) (by decide +kernel), tw_in 92 (by decide +kernel) (by decide +kernel), tw_in 1121 (by decide +kernel) (by decide +kernel), tw_in 41 (by decide +kernel) (by decide +kernel), by decide, by decide +kernel, by decide +kernel, by decide +kernel⟩
theorem ci_Mo_runsTold : CIV yX12_runsTold cX12_runsTold 1 none 0 := ⟨tw_in 1118 (by decide +kernel) (by decide +kernel), tw_in 92 (by decide +kernel) (by decide +kernel), tw_in 1117 (by decide +kernel) (by decide +kernel), tw_in 40 (by decide +kernel) (by decide +kernel), by decide, by decide +kernel, by decide +kernel, by decide +kernel⟩
theorem ci_Mo_errorOf : CIV yX12_errorOf cX12_errorOf 2 (some .int) 1 := ⟨tw_in 1114 (by decide +kernel) (by decide +kernel), tw_in 92 (by decide +kernel) (by decide +kernel), tw_in 1113 (by decide +kernel) (by decide +kernel), tw_in 39 (by decide +kernel) (by decide +kernel), by decide, by decide +kernel, by decide +kernel, by decide +kernel⟩
theorem ci_Mo_error : CIV yX12_error cX12_error 2 (some .int) 1 := ⟨tw_in 1110 (by decide +kernel) (by decide +kernel), tw_in 92 (by decide +kernel) (by decide +kernel), tw_in 1108 (by decide +kernel) (by decide +kernel), tw_in 1109 (by decide +kernel) (by decide +kernel), by decide, by decide +kernel, by decide +kernel, by decide +kernel⟩
theorem ci_Mo_answerNow : CIV yX12_answerNow cX12_answerNow 3 (some .int) 2 := ⟨tw_in 1237 (by decide +kernel) (by decide +kernel), tw_in 92 (by decide +kernel) (by decide +kernel), tw_in 1236 (by decide +kernel) (by decide +kernel), tw_in 65 (by decide +kernel) (by decide +kernel), by decide, by decide +kernel, by decide +kernel, by decide +kernel⟩
theorem ci_Mo_answerFor : CIV yX12_answerFor cX12_answerFor 3 (some .int) 2 := ⟨tw_in 1233 (by decide +kernel) (by decide +kernel), tw_in 92 (by decide +kernel) (by decide +kernel), tw_in 1232 (by decide +kernel) (by decide +kernel), tw_in 64 (by decide +kernel) (by decide +kernel), by decide, by decide +kernel, by decide +kernel, by decide +kernel⟩
theorem ci_Mo_answer : CIV yX12_answer cX12_answer 3 (some .int) 2 := ⟨tw_in 1229 (by decide +kernel) (by decide +kernel), tw_in 92 (by decide +kernel) (by decide +kernel), tw_in 1227 (by decide +kernel) (by decide +kernel), tw_in 1228 (by decide +kernel) (by decide +kernel), by decide, by decide +kernel, by decide +kernel, by decide +kernel⟩
theorem ci_Mo_sameOf : CIV yX12_sameOf cX12_sameOf 3 (some .int) 0 := ⟨tw_in 1245 (by decide +kernel) (by decide +kernel), tw_in 92 (by decide +kernel) (by decide +kernel), tw_in 1244 (by decide +kernel) (by decide +kernel), tw_in 66 (by decide +kernel) (by decide +kernel), by decide, by decide +kernel, by decide +kernel, by decide +kernel⟩
theorem ci_Mo_same : CIV yX12_same cX12_same 1 (some .int) 0 := ⟨tw_in 1241 (by decide +kernel) (by decide +kernel), tw_in 92 (by decide +kernel) (by decide +kernel), tw_in 1239 (by decide +kernel) (by decide +kernel), tw_in 1240 (by decide +kernel) (by decide +kernel), by decide, by decide +kernel, by decide +kernel, by decide +kernel⟩
theorem ci_Mo_totalOf : CIV yX12_totalOf cX12_totalOf 4 (some .int) 0 := ⟨tw_in 1253 (by decide +kernel) (by decide +kernel), tw_in 92 (by decide +kernel) (by decide +kernel), tw_in 1252 (by decide +kernel) (by decide +kernel), tw_in 67 (by decide +kernel) (by decide +kernel), by decide, by decide +kernel, by decide +kernel, by decide +kernel⟩
theorem ci_Mo_total : CIV yX12_total cX12_total 1 (some .int) 0 := ⟨tw_in 1249 (by decide +kernel) (by decide +kernel), tw_in 92 (by decide +kernel) (by decide +kernel), tw_in 1247 (by decide +kernel) (by decide +kernel), tw_in 1248 (by decide +kernel) (by decide +kernel), by decide, by decide +kernel, by decide +kernel, by decide +kernel⟩
theorem ci_Mo_speaksOf : CIV yX12_speaksOf cX12_speaksOf 1 (some .int) 0 := ⟨tw_in 1265 (by decide +kernel) (by decide +kernel), tw_in 92 (by decide +kernel) (by decide +kernel), tw_in 1264 (by decide +kernel) (by decide +kernel), tw_in 68 (by decide +kernel) (by decide +kernel), by decide, by decide +kernel, by decide +kernel, by decide +kernel⟩
theorem ci_Mo_speaks : CIV yX12_speaks cX12_speaks 1 (some .int) 0 := ⟨tw_in 1261 (by decide +kernel) (by decide +kernel), tw_in 92 (by decide +kernel) (by decide +kernel), tw_in 1259 (by decide +kernel) (by decide +kernel), tw_in 1260 (by decide +kernel) (by decide +kernel), by decide, by decide +kernel, by decide +kernel, by decide +kernel⟩
theorem ci_Mo_domainOf : CIV yX12_domainOf cX12_domainOf 3 (some .int) 2 := ⟨tw_in 1273 (by decide +kernel) (by decide +kernel), tw_in 92 (by decide +kernel) (by decide +kernel), tw_in 1272 (by decide +kernel) (by decide +kernel), tw_in 69 (by decide +kernel) (by decide +kernel), by decide, by decide +kernel, by decide +kernel, by decide +kernel⟩
theorem ci_Mo_domain : CIV yX12_domain cX12_domain 3 (some .int) 2 := ⟨tw_in 1269 (by decide +kernel) (by decide +kernel), tw_in 92 (by decide +kernel) (by decide +kernel), tw_in 1267 (by decide +kernel) (by decide +kernel), tw_in 1268 (by decide +kernel) (by decide +kernel), by decide, by decide +kernel, by decide +kernel, by decide +kernel⟩
theorem ci_Mo_planOf : CIV yX12_planOf cX12_planOf 2 (some .int) 1 := ⟨tw_in 1281 (by decide +kernel) (by decide +kernel), tw_in 92 (by decide +kernel) (by decide +kernel), tw_in 1280 (by decide +kernel) (by decide +kernel), tw_in 70 (by decide +kernel) (by decide +kernel), by decide, by decide +kernel, by decide +kernel, by decide +kernel⟩
theorem ci_Mo_plan : CIV yX12_plan cX12_plan 2 (some .int) 1 := ⟨tw_in 1277 (by decide +kernel) (by decide +kernel), tw_in 92 (by decide +kernel) (by decide +kernel), tw_in 1275 (by decide +kernel) (by decide +kernel), tw_in 1276 (by decide +kernel) (by decide +kernel), by decide, by decide +kernel, by decide +kernel, by decide +kernel⟩
theorem ci_Mo_costOf : CIV yX12_costOf cX12_costOf 3 (some .int) 2 := ⟨tw_in 1289 (by decide +kernel) (by decide +kernel), tw_in 92 (by decide +kernel) (by decide +kernel), tw_in 1288 (by decide +kernel) (by decide +kernel), tw_in 71 (by decide +kernel) (by decide +kernel), by decide, by decide +kernel, by decide +kernel, by decide +kernel⟩
theorem ci_Mo_cost : CIV yX12_cost cX12_cost 3 (some .int) 2 := ⟨tw_in 1285 (by decide +kernel) (by decide +kernel), tw_in 92 (by decide +kernel) (by decide +kernel), tw_in 1283 (by decide +kernel) (by decide +kernel), tw_in 1284 (by decide +kernel) (by decide +kernel), by decide, by decide +kernel, by decide +kernel, by decide +kernel⟩
theorem ci_Mo_logOf : CIV yX12_logOf cX12_logOf 3 (some .int) 2 := ⟨tw_in 1297 (by decide +kernel) (by decide +kernel), tw_in 92 (by decide +kernel) (by decide +kernel), tw_in 1296 (by decide +kernel) (by decide +kernel), tw_in 72 (by decide +kernel) (by decide +kernel), by decide, by decide +kernel, by decide +kernel, by decide +kernel⟩
theorem ci_Mo_log : CIV yX12_log cX12_log 3 (some .int) 2 := ⟨tw_in 1293 (by decide +kernel) (by decide +kernel), tw_in 92 (by decide +kernel) (by decide +kernel), tw_in 1291 (by decide +kernel) (by decide +kernel), tw_in 1292 (by decide +kernel) (by decide +kernel), by decide, by decide +kernel, by decide +kernel, by decide +kernel⟩
theorem ci_Mo_spareOf : CIV yX12_spareOf cX12_spareOf 6 (some .int) 0 := ⟨tw_in 1305 (by decide +kernel) (by decide +kernel), tw_in 92 (by decide +kernel) (by decide +kernel), tw_in 1304 (by decide +kernel) (by decide +kernel), tw_in 73 (by decide +kernel) (by decide +kernel), by decide, by decide +kernel, by decide +kernel, by decide +kernel⟩
theorem ci_Mo_spare : CIV yX12_spare cX12_spare 1 (some .int) 0 := ⟨tw_in 1301 (by decide +kernel) (by decide +kernel), tw_in 92 (by decide +kernel) (by decide +kernel), tw_in 1299 (by decide +kernel) (by decide +kernel), tw_in 1300 (by decide +kernel) (by decide +kernel), by decide, by decide +kernel, by decide +kernel, by decide +kernel⟩
theorem ci_Mo_sheet : CIV yX12_sheet cX12_sheet 5 (some .int) 3 := ⟨tw_in 1309 (by decide +kernel) (by decide +kernel), tw_in 92 (by decide +kernel) (by decide +kernel), tw_in 1307 (by decide +kernel) (by decide +kernel), tw_in 1308 (by decide +kernel) (by decide +kernel), by decide, by decide +kernel, by decide +kernel, by decide +kernel⟩
theorem ci_Mo_lose : CIV yX12_lose cX12_lose 2 (some .int) 1 := ⟨tw_in 1313 (by decide +kernel) (by decide +kernel), tw_in 92 (by decide +kernel) (by decide +kernel), tw_in 1311 (by decide +kernel) (by decide +kernel), tw_in 1312 (by decide +kernel) (by decide +kernel), by decide, by decide +kernel, by decide +kernel, by decide +kernel⟩
theorem ci_Mo_lacks : CIV yX12_lacks cX12_lacks 4 (some .int) 3 := ⟨tw_in 1321 (by decide +kernel) (by decide +kernel), tw_in 92 (by decide +kernel) (by decide +kernel), tw_in 1320 (by decide +kernel) (by decide +kernel), tw_in 74 (by decide +kernel) (by decide +kernel), by decide, by decide +kernel, by decide +kernel, by decide +kernel⟩
theorem ci_Mo_keep : CIV yX12_keep cX12_keep 4 none 3 := ⟨tw_in 1325 (by decide +kernel) (by decide +kernel), tw_in 92 (by decide +kernel) (by decide +kernel), tw_in 1324 (by decide +kernel) (by decide +kernel), tw_in 75 (by decide +kernel) (by decide +kernel), by decide, by decide +kernel, by decide +kernel, by decide +kernel⟩
theorem ci_Mo_put : CIV yX12_put cX12_put 6 (some .int) 4 := ⟨tw_in 1317 (by decide +kernel) (by decide +kernel), tw_in 92 (by decide +kernel) (by decide +kernel), tw_in 1315 (by decide +kernel) (by decide +kernel), tw_in 1316 (by decide +kernel) (by decide +kernel), by decide, by decide +kernel, by decide +kernel, by decide +kernel⟩
theorem ci_Mo_get : CIV yX12_get cX12_get 5 (some .int) 3 := ⟨tw_in 1329 (by decide +kernel) (by decide +kernel), tw_in 92 (by decide +kernel) (by decide +kernel), tw_in 1327 (by decide +kernel) (by decide +kernel), tw_in 1328 (by decide +kernel) (by decide +kernel), by decide, by decide +kernel, by decide +kernel, by decide +kernel⟩
theorem ci_Mo_copy : CIV yX12_copy cX12_copy 7 (some .int) 5 := ⟨tw_in 1334 (by decide +kernel) (by decide +kernel), tw_in 92 (by decide +kernel) (by decide +kernel), tw_in 1332 (by decide +kernel) (by decide +kernel), tw_in 1333 (by decide +kernel) (by decide +kernel), by decide, by decide +kernel, by decide +kernel, by decide +kernel⟩
theorem ci_Mo_write : CIV yX12_write cX12_write 4 (some .int) 2 := ⟨tw_in 1338 (by decide +kernel) (by decide +kernel), tw_in 92 (by decide +kernel) (by decide +kernel), tw_in 1336 (by decide +kernel) (by decide +kernel), tw_in 1337 (by decide +kernel) (by decide +kernel), by decide, by decide +kernel, by decide +kernel, by decide +kernel⟩
theorem ci_Mo_tellOf : CIV yX12_tellOf cX12_tellOf 2 (some .int) 1 := ⟨tw_in 1346 (by decide +kernel) (by decide +kernel), tw_in 92 (by decide +kernel) (by decide +kernel), tw_in 1345 (by decide +kernel) (by decide +kernel), tw_in 76 (by decide +kernel) (by decide +kernel), by decide, by decide +kernel, by decide +kernel, by decide +kernel⟩
theorem ci_Mo_count : CIV yX12_count cX12_count 2 (some .int) 1 := ⟨tw_in 1342 (by decide +kernel) (by decide +kernel), tw_in 92 (by decide +kernel) (by decide +kernel), tw_in 1340 (by decide +kernel) (by decide +kernel), tw_in 1341 (by decide +kernel) (by decide +kernel), by decide, by decide +kernel, by decide +kernel, by decide +kernel⟩
theorem ci_Mo_answerDigest : CIV yX12_answerDigest cX12_answerDigest 7 (some .long) 2 := ⟨tw_in 1361 (by decide +kernel) (by decide +kernel), tw_in 92 (by decide +kernel) (by decide +kernel), tw_in 1360 (by decide +kernel) (by decide +kernel), tw_in 78 (by decide +kernel) (by decide +kernel), by decide, by decide +kernel, by decide +kernel, by decide +kernel⟩
theorem ci_Mo_planDigest : CIV yX12_planDigest cX12_planDigest 7 (some .long) 2 := ⟨tw_in 1357 (by decide +kernel) (by decide +kernel), tw_in 92 (by decide +kernel) (by decide +kernel), tw_in 1356 (by decide +kernel) (by decide +kernel), tw_in 77 (by decide +kernel) (by decide +kernel), by decide, by decide +kernel, by decide +kernel, by decide +kernel⟩
theorem ci_Mo_digest : CIV yX12_digest cX12_digest 4 (some .long) 0 := ⟨tw_in 1350 (by decide +kernel) (by decide +kernel), tw_in 92 (by decide +kernel) (by decide +kernel), tw_in 1348 (by decide +kernel) (by decide +kernel), tw_in 1349 (by decide +kernel) (by decide +kernel), by decide, by decide +kernel, by decide +kernel, by decide +kernel⟩
