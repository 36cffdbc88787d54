-- ===== the constructors: cell i is made at base + i; the world is the list of what the cells hold =====
def HW (D : va_G) (base : Nat) (w : List va_E) (H : Heap) : Prop := H.size = base + w.length ∧ ∀ (i : Nat) (e : va_E), w[i]? = some e → va_at D vwCl (base + i, e) H
abbrev BX : Type := Program × Launch × Env × Room × State × MethodId × Array Value × List Frame × Method × Code × (State → Prop)
def aos (U : State) : Prop := va_AO "UnnestPlans$Text" U ∧ va_AO "UnnestPlans$Sheet" U ∧ va_AO "UnnestPlans$Tally" U ∧ (Cond.arrayOver (.array .int)).before #[] U = true
def VB (D : va_G) (base : Nat) (X : BX) (nL : Nat) (w : List va_E) (cells slots pc : Nat) (lv : List (Nat × Value)) (st : List Value) : Prop :=
  ∀ (H : Heap) (locs : List Loc) (ls : Array Slot), HW D base w H → va_S (fun q => base ≤ q) X.2.2.2.2.1.heap H locs → lv_has ls nL lv → W X.1 X.2.1 X.2.2.1 X.2.2.2.1 X.2.2.2.2.1 X.2.2.2.2.2.1 X.2.2.2.2.2.2.1 X.2.2.2.2.2.2.2.1 X.2.2.2.2.2.2.2.2.1 X.2.2.2.2.2.2.2.2.2.1 H locs cells slots X.2.2.2.2.2.2.2.2.2.2 (F0 X.2.2.2.2.2.1 pc ls st)
def CB (D : va_G) (cA : Nat → ClassId) (base : Nat) (X : BX) (cc : ByteArray) (nL : Nat) (own : String) (d mc ms : Nat) : Prop :=
  X.1.tables.exec = Jvm.exec ∧ X.2.2.2.2.2.2.2.2.2.1.code = cc ∧ X.2.2.2.2.2.2.2.2.2.1.maxLocals = nL ∧ X.2.2.2.2.1.vm.findClass own = some X.2.2.2.2.2.1.cls ∧ (∀ w ∈ tw, w.before X.2.2.2.2.2.2.1 X.2.2.2.2.1 = true) ∧ va_K D vwCl (tysL cA) X.2.2.2.2.1 ∧ aos X.2.2.2.2.1 ∧ NWs X.2.2.2.2.1 ∧ d ≤ X.2.2.2.1.frames ∧ 40 * d ≤ X.2.2.2.1.locals ∧ mc ≤ X.2.2.2.1.cells ∧ ms ≤ X.2.2.2.1.slots
def QB (D : va_G) (base : Nat) (w' : List va_E) : Array Value → State → Outcome → State → Prop := fun _ st o t => o = .returned none ∧ HW D base w' t.heap ∧ va_F (fun q => base ≤ q) st t
def RB (D : va_G) (base : Nat) (X : BX) (w' : List va_E) (mc ms : Nat) : Prop :=
  X.2.2.2.2.2.2.2.2.1.sig.returnType = none ∧ X.2.2.2.2.2.2.2.2.1.locks = false ∧ X.2.2.2.2.2.2.2.2.1.name = "<init>" ∧ X.2.2.2.2.2.2.2.2.2.2 = MQ X.2.2.2.2.2.2.2.1 (QB D base w') X.2.2.2.2.2.2.1 X.2.2.2.2.1 mc ms (fun q => base ≤ q)
/-- a constructor's contract: at the world w it leaves w' -/
def CI (D : va_G) (cA : Nat → ClassId) (base : Nat) (y : MethodName) (cc : ByteArray) (nL d mc ms : Nat) (args : List Value) (w w' : List va_E) : Prop :=
  ∀ l : Launch, Met l y (.code y cc nL none :: tw) { frames := d, cells := mc, slots := ms, locals := 40 * d } (va_Pc args (fun U => HW D base w U.heap ∧ va_K D vwCl (tysL cA) U ∧ aos U ∧ NWs U)) (QB D base w') mc ms (fun q => base ≤ q)
theorem ao4 {u U : State} (hvm : u.vm.Alike U.vm) (h : (Cond.arrayOver (.array .int)).before #[] u = true) : (Cond.arrayOver (.array .int)).before #[] U = true := by
  have h1 : (Cond.arrayOver (.array .int)).before #[] (u.setVm U.vm) = true := by rw [Cond.arrayOver_setVmC hvm]; exact h
  exact h1
theorem aos.alike {u U : State} (hvm : u.vm.Alike U.vm) (h : aos u) : aos U := ⟨h.1.moved hvm, h.2.1.moved hvm, h.2.2.1.moved hvm, ao4 hvm h.2.2.2⟩
theorem aos.moved {u U : State} (hvm : u.WarmedH U.vm) (h : aos u) : aos U := h.alike hvm.alike
theorem aos.same {u U : State} (h : aos u) (e : u.vm = U.vm) : aos U := h.alike (e ▸ Vm.Alike.refl _)
theorem CI.of {D : va_G} {cA : Nat → ClassId} {base : Nat} {y : MethodName} {cc : ByteArray} {nL d mc ms : Nat} {args : List Value} {w w' : List va_E} (lv : List (Nat × Value)) (hy : plainName y.cls = true) (hyn : y.name = "<init>") (hlv : lv_args 0 args = lv) (hn : (lg_sl args).length ≤ nL)
    (body : ∀ X : BX, CB D cA base X cc nL y.cls d mc ms → RB D base X w' mc ms → VB D base X nL w 0 0 0 lv []) : CI D cA base y cc nL d mc ms args w w' := by
  intro l
  refine Met.ofW (cc := cc) (maxL := nL) (ret := none) hy rfl ?_
  intro p e s m av below meth c s₁ B hml hv
  obtain ⟨rfl, hP, hK, hO, hN⟩ := hv
  have hts := atoms_spec (ws := .code y cc nL none :: tw) B.pre
  have hl := lv_entry args (n := nL) hn
  have hin : meth.name = "<init>" := (name_of_methodNamed B.named B.method).1.trans hyn
  rw [lg_entry_eq]
  rw [hlv] at hl
  exact body (p, l, e, (headSpec (.code y cc nL none :: tw) { frames := d, cells := mc, slots := ms, locals := 40 * d }).room, s, m, args.toArray, below, meth, c, MQ below (QB D base w') args.toArray s mc ms (fun q => base ≤ q)) ⟨B.exec, B.bytes, hml, findClass_of_methodNamed B.named, fun w h => hts w (List.mem_cons_of_mem _ h), hK, hO, hN, Nat.le_refl _, Nat.le_refl _, Nat.le_refl _, Nat.le_refl _⟩ ⟨B.returns, B.notSynchronized, hin, rfl⟩ s.heap [] _ hP va_S.rf hl
section BR
variable {D : va_G} {cA : Nat → ClassId} {base : Nat} {X : BX} {cc : ByteArray} {nL : Nat} {own : String} {d mc ms : Nat} {w : List va_E} {cells slots pc : Nat} {lv : List (Nat × Value)} {st : List Value}
theorem b_widen {k n : Nat} (h1 : cells ≤ k) (h2 : slots ≤ n) (kk : VB D base X nL w k n pc lv st) : VB D base X nL w cells slots pc lv st := fun H locs ls hP hS hl => W.widen h1 h2 (kk H locs ls hP hS hl)
theorem b_eq {w1 : List va_E} (h : w = w1) (kk : VB D base X nL w1 cells slots pc lv st) : VB D base X nL w cells slots pc lv st := h ▸ kk
theorem b_aload (C : CB D cA base X cc nL own d mc ms) (k : Nat) {q : Fin 4} {x : Nat} (dd : decode cc pc = .ok (.aload_n q, 1)) (hl : lv[k]? = some ((q : Nat), .ref x)) (kk : VB D base X nL w cells slots (pc + 1) lv (.ref x :: st)) : VB D base X nL w cells slots pc lv st := fun H locs ls hP hS h => lv_aload_n C.1 C.2.1 dd rfl (lv_at h k hl) (kk H locs ls hP hS h)
theorem b_iload (C : CB D cA base X cc nL own d mc ms) (k : Nat) {q : Fin 4} {x : Int32} (dd : decode cc pc = .ok (.iload_n q, 1)) (hl : lv[k]? = some ((q : Nat), .int x)) (kk : VB D base X nL w cells slots (pc + 1) lv (.int x :: st)) : VB D base X nL w cells slots pc lv st := fun H locs ls hP hS h => lv_iload_n C.1 C.2.1 dd rfl (lv_at h k hl) (kk H locs ls hP hS h)
theorem b_iconst (C : CB D cA base X cc nL own d mc ms) {n : Int} (v : Int32) (dd : decode cc pc = .ok (.iconst n, 1)) (hv : Int32.ofInt n = v) (kk : VB D base X nL w cells slots (pc + 1) lv (.int v :: st)) : VB D base X nL w cells slots pc lv st := fun H locs ls hP hS h => lv_iconst C.1 C.2.1 dd hv (kk H locs ls hP hS h)
theorem b_bipush (C : CB D cA base X cc nL own d mc ms) {n : Int} (v : Int32) (dd : decode cc pc = .ok (.bipush n, 2)) (hv : (Int8.ofInt n).toInt32 = v) (kk : VB D base X nL w cells slots (pc + 2) lv (.int v :: st)) : VB D base X nL w cells slots pc lv st := fun H locs ls hP hS h => lv_bipush C.1 C.2.1 dd hv (kk H locs ls hP hS h)
theorem b_sipush (C : CB D cA base X cc nL own d mc ms) {n : Int} (v : Int32) (dd : decode cc pc = .ok (.sipush n, 3)) (hv : (Int16.ofInt n).toInt32 = v) (kk : VB D base X nL w cells slots (pc + 3) lv (.int v :: st)) : VB D base X nL w cells slots pc lv st := fun H locs ls hP hS h => lv_sipush C.1 C.2.1 dd hv (kk H locs ls hP hS h)
theorem b_ldc (C : CB D cA base X cc nL own d mc ms) {i : Nat} {v : Int32} (hw : Cond.constant own i v ∈ tw) (dd : decode cc pc = .ok (.ldc i, 2)) (kk : VB D base X nL w cells slots (pc + 2) lv (.int v :: st)) : VB D base X nL w cells slots pc lv st := fun H locs ls hP hS hl => W.ldc C.1 C.2.1 C.2.2.2.1 (C.2.2.2.2.1 _ hw) rfl dd (kk H locs ls hP hS hl)
theorem b_dup (C : CB D cA base X cc nL own d mc ms) {v : Value} (dd : decode cc pc = .ok (.dup, 1)) (hv : v.category = 1) (kk : VB D base X nL w cells slots (pc + 1) lv (v :: v :: st)) : VB D base X nL w cells slots pc lv (v :: st) := fun H locs ls hP hS hl => lv_dup C.1 C.2.1 dd hv (kk H locs ls hP hS hl)
theorem b_istore (C : CB D cA base X cc nL own d mc ms) (lv' : List (Nat × Value)) {q : Fin 4} {x : Int32} (dd : decode cc pc = .ok (.istore_n q, 1)) (hn : (q : Nat) < nL) (hl : ((q : Nat), Value.int x) :: fl1 q lv = lv') (kk : VB D base X nL w cells slots (pc + 1) lv' st) : VB D base X nL w cells slots pc lv (.int x :: st) := fun H locs ls hP hS h => lv_istore_n C.1 C.2.1 dd rfl h hn hl (fun ls h => kk H locs ls hP hS h)
theorem b_astore (C : CB D cA base X cc nL own d mc ms) (lv' : List (Nat × Value)) {q : Fin 4} {x : Nat} (dd : decode cc pc = .ok (.astore_n q, 1)) (hn : (q : Nat) < nL) (hl : ((q : Nat), Value.ref x) :: fl1 q lv = lv') (kk : VB D base X nL w cells slots (pc + 1) lv' st) : VB D base X nL w cells slots pc lv (.ref x :: st) := fun H locs ls hP hS h => lv_astore_n C.1 C.2.1 dd rfl h hn hl (fun ls h => kk H locs ls hP hS h)
theorem b_iinc (C : CB D cA base X cc nL own d mc ms) (lv' : List (Nat × Value)) (k : Nat) {i : Nat} {n : Int} {x : Int32} (v : Int32) (dd : decode cc pc = .ok (.iinc i n, 3)) (hk : lv[k]? = some (i, .int x)) (hv : x + Int32.ofInt n = v) (hn : i < nL) (hl : (i, Value.int v) :: fl1 i lv = lv') (kk : VB D base X nL w cells slots (pc + 3) lv' st) : VB D base X nL w cells slots pc lv st := fun H locs ls hP hS h => lv_iinc C.1 C.2.1 dd h hk hv hn hl (fun ls h => kk H locs ls hP hS h)
theorem b_goto (C : CB D cA base X cc nL own d mc ms) (tgt : Nat) {off : Int} (dd : decode cc pc = .ok (.goto off, 3)) (ht : (pc : Int) + off = (tgt : Int)) (kk : VB D base X nL w cells slots tgt lv st) : VB D base X nL w cells slots pc lv st := fun H locs ls hP hS hl => lv_goto C.1 C.2.1 dd ht (kk H locs ls hP hS hl)
theorem b_geT (C : CB D cA base X cc nL own d mc ms) (tgt : Nat) {x y : Int32} {off : Int} (h : y ≤ x) (dd : decode cc pc = .ok (.if_icmp .ge off, 3)) (ht : (pc : Int) + off = (tgt : Int)) (kk : VB D base X nL w cells slots tgt lv st) : VB D base X nL w cells slots pc lv (.int y :: .int x :: st) := fun H locs ls hP hS hl => lv_icmp_ge C.1 C.2.1 dd ht (fun _ => kk H locs ls hP hS hl) (fun n => absurd h n)
theorem b_geF (C : CB D cA base X cc nL own d mc ms) (tgt : Nat) {x y : Int32} {off : Int} (h : ¬ y ≤ x) (dd : decode cc pc = .ok (.if_icmp .ge off, 3)) (ht : (pc : Int) + off = (tgt : Int)) (kk : VB D base X nL w cells slots (pc + 3) lv st) : VB D base X nL w cells slots pc lv (.int y :: .int x :: st) := fun H locs ls hP hS hl => lv_icmp_ge C.1 C.2.1 dd ht (fun n => absurd n h) (fun _ => kk H locs ls hP hS hl)
theorem b_ret (C : CB D cA base X cc nL own d mc ms) (K : RB D base X w mc ms) (dd : decode cc pc = .ok (.return_, 1)) : VB D base X nL w mc ms pc lv [] := fun H locs ls hP hS hl => by
  obtain ⟨k1, k2, k3, k4⟩ := K
  rw [k4]
  exact W.vret C.1 C.2.1 k1 (fun t ht hW => ⟨rfl, by rw [ht]; exact hP, hS.F ht⟩) hS.2.2 dd k2
theorem b_obj (C : CB D cA base X cc nL own d mc ms) {idx a : Nat} (hw : Cond.methodLink own idx objectInit ∈ tw) (h1 : Cond.instanceMethod objectInit ∈ tw) (h2 : Cond.code objectInit ⟨#[0xb1]⟩ 1 none ∈ tw) (hd : 1 ≤ d) (hr : (st.map fun v => v.category).sum ≤ 8) (dd : decode cc pc = .ok (.invokespecial idx, 3)) (kk : VB D base X nL w cells slots (pc + 3) lv st) : VB D base X nL w cells slots pc lv (.ref a :: st) := fun H locs ls hP hS hl => by
  obtain ⟨hx, hb, hml, hown, hts, hK, hO, hN, hf, hlo, hce, hsl⟩ := C
  refine W.objInit hx hb hown (hts _ hw) (hts _ h1) (hts _ h2) rfl (by rw [hml]; exact hl.1) rfl dd (Nat.le_trans hd hf) (by show 2 * 0 + _ + 12 ≤ _; omega) ?_
  exact kk H locs ls hP hS hl
theorem HW.push {D : va_G} {base : Nat} {w : List va_E} {H H1 : Heap} {e : va_E} (h : HW D base w H) (z : H1.size = H.size + 1) (o : ∀ q, q < H.size → H1[q]? = H[q]?) (he : va_at D vwCl (base + w.length, e) H1) : HW D base (w ++ [e]) H1 := by
  refine ⟨by rw [z, h.1, List.length_append]; rfl, fun i x hx => ?_⟩
  by_cases hl : i < w.length
  · rw [List.getElem?_append_left hl] at hx
    exact (h.2 i x hx).kept (o _ (by rw [h.1]; show base + i < _; omega))
  · rw [List.getElem?_append_right (by omega)] at hx
    have h0 : i - w.length < 1 := (List.getElem?_eq_some_iff.mp hx).1
    rw [show i - w.length = 0 by omega] at hx
    cases hx
    rw [show i = w.length by omega]
    exact he
theorem HW.set {D : va_G} {base : Nat} {w : List va_E} {H H1 : Heap} {i : Nat} {e : va_E} (h : HW D base w H) (z : H1.size = H.size) (o : ∀ q, q ≠ base + i → H1[q]? = H[q]?) (he : va_at D vwCl (base + i, e) H1) : HW D base (w.set i e) H1 := by
  refine ⟨by rw [z, h.1, List.length_set], fun j x hx => ?_⟩
  rw [List.getElem?_set] at hx
  by_cases hj : i = j
  · subst hj
    rw [if_pos rfl] at hx
    by_cases hl : i < w.length
    · rw [if_pos hl] at hx
      cases hx
      exact he
    · rw [if_neg hl] at hx
      cases hx
  · rw [if_neg hj] at hx
    exact (h.2 j x hx).kept (o _ (by show base + j ≠ base + i; omega))
theorem vs_push {base : Nat} {H0 H H1 : Heap} {locs : List Loc} (hS : va_S (fun q => base ≤ q) H0 H locs) (z : H1.size = H.size + 1) (o : ∀ q, q < H.size → H1[q]? = H[q]?) : va_S (fun q => base ≤ q) H0 H1 locs := ⟨Nat.le_trans hS.1 (by omega), fun x h1 h2 => (o x (Nat.lt_of_lt_of_le h1 hS.1)).trans (hS.2.1 x h1 h2), hS.2.2⟩
theorem vs_set {base i : Nat} {H0 H H1 : Heap} {locs : List Loc} {lo : Loc} (hl : lo.base = base + i) (hS : va_S (fun q => base ≤ q) H0 H locs) (z : H1.size = H.size) (o : ∀ q, q ≠ base + i → H1[q]? = H[q]?) : va_S (fun q => base ≤ q) H0 H1 (locs ++ [lo]) := ⟨by rw [z]; exact hS.1, fun x h1 h2 => (o x (fun q => h2 (by show base ≤ x; omega))).trans (hS.2.1 x h1 h2), fun q hq => by
  rcases List.mem_append.mp hq with h | h
  · exact hS.2.2 q h
  · rw [List.mem_singleton.mp h]
    show base ≤ lo.base
    rw [hl]
    exact Nat.le_add_right base i⟩
theorem b_new (C : CB D cA base X cc nL own d mc ms) {ci N idx : Nat} {Cn : String} {T : u_T} {fs : List Value} (hin : ∀ w ∈ u_ws Cn T N, w ∈ tw) (ty : Nat → FieldType) (hty : ∀ k, k < N → parseFieldDescriptor (T k).2.2.1 = some (ty k)) (h1 : Cond.classLink own idx Cn ∈ tw) (h2 : Cond.instantiable Cn N ∈ tw) (h3 : Cond.initialized Cn ∈ tw) (hc : vwCl[ci]? = some (Cn, T, N)) (hfs : ∀ j, j < N → defaultValue (ty j) = vp_V fs j) (hce : cells + 1 ≤ mc) (hsl : slots + N ≤ ms) (dd : decode cc pc = .ok (.new idx, 3))
    (w' : List va_E) (hw' : w ++ [.inr (ci, fs)] = w') {a : Nat} (ha : base + w.length = a) (kk : VB D base X nL w' (cells + 1) (slots + N) (pc + 3) lv (.ref a :: st)) : VB D base X nL w cells slots pc lv st := fun H locs ls hP hS hl => by
  subst hw'; subst ha
  obtain ⟨hx, hb, hml, hown, hts, hK, hO, hN, hf, hlo, hmc, hms⟩ := C
  have hKn := hK.1 ci _ hc
  refine W.newcK hx hb hown (hts _ h1) (hts _ h2) (hts _ h3) rfl dd (Nat.le_trans hce hmc) (Nat.le_trans hsl hms) hKn.2.1 hP.1 fun H1 kC hkC e1 z1 o1 => ?_
  rw [← hP.1] at z1 o1
  exact kk H1 locs ls (hP.push z1 o1 ⟨_, hc, (u_born ty hts hin hKn hkC e1 hty).to hfs⟩) (vs_push hS z1 o1) hl
theorem b_newa (C : CB D cA base X cc nL own d mc ms) (atype : ArrayType) {t : Nat} {ty : FieldType} {z : vp_A} {N : Nat} {n : Int32} (hty : newarray.typeOf atype = ty) (hpr : (∃ C, ty = .object C) → False) (hw : Cond.arrayClass ty ∈ tw) (ht : (tysL cA)[t]? = some (cA t, ty)) (hz : ∀ c : ClassId, vp_cell c z = arrV c N (fun _ => defaultValue ty)) (hn : ¬ n < 0) (hN : n.toNatClampNeg = N) (hby : N * componentBytes ty ≤ 536870912) (hce : cells + 1 ≤ mc) (hsl : slots + N ≤ ms) (dd : decode cc pc = .ok (.newarray atype, 2))
    (w' : List va_E) (hw' : w ++ [.inl (cA t, z)] = w') {a : Nat} (ha : base + w.length = a) (kk : VB D base X nL w' (cells + 1) (slots + N) (pc + 2) lv (.ref a :: st)) : VB D base X nL w cells slots pc lv (.int n :: st) := fun H locs ls hP hS hl => by
  subst hw'; subst ha; subst hty
  obtain ⟨hx, hb, hml, hown, hts, hK, hO, hN2, hf, hlo, hmc, hms⟩ := C
  refine va_newaK hx hb (hts _ hw) rfl dd rfl hn hN hby (Nat.le_trans hce hmc) (Nat.le_trans hsl hms) hP.1 fun H1 cA1 e1 z1 o1 hAr hNm => ?_
  have hra := (hK.2 t _ ht).2
  have e2 : cA1 = cA t := by
    cases atype <;> exact Option.some.inj (hNm.symm.trans hra)
  subst e2
  rw [← hP.1] at z1 o1
  refine kk H1 locs ls (hP.push z1 o1 ?_) (vs_push hS z1 o1) hl
  show H1[base + w.length]? = some (vp_cell _ _)
  rw [hz]
  exact e1
theorem b_newq (C : CB D cA base X cc nL own d mc ms) {t idx N : Nat} {Cn : String} {n : Int32} (hao : va_AO Cn X.2.2.2.2.1) (hw : Cond.classLink own idx Cn ∈ tw) (ht : (tysL cA)[t]? = some (cA t, .object Cn)) (hn : ¬ n < 0) (hN : n.toNatClampNeg = N) (hby : N * 4 ≤ 536870912) (hce : cells + 1 ≤ mc) (hsl : slots + N ≤ ms) (dd : decode cc pc = .ok (.anewarray idx, 3))
    (w' : List va_E) (hw' : w ++ [.inl (cA t, N, .inr (.inr (.inr (.inr (fun _ => none)))))] = w') {a : Nat} (ha : base + w.length = a) (kk : VB D base X nL w' (cells + 1) (slots + N) (pc + 3) lv (.ref a :: st)) : VB D base X nL w cells slots pc lv (.int n :: st) := fun H locs ls hP hS hl => by
  subst hw'; subst ha; subst hN
  obtain ⟨hx, hb, hml, hown, hts, hK, hO, hN2, hf, hlo, hmc, hms⟩ := C
  refine W.anew hx hb hown (hts _ hw) (va_AO.use hao) rfl dd rfl hn hby (Nat.le_trans hce hmc) (Nat.le_trans hsl hms) fun cA1 kA comp f1 f2 f3 f4 => ?_
  generalize hH1 : H.push ({ cls := cA1, slots := Array.replicate n.toNatClampNeg .null, vm := .none } : Cell) = H1
  have z1 : H1.size = H.size + 1 := by rw [← hH1, Array.size_push]
  have e1 : H1[H.size]? = some (arrV cA1 n.toNatClampNeg (fun _ => .null)) := by rw [← hH1, Array.getElem?_push_size, ← arrV_new]
  have o1 : ∀ q : Nat, q < H.size → H1[q]? = H[q]? := fun q hq => by rw [← hH1, Array.getElem?_push, if_neg (Nat.ne_of_lt hq)]
  obtain ⟨kA2, comp2, -, -, -, g4⟩ := (hK.2 t _ ht).2
  have e2 : cA1 = cA t := Option.some.inj (f1.symm.trans g4)
  subst e2
  have hsz := hP.1
  rw [hsz] at e1 ⊢
  refine kk H1 locs ls (hP.push z1 o1 ?_) (vs_push hS z1 o1) hl
  show H1[base + w.length]? = some (vp_cell _ _)
  rw [vp_cell_q]
  exact e1
/-- a final field of the object that is made -/
theorem b_putF (C : CB D cA base X cc nL own d mc ms) (hnm2 : X.2.2.2.2.2.2.2.2.1.name = "<init>") (i : Nat) {ci N idx kf : Nat} {Cn : String} {T : u_T} {fs : List Value} {v : Value} {ty : FieldType} (he : w[i]? = some (.inr (ci, fs))) (hc : vwCl[ci]? = some (Cn, T, N)) (hin : ∀ w ∈ u_ws Cn T N, w ∈ tw) (ty0 : Nat → FieldType) (hty : ∀ k, k < N → parseFieldDescriptor (T k).2.2.1 = some (ty0 k)) (hnm : ∀ a, a < N → ∀ b, b < N → a ≠ b → (T a).2.1 ≠ (T b).2.1) (hk : kf < N) (hl0 : kf < fs.length) (hcn : (T kf).1 = own) (hoc : own = Cn) (hfin : (T kf).2.2.2 = true) (hd : parseFieldDescriptor (T kf).2.2.1 = some ty) (hn : narrow ty v = v) (hfit : fits ty v = true) (hw : Cond.fieldLink own idx Cn (T kf).2.1 (T kf).2.2.1 ∈ tw) (dd : decode cc pc = .ok (.putfield idx, 3)) (w' : List va_E) (hw' : w.set i (.inr (ci, fs.set kf v)) = w') (kk : VB D base X nL w' cells slots (pc + 3) lv st) {a : Nat} (ha : base + i = a) : VB D base X nL w cells slots pc lv (v :: .ref a :: st) := fun H locs ls hP hS hl => by
  subst hw'; subst ha; subst hoc
  obtain ⟨hx, hb, hml, hown, hts, hK, hO, hN2, hf, hlo, hmc, hms⟩ := C
  have hap := va_apart (own := own) hts hin ty0 hty hnm hK hc
  obtain ⟨r, h1, cell, q1, q2, q3, q4⟩ := hP.2 i _ he
  have hr : r = (own, T, N) := Option.some.inj (h1.symm.trans hc)
  subst hr
  obtain ⟨hSl, hfc, kC, hkC, hkind⟩ := hK.1 ci _ hc
  obtain ⟨cf, kf2, fi, f, hi, hsl⟩ := hSl kf hk
  have hlay := hts _ (hin _ (u_in_lay hk))
  unfold u_lay at hlay
  rw [if_pos hfin] at hlay
  have hst := (u_facts hfc hkC (u_lays hts hin hk) hi).1
  have hcf : X.2.2.2.2.2.1.cls = cf := by
    obtain ⟨_, _, c', _, _, _, -, -, hf', -, -, -, hown2, -⟩ := Cond.laysFinal_spec hlay
    have e1 : c' = cf := by have := hi.symm.trans hf'; simp at this; exact this.1.symm
    rw [hcn] at hown2
    rw [← e1]; exact Option.some.inj (hown.symm.trans hown2)
  have h6 := u_fits hfc hkC hkind (Or.inr hlay) hi hd hn hfit
  refine W.putFinK hx hb hown (hts _ hw) (by rw [hcn] at hi; exact hi) hst hcf hnm2 (by rw [q2]; exact h6) q1 q3 (by rw [hsl]; exact k2_hasslot (q4 kf hk)) rfl rfl dd fun H' e1 e2 e3 => ?_
  rw [hsl] at e1 ⊢
  exact kk H' _ ls (hP.set e2 e3 ⟨_, hc, t_OB.to (V := updV (vp_V fs) kf v) ⟨_, e1, q2, q3, t_set q4 hap hk v⟩ (fun j _ => vp_updV_set hl0 v j)⟩) (vs_set rfl hS e2 e3) hl
theorem b_put (C : CB D cA base X cc nL own d mc ms) (i : Nat) {ci N idx kf : Nat} {Cn : String} {T : u_T} {fs : List Value} {v : Value} {ty : FieldType} (he : w[i]? = some (.inr (ci, fs))) (hc : vwCl[ci]? = some (Cn, T, N)) (hin : ∀ w ∈ u_ws Cn T N, w ∈ tw) (ty0 : Nat → FieldType) (hty : ∀ k, k < N → parseFieldDescriptor (T k).2.2.1 = some (ty0 k)) (hnm : ∀ a, a < N → ∀ b, b < N → a ≠ b → (T a).2.1 ≠ (T b).2.1) (hk : kf < N) (hl0 : kf < fs.length) (hcn : (T kf).1 = Cn) (hfin : (T kf).2.2.2 = false) (hd : parseFieldDescriptor (T kf).2.2.1 = some ty) (hn : narrow ty v = v) (hfit : fits ty v = true) (hw : Cond.fieldLink own idx Cn (T kf).2.1 (T kf).2.2.1 ∈ tw) (dd : decode cc pc = .ok (.putfield idx, 3)) (w' : List va_E) (hw' : w.set i (.inr (ci, fs.set kf v)) = w') (kk : VB D base X nL w' cells slots (pc + 3) lv st) {a : Nat} (ha : base + i = a) : VB D base X nL w cells slots pc lv (v :: .ref a :: st) := fun H locs ls hP hS hl => by
  subst hw'; subst ha
  obtain ⟨hx, hb, hml, hown, hts, hK, hO, hN2, hf, hlo, hmc, hms⟩ := C
  have hap := va_apart (own := own) hts hin ty0 hty hnm hK hc
  obtain ⟨r, h1, cell, q1, q2, q3, q4⟩ := hP.2 i _ he
  have hr : r = (Cn, T, N) := Option.some.inj (h1.symm.trans hc)
  subst hr
  obtain ⟨hSl, hfc, kC, hkC, hkind⟩ := hK.1 ci _ hc
  obtain ⟨cf, kf2, fi, f, hi, hsl⟩ := hSl kf hk
  have hlay := hts _ (hin _ (u_in_lay hk))
  unfold u_lay at hlay
  rw [if_neg (by rw [hfin]; decide)] at hlay
  have hst := (u_facts hfc hkC (u_lays hts hin hk) hi).1
  have h6 := u_store hfc hkC hkind hlay hi hd hn hfit
  refine W.putK hx hb (f := f) ⟨hown, hts _ hw, ⟨_, _, _, by rw [hcn] at hi; exact hi⟩, hst⟩ (by rw [q2]; exact h6) q1 q3 (by rw [hsl]; exact k2_hasslot (q4 kf hk)) rfl rfl dd fun H' e1 e2 e3 => ?_
  rw [hsl] at e1 ⊢
  exact kk H' _ ls (hP.set e2 e3 ⟨_, hc, t_OB.to (V := updV (vp_V fs) kf v) ⟨_, e1, q2, q3, t_set q4 hap hk v⟩ (fun j _ => vp_updV_set hl0 v j)⟩) (vs_set rfl hS e2 e3) hl
theorem b_get (C : CB D cA base X cc nL own d mc ms) (i : Nat) {ci N idx kf : Nat} {Cn : String} {T : u_T} {fs : List Value} {v : Value} (he : w[i]? = some (.inr (ci, fs))) (hc : vwCl[ci]? = some (Cn, T, N)) (hin : ∀ w ∈ u_ws Cn T N, w ∈ tw) (hk : kf < N) (hv : fs[kf]? = some v) (hcn : (T kf).1 = Cn) (hw : Cond.fieldLink own idx Cn (T kf).2.1 (T kf).2.2.1 ∈ tw) (dd : decode cc pc = .ok (.getfield idx, 3)) (kk : VB D base X nL w cells slots (pc + 3) lv (v :: st)) {a : Nat} (ha : base + i = a) : VB D base X nL w cells slots pc lv (.ref a :: st) := fun H locs ls hP hS hl => by
  subst ha
  exact va_get (D := D) (ref := Cn) (ws := [(base + i, .inr (ci, fs))]) C.1 C.2.1 C.2.2.2.2.1 hin C.2.2.2.1 C.2.2.2.2.2.1 (fun k q h => by
    have h0 : k < 1 := (List.getElem?_eq_some_iff.mp h).1
    rw [show k = 0 by omega] at h
    cases h
    exact hP.2 i _ he) 0 rfl hc kf hk (C.2.2.2.2.1 _ hw) (fun x h9 => by rw [hcn] at h9; exact h9) hv dd (kk H locs ls hP hS hl)
theorem b_aast (C : CB D cA base X cc nL own d mc ms) (i k : Nat) {t ci n : Nat} {r : vw_C} {vs : List Value} {f : Nat → Option Nat} {ix : Int32} (ha : w[i]? = some (.inl (cA t, n, .inr (.inr (.inr (.inr f)))))) (ht : (tysL cA)[t]? = some (cA t, .object r.1)) (hv : w[k]? = some (.inr (ci, vs))) (hc : vwCl[ci]? = some r) (hg : gin ix n) (dd : decode cc pc = .ok (.aastore, 1)) (w' : List va_E) {b : Nat} (hb2 : base + k = b) (hw' : w.set i (.inl (cA t, n, .inr (.inr (.inr (.inr (va_up f ix.toNatClampNeg (some b))))))) = w') (kk : VB D base X nL w' cells slots (pc + 1) lv st) {a : Nat} (ha2 : base + i = a) : VB D base X nL w cells slots pc lv (.ref b :: .int ix :: .ref a :: st) := fun H locs ls hP hS hl => by
  subst hw'; subst ha2; subst hb2
  obtain ⟨hx, hb, hml, hown, hts, hK, hO, hN2, hf, hlo, hmc, hms⟩ := C
  have hlt : ix.toNatClampNeg < n := Nat.not_le.mp fun q => hg (Or.inr q)
  have h0 : ¬ ix < 0 := fun q => hg (Or.inl q)
  obtain ⟨r', hr', cellV, g1, g2, g3, -⟩ := hP.2 k _ hv
  have hcls := (hK.1 ci r hc).2
  obtain ⟨kA, comp, k1, k2, k3, -⟩ := (hK.2 t _ ht).2
  have hcomp : comp = D.1 ci := Option.some.inj (k3.symm.trans hcls.1)
  subst hcomp
  obtain ⟨kC, hkC, -⟩ := hcls.2
  refine W.aast hx hb (hP.2 i _ ha) (fun q h => by cases h) (fun h => by cases h) k1 k2 rfl hkC ⟨h0, by show _ < (arrV _ _ _).slots.size; rw [arrV_size]; exact hlt⟩ g1 (fun q h => by rw [g3] at h; cases h) (by rw [g2]; exact hkC) (by rw [g2]; exact va_assign hcls) rfl rfl dd fun H1 e z oq => ?_
  refine kk H1 _ ls (hP.set z oq ?_) (vs_set rfl hS z oq) hl
  show H1[base + i]? = some (vp_cell _ _)
  rw [e]
  rw [vp_cell_q, vp_cell_q, arrV_store]
  congr 2
  funext q
  by_cases hq : q = ix.toNatClampNeg
  · subst hq
    simp [updV, va_up, va_rf]
  · simp [updV, va_up, hq]
/-- what an array of references holds is told anew, at its places -/
theorem b_same (i : Nat) {c0 : ClassId} {n : Nat} {f g : Nat → Option Nat} (ha : w[i]? = some (.inl (c0, n, .inr (.inr (.inr (.inr f)))))) (hfg : ∀ j, j < n → f j = g j) (w' : List va_E) (hw' : w.set i (.inl (c0, n, .inr (.inr (.inr (.inr g))))) = w') (kk : VB D base X nL w' cells slots pc lv st) : VB D base X nL w cells slots pc lv st := fun H locs ls hP hS hl => by
  subst hw'
  refine kk H locs ls (hP.set rfl (fun _ _ => rfl) ?_) hS hl
  have h1 : H[base + i]? = some (vp_cell _ _) := hP.2 i _ ha
  show H[base + i]? = some (vp_cell _ _)
  rw [h1, vp_cell_q, vp_cell_q]
  refine congrArg some ?_
  unfold arrV
  refine congrArg (fun x => ({ cls := c0, slots := x, vm := .none } : Cell)) ?_
  refine congrArg Array.ofFn (funext fun j => ?_)
  show va_rf (f j.1) = va_rf (g j.1)
  rw [hfg j.1 j.2]
theorem ci_blind {args : List Value} {w1 : List va_E} : FrameBlind (va_Pc args (fun U => HW D base w1 U.heap ∧ va_K D vwCl (tysL cA) U ∧ aos U ∧ NWs U)) := fun a U g mk q => by
  obtain ⟨q0, q1, q2, q3, q4⟩ := q
  exact ⟨q0, q1, va_K.moved (u := U) (U := U.calling g mk a) (Vm.Alike.refl U.vm) q2, q3.same (U := U.calling g mk a) rfl, q4.same (U := U.calling g mk a) rfl⟩
theorem b_run {a : Array Value} {rest : List Value} {Hh : Heap} {locs0 : List Loc} {ls : Array Slot} {w1 : List va_E} {mcy msy : Nat}
    (hr : va_Run X.1 X.2.1 X.2.2.1 X.2.2.2.1 X.2.2.2.2.1 X.2.2.2.2.2.1 X.2.2.2.2.2.2.1 X.2.2.2.2.2.2.2.1 X.2.2.2.2.2.2.2.2.1 X.2.2.2.2.2.2.2.2.2.1 Hh locs0 cells slots mcy msy (F0 X.2.2.2.2.2.1 pc ls st) rest (QB D base w1 a) (fun q => base ≤ q))
    (hS : va_S (fun q => base ≤ q) X.2.2.2.2.1.heap Hh locs0) (hl : lv_has ls nL lv) (k : VB D base X nL w1 (cells + mcy) (slots + msy) (pc + 3) lv rest) : W X.1 X.2.1 X.2.2.1 X.2.2.2.1 X.2.2.2.2.1 X.2.2.2.2.2.1 X.2.2.2.2.2.2.1 X.2.2.2.2.2.2.2.1 X.2.2.2.2.2.2.2.2.1 X.2.2.2.2.2.2.2.2.2.1 Hh locs0 cells slots X.2.2.2.2.2.2.2.2.2.2 (F0 X.2.2.2.2.2.1 pc ls st) := by
  intro T hT Xs
  obtain ⟨v, st₀, t, T', L, h0, X', hL, e1, e2, ⟨hv, hP1, hz, hk⟩, stp⟩ := hr T hT Xs
  have hv : v = none := by cases hv; rfl
  subst hv
  rw [h0] at hz hk
  obtain ⟨t2, a1, b1⟩ := k T'.heap (locs0 ++ L) ls (by rw [e1]; exact hP1)
    ⟨Nat.le_trans hS.1 (by rw [e1]; exact hz), fun q h1 h2 => by rw [e1, hk q (Nat.lt_of_lt_of_le h1 hS.1) h2]; exact hS.2.1 q h1 h2, fun q hq => by
      rcases List.mem_append.mp hq with h | h
      · exact hS.2.2 q h
      · exact hL q h⟩ hl T' rfl X'
  exact ⟨t2, stp t2 a1, b1⟩
/-- the constructor of an object just made -/
theorem b_callI (C : CB D cA base X cc nL own d mc ms) (rest : List Value) {y : MethodName} {cy : ByteArray} {ny dy mcy msy idx n b : Nat} {As : List Value} {w0 w1 : List va_E} (hw0 : w = w0) (hM : CI D cA base y cy ny dy mcy msy (.ref b :: As) w0 w1) (i1 : Cond.code y cy ny none ∈ tw) (i2 : Cond.initialized y.cls ∈ tw) (i3 : Cond.instanceMethod y ∈ tw) (i4 : y.name = "<init>") (i5 : ny ≤ 21) (i6 : y.cls ≠ "java/lang/invoke/MethodHandle" ∧ y.cls ≠ "java/lang/invoke/VarHandle" ∧ (parseMethodDescriptor y.desc).map (fun d => d.parameters.length) = some n) (hw : Cond.methodLink own idx y ∈ tw) (hd : dy + 1 ≤ d) (hce : cells + mcy ≤ mc) (hsl : slots + msy ≤ ms) (hn : As.length = n) (hst : st = As.reverse ++ .ref b :: rest) (hr : (rest.map fun v => v.category).sum ≤ 8) (dd : decode cc pc = .ok (.invokespecial idx, 3)) {w2 : List va_E} (hw2 : w1 = w2) (kk : VB D base X nL w2 (cells + mcy) (slots + msy) (pc + 3) lv rest) : VB D base X nL w cells slots pc lv st := fun H locs ls hP hS hl => by
  subst hw0; subst hw2
  obtain ⟨hx, hb, hml, hown, hts, hK, hO, hN, hf, hlo, hmc, hms⟩ := C
  obtain ⟨i6, i7, i8⟩ := i6
  exact b_run (va_runI (bytes := cy) (maxL := ny) (As := As) (rest := rest) (b := b) ⟨hx, hb, hml, hown, hts⟩ (hM _) ⟨⟨rfl, rfl, by show dy + 1 ≤ _; omega, by show 8 + (ny + 11) + 40 * dy ≤ _; omega, ws_pay hts i1, List.mem_cons_self, hts _ i1, hts _ i2, ⟨i6, i7⟩, cb_len i8, hts _ hw⟩, i4, hts _ i3⟩ ⟨ci_blind, fun U hU hW => ⟨rfl, by rw [hU]; exact hP, va_K.moved hW.alike hK, hO.moved hW, hN.warm hW⟩⟩ rfl hn hl.1 hst (by show 2 * 0 + _ ≤ 8; omega) dd ⟨by omega, by omega⟩) hS hl kk
/-- the constructor of an object just made -/
theorem b_callIN (C : CB D cA base X cc nL own d mc ms) (rest : List Value) {y : MethodName} {cy : ByteArray} {ny dy mcy msy idx n b : Nat} {As : List Value} {w0 w1 : List va_E} (hw0 : w = w0) (hM : CI D cA base y cy ny dy mcy msy (.ref b :: As) w0 w1) (i1 : Cond.code y cy ny none ∈ tw) (i2 : Cond.initialized y.cls ∈ tw) (i3 : Cond.instanceMethod y ∈ tw) (i4 : y.name = "<init>") (i5 : ny ≤ 21) (i6 : y.cls ≠ "java/lang/invoke/MethodHandle" ∧ y.cls ≠ "java/lang/invoke/VarHandle" ∧ (parseMethodDescriptor y.desc).map (fun d => d.parameters.length) = some n) (hw : (own, idx, y) ∈ nwL) (hd : dy + 1 ≤ d) (hce : cells + mcy ≤ mc) (hsl : slots + msy ≤ ms) (hn : As.length = n) (hst : st = As.reverse ++ .ref b :: rest) (hr : (rest.map fun v => v.category).sum ≤ 8) (dd : decode cc pc = .ok (.invokespecial idx, 3)) {w2 : List va_E} (hw2 : w1 = w2) (kk : VB D base X nL w2 (cells + mcy) (slots + msy) (pc + 3) lv rest) : VB D base X nL w cells slots pc lv st := fun H locs ls hP hS hl => by
  subst hw0; subst hw2
  obtain ⟨hx, hb, hml, hown, hts, hK, hO, hN, hf, hlo, hmc, hms⟩ := C
  obtain ⟨i6, i7, i8⟩ := i6
  exact b_run (va_runIN (host := "UnnestPlans") (bytes := cy) (maxL := ny) (As := As) (rest := rest) (b := b) ⟨hx, hb, hml, hown, hts⟩ (hM _) ⟨⟨⟨rfl, rfl, by show dy + 1 ≤ _; omega, by show 8 + (ny + 11) + 40 * dy ≤ _; omega, ws_pay hts i1, List.mem_cons_self⟩, hts _ i1, hts _ i2, ⟨i6, i7⟩, cb_len i8, va_Nw.use rfl (hN _ hw)⟩, i4, hts _ i3⟩ ⟨ci_blind, fun U hU hW => ⟨rfl, by rw [hU]; exact hP, va_K.moved hW.alike hK, hO.moved hW, hN.warm hW⟩⟩ rfl hn hl.1 hst (by show 2 * 0 + _ ≤ 8; omega) dd ⟨by omega, by omega⟩) hS hl kk
end BR
