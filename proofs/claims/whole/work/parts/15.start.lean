/-! THE CLAIM OUT OF ONE WALK OF THE LAW'S BODY. Your part is whole_start (and what it stands on); all else here is the same for every law, but numbers. -/
def R_law : String := "UnnestPlansLaw"
def lw_P (b : Addr) (xs : List Int32) (args : Array Value) (s : State) : Prop := args = #[.ref b] ∧ s.IntsAt b xs ∧ xs.length ≤ 3072 ∧ (Jvm.Cond.and given_1 narrow_1).before args s = true
/-- what a walk over the start with the record d0 says of its end, said of the start itself -/
theorem lw_closed {s t : State} {o : Outcome} {d0 : Drawn} {L : List Loc} {k n : Nat} (hd0 : s.drawn.sameBut d0 lw_cs) (hv : ∃ v, o = .returned v) (hW : (s.setDrawn d0).WarmedH t.vm) (hs : (s.setDrawn d0).sameButNew ({ t with vm := s.vm } : State) L k n) : State.butDraws s t lw_cs (fun t1 => Framed s o t1 L k n) := by
  have h2 : t.drawn = d0 := congrArg State.drawn hs.1
  refine ⟨⟨hv, hW, State.sameButNew.setDrawn hs s.drawn⟩, ?_, by decide⟩
  rw [h2]
  exact hd0
def lw_Q (_ : Array Value) (s : State) (o : Outcome) (t : State) : Prop := o = .returned (some (.int 1)) ∧ State.butDraws s t lw_cs (fun t1 => Framed s o t1 [] 600000 7302250)
def lw_Z (below : List Frame) (a : Array Value) (s : State) : State → Prop := fun t => ∃ o, t.status = .running ∧ Ended t below o ∧ lw_Q a s o t
/-- the law's own end, with 1 on the stack, nothing written that was there before, its room as the claim has it; d0: the record of draws at this point (at the entry s.drawn: begin with 'refine W.base ?_' and 'have hd0 := Drawn.sameBut.refl s.drawn lw_cs') -/
theorem lw_ret {p : Program} {l : Launch} {e : Env} {s : State} {m : MethodId} {below : List Frame} {meth : Method} {c : Code} {b : Nat} {d0 : Drawn} (hd0 : s.drawn.sameBut d0 lw_cs) (hx : p.tables.exec = Jvm.exec) (hb : c.code = code) (hr : meth.sig.returnType = ret) (hlocks : meth.locks = false) {pc : Nat} {H : Heap} {ls : Array Slot} (hdg : decode code pc = .ok (.ireturn, 1)) : W p l e room_1 (s.setDrawn d0) m #[Value.ref b] below meth c H [] 600000 7302250 (lw_Z below #[Value.ref b] s) (F0 m pc ls [.int 1]) := by
  intro T hT X
  obtain ⟨fs, hret, hrun, hended, hW, hframe⟩ := X.leave (v := some (.int 1)) (hlocks := hlocks) (fun h => by rw [hr] at h; cases h)
  have hmeth' : T.vm.method? m = some meth := X.method'
  refine ⟨T.setFrames fs, ?_, .returned (some (.int 1)), hrun, hended, rfl, lw_closed hd0 ⟨_, rfl⟩ hW hframe⟩
  jvm_step X.here [X.here.top, hx, hb, hdg, hmeth', hr, ret, narrow_b1]
  (try refine ⟨rfl, ?_⟩); (try refine ⟨rfl, ?_⟩)
  first | (intro acts; rw [hret _ acts rfl rfl rfl]) | rw [hret _ _ rfl rfl rfl]
  exact Steps.refl _
/-- what holds at the law's entry: the machine, the code, the tables' words (any of lw_tbl by 'hts w (by decide +kernel)'), the script of L ints xs at the cell b, what the Statement gives of the start (any of its parts by flat_of_before) -/
def lw_At (p : Program) (s : State) (m : MethodId) (meth : Method) (c : Code) (b L : Nat) (xs : Nat → Int32) : Prop :=
  p.tables.exec = Jvm.exec ∧ c.code = code ∧ meth.sig.returnType = ret ∧ c.maxLocals = 4 ∧ s.vm.findClass R_law = some m.cls ∧ (∀ w ∈ lw_tbl, w.before #[Value.ref b] s = true) ∧ va_X b L xs s s.heap ∧ b < s.heap.size ∧ meth.locks = false ∧ (Jvm.Cond.and given_1 narrow_1).before #[Value.ref b] s = true
theorem clL_7 : Cond.classLink RL 7 RX11 ∈ tw := tw_in 96 (by decide +kernel) (by decide +kernel)
theorem clL_10 : Cond.classLink RL 10 RX12 ∈ tw := tw_in 880 (by decide +kernel) (by decide +kernel)
theorem inq_0 : Cond.instantiable RX0 4 ∈ tw := tw_in 277 (by decide +kernel) (by decide +kernel)
theorem inq_1 : Cond.instantiable RX1 3 ∈ tw := tw_in 224 (by decide +kernel) (by decide +kernel)
theorem inq_2 : Cond.instantiable RX2 4 ∈ tw := tw_in 303 (by decide +kernel) (by decide +kernel)
theorem inq_3 : Cond.instantiable RX3 3 ∈ tw := tw_in 109 (by decide +kernel) (by decide +kernel)
theorem inq_4 : Cond.instantiable RX4 10 ∈ tw := tw_in 329 (by decide +kernel) (by decide +kernel)
theorem inq_5 : Cond.instantiable RX5 6 ∈ tw := tw_in 271 (by decide +kernel) (by decide +kernel)
theorem inq_6 : Cond.instantiable RX6 3 ∈ tw := tw_in 203 (by decide +kernel) (by decide +kernel)
theorem inq_7 : Cond.instantiable RX7 4 ∈ tw := tw_in 145 (by decide +kernel) (by decide +kernel)
theorem inq_8 : Cond.instantiable RX8 4 ∈ tw := tw_in 115 (by decide +kernel) (by decide +kernel)
theorem inq_9 : Cond.instantiable RX9 6 ∈ tw := tw_in 233 (by decide +kernel) (by decide +kernel)
theorem inq_10 : Cond.instantiable RX10 2 ∈ tw := tw_in 186 (by decide +kernel) (by decide +kernel)
theorem inq_11 : Cond.instantiable RX11 9 ∈ tw := tw_in 97 (by decide +kernel) (by decide +kernel)
theorem inq_12 : Cond.instantiable RX12 44 ∈ tw := tw_in 881 (by decide +kernel) (by decide +kernel)
theorem inl_11 : Cond.initialized RX11 ∈ tw := tw_in 80 (by decide +kernel) (by decide +kernel)
theorem dfq_11 : ∀ j, j < 9 → defaultValue (tyX11 j) = vp_V [.null, .null, .null, .null, .null, .null, .int 0, .int 0, .int 0] j := by decide +kernel
theorem inl_12 : Cond.initialized RX12 ∈ tw := tw_in 92 (by decide +kernel) (by decide +kernel)
theorem dfq_12 : ∀ j, j < 44 → defaultValue (tyX12 j) = vp_V [.null, .null, .null, .null, .null, .null, .int 0, .null, .null, .int 0, .int 0, .int 0, .null, .null, .null, .null, .null, .int 0, .null, .null, .null, .int 0, .null, .null, .null, .null, .null, .null, .int 0, .int 0, .int 0, .int 0, .null, .null, .null, .int 0, .null, .null, .null, .null, .null, .null, .null, .int 0] j := by decide +kernel
theorem llL_9 : Cond.methodLink RL 9 yX11_init ∈ tw := tw_in 98 (by decide +kernel) (by decide +kernel)
theorem ccq_X11_init : Cond.code yX11_init cX11_init 2 none ∈ tw := tw_in 100 (by decide +kernel) (by decide +kernel)
theorem cimq_X11_init : Cond.instanceMethod yX11_init ∈ tw := tw_in 99 (by decide +kernel) (by decide +kernel)
theorem llL_12 : Cond.methodLink RL 12 yX12_init ∈ tw := tw_in 882 (by decide +kernel) (by decide +kernel)
theorem ccq_X12_init : Cond.code yX12_init cX12_init 1 none ∈ tw := tw_in 884 (by decide +kernel) (by decide +kernel)
theorem cimq_X12_init : Cond.instanceMethod yX12_init ∈ tw := tw_in 883 (by decide +kernel) (by decide +kernel)
theorem ov_Text : Cond.arrayOver (.object "UnnestPlans$Text") ∈ lw_tbl := List.mem_of_getElem? (i := 105) (by decide +kernel)
theorem ov_Sheet : Cond.arrayOver (.object "UnnestPlans$Sheet") ∈ lw_tbl := List.mem_of_getElem? (i := 107) (by decide +kernel)
theorem ov_Tally : Cond.arrayOver (.object "UnnestPlans$Tally") ∈ lw_tbl := List.mem_of_getElem? (i := 232) (by decide +kernel)
theorem ov_A : Cond.arrayOver (.array .int) ∈ lw_tbl := List.mem_of_getElem? (i := 230) (by decide +kernel)
theorem nw_in : ∀ q ∈ nwL, Cond.methodLinkNest q.1 q.2.1 q.2.2 "UnnestPlans" ∈ lw_tbl := by
  intro q hq
  have h : nwL.map (fun q => Cond.methodLinkNest q.1 q.2.1 q.2.2 "UnnestPlans") = [110, 116, 146, 204, 234, 278, 304, 330, 451, 465, 596, 629, 662, 670, 719, 745, 762, 805, 841].filterMap (fun i => lw_tbl[i]?) := by decide +kernel
  have h1 : Cond.methodLinkNest q.1 q.2.1 q.2.2 "UnnestPlans" ∈ nwL.map (fun q => Cond.methodLinkNest q.1 q.2.1 q.2.2 "UnnestPlans") := List.mem_map.mpr ⟨q, hq, rfl⟩
  rw [h] at h1
  obtain ⟨i, -, hi⟩ := List.mem_filterMap.mp h1
  exact List.mem_of_getElem? hi
/-- the memory of two objects just made -/
abbrev wU (cA : Nat → ClassId) (base : Nat) : List va_E := [.inr (11, [.ref (base + 1), .ref (base + 2), .ref (base + 3), .ref (base + 55), .ref (base + 67), .ref (base + 79), .int 0, .int 0, .int 1]), qarr cA 3 3 (fun j => some (base + (13 + 2 * j))), qarr cA 4 4 (fun j => some (base + (19 + 2 * j))), .inr (3, [.ref (base + 4), .ref (base + 7), .ref (base + 10)]), .inr (8, [.ref (base + 5), .ref (base + 6), .int 0, .int (-1)]), iarr cA 10, iarr cA 10, .inr (8, [.ref (base + 8), .ref (base + 9), .int 0, .int (-1)]), iarr cA 10, iarr cA 10, .inr (7, [.ref (base + 11), .ref (base + 12), .int 0, .int (-1)]), iarr cA 12, iarr cA 12, .inr (10, [.ref (base + 14), .int 0]), iarr cA 29, .inr (10, [.ref (base + 16), .int 0]), iarr cA 29, .inr (10, [.ref (base + 18), .int 0]), iarr cA 12, .inr (6, [.ref (base + 20), .int (-1), .int 0]), iarr cA 60, .inr (6, [.ref (base + 22), .int (-1), .int 0]), iarr cA 60, .inr (6, [.ref (base + 24), .int (-1), .int 0]), iarr cA 60, .inr (6, [.ref (base + 26), .int (-1), .int 0]), iarr cA 60, .inr (1, [.ref (base + 28), .ref (base + 43), .ref (base + 44)]), qarr cA 6 14 (fun j => some (base + (29 + j))), iarr cA 220, iarr cA 220, iarr cA 220, iarr cA 220, iarr cA 220, iarr cA 220, iarr cA 220, iarr cA 220, iarr cA 220, iarr cA 220, iarr cA 220, iarr cA 220, iarr cA 220, iarr cA 220, iarr cA 14, qarr cA 5 10 (fun j => some (base + (45 + j))), .inr (9, [.int 0, .int 0, .int 0, .int 0, .int 0, .int 0]), .inr (9, [.int 0, .int 0, .int 0, .int 0, .int 0, .int 0]), .inr (9, [.int 0, .int 0, .int 0, .int 0, .int 0, .int 0]), .inr (9, [.int 0, .int 0, .int 0, .int 0, .int 0, .int 0]), .inr (9, [.int 0, .int 0, .int 0, .int 0, .int 0, .int 0]), .inr (9, [.int 0, .int 0, .int 0, .int 0, .int 0, .int 0]), .inr (9, [.int 0, .int 0, .int 0, .int 0, .int 0, .int 0]), .inr (9, [.int 0, .int 0, .int 0, .int 0, .int 0, .int 0]), .inr (9, [.int 0, .int 0, .int 0, .int 0, .int 0, .int 0]), .inr (9, [.int 0, .int 0, .int 0, .int 0, .int 0, .int 0]), .inr (5, [.ref (base + 56), .ref (base + 59), .ref (base + 63), .ref (base + 27), .int 1000000, .int 0]), .inr (0, [.ref (base + 57), .ref (base + 58), .int 0, .int (-1)]), iarr cA 14, iarr cA 14, .inr (2, [.ref (base + 60), .ref (base + 61), .ref (base + 62), .int 0]), iarr cA 10, iarr cA 10, iarr cA 10, .inr (4, [.ref (base + 64), .ref (base + 65), .ref (base + 66), .int 0, .int (-1), .int 0, .int 0, .int 0, .int 0, .int 0]), iarr cA 10, farr cA 10, iarr cA 200, .inr (5, [.ref (base + 68), .ref (base + 71), .ref (base + 75), .ref (base + 27), .int 1000000, .int 0]), .inr (0, [.ref (base + 69), .ref (base + 70), .int 0, .int (-1)]), iarr cA 14, iarr cA 14, .inr (2, [.ref (base + 72), .ref (base + 73), .ref (base + 74), .int 0]), iarr cA 10, iarr cA 10, iarr cA 10, .inr (4, [.ref (base + 76), .ref (base + 77), .ref (base + 78), .int 0, .int (-1), .int 0, .int 0, .int 0, .int 0, .int 0]), iarr cA 10, farr cA 10, iarr cA 200, .inr (5, [.ref (base + 80), .ref (base + 83), .ref (base + 87), .ref (base + 27), .int 1000000, .int 0]), .inr (0, [.ref (base + 81), .ref (base + 82), .int 0, .int (-1)]), iarr cA 14, iarr cA 14, .inr (2, [.ref (base + 84), .ref (base + 85), .ref (base + 86), .int 0]), iarr cA 10, iarr cA 10, iarr cA 10, .inr (4, [.ref (base + 88), .ref (base + 89), .ref (base + 90), .int 0, .int (-1), .int 0, .int 0, .int 0, .int 0, .int 0]), iarr cA 10, farr cA 10, iarr cA 200]
abbrev wM (cA : Nat → ClassId) (base : Nat) : List va_E := [.inr (12, [.ref (base + 92), .ref (base + 93), .ref (base + 94), .ref (base + 95), .ref (base + 96), .ref (base + 97), .int 0, .ref (base + 98), .ref (base + 99), .int 0, .int 0, .int 0, .ref (base + 100), .ref (base + 101), .ref (base + 102), .ref (base + 103), .ref (base + 104), .int 0, .ref (base + 105), .ref (base + 106), .ref (base + 107), .int 0, .ref (base + 108), .ref (base + 109), .ref (base + 110), .ref (base + 111), .ref (base + 112), .ref (base + 113), .int 0, .int 0, .int 0, .int 0, .ref (base + 114), .ref (base + 115), .ref (base + 116), .int 0, .ref (base + 117), .ref (base + 118), .ref (base + 119), .ref (base + 120), .ref (base + 121), .ref (base + 122), .ref (base + 123), .int 0]), iarr cA 3, iarr cA 90, iarr cA 3, iarr cA 2, iarr cA 20, iarr cA 20, iarr cA 12, iarr cA 12, iarr cA 2, iarr cA 20, iarr cA 10, iarr cA 2, iarr cA 400, iarr cA 300, iarr cA 300, iarr cA 300, iarr cA 300, iarr cA 300, iarr cA 300, iarr cA 12, iarr cA 480, iarr cA 480, iarr cA 10, iarr cA 10, iarr cA 10, iarr cA 20, iarr cA 10, zarr cA 4, iarr cA 4, iarr cA 4, iarr cA 240, iarr cA 60]
set_option maxRecDepth 100000 in
set_option maxHeartbeats 4000000 in
theorem w_all (cA : Nat → ClassId) (base : Nat) : wU cA base ++ wM cA base = (List.range NC).map (fun i => ent (fun i => base + i) cA M0 i) := rfl
theorem HW.wd {D : va_G} {cA : Nat → ClassId} {base : Nat} {H : Heap} (h : HW D base (wU cA base ++ wM cA base) H) : va_P D vwCl (wd (D, (fun i => base + i), cA) M0) H := by
  intro k q hq
  obtain ⟨hk, rfl⟩ := wd_len hq
  refine h.2 k _ ?_
  rw [w_all, List.getElem?_map, List.getElem?_range hk]
  rfl
theorem arr_p {s : State} {args : Array Value} {ty : FieldType} (hp : ∀ C, ty ≠ .object C) (h : (Cond.arrayClass ty).before args s = true) : ∃ c : ClassId, ArrOfT s c ty ∧ va_RA s c ty := by
  obtain ⟨c, k, comp, h1, h2, h3⟩ := Cond.arrayClass_spec h
  refine ⟨c, fun n z => ⟨fun k h => (by cases h), k, h2, comp, h3⟩, ?_⟩
  cases ty with
  | object C => exact absurd rfl (hp C)
  | _ => exact h1
theorem arr_o {s : State} {args : Array Value} {C : String} (h : (Cond.arrayOver (.object C)).before args s = true) : ∃ c : ClassId, ArrOfT s c (.object C) ∧ va_RA s c (.object C) := by
  obtain ⟨comp, c, k, h1, h2, h3, h4, h5⟩ := Cond.arrayOver_spec h
  exact ⟨c, fun n z => ⟨fun k h => (by cases h), k, h3, comp, h4⟩, k, comp, h3, h4, h1, h5⟩
theorem arr_a {s : State} {args : Array Value} (h : (Cond.arrayOver (.array .int)).before args s = true) : ∃ c : ClassId, ArrOfT s c (.array .int) ∧ va_RA s c (.array .int) := by
  obtain ⟨comp, c, k, h1, h2, h3, h4, h5⟩ := arrayOverA_spec h
  exact ⟨c, fun n z => ⟨fun k h => (by cases h), k, h3, comp, h4⟩, h5⟩
theorem known {s : State} {args : Array Value} (hts : ∀ w ∈ tw, w.before args s = true) (h0 : ∀ w ∈ lw_tbl, w.before args s = true) : ∃ (D : va_G) (cA : Nat → ClassId), va_K D vwCl (tysL cA) s := by
  have H : ∀ (k : Nat) (q : vw_C), vwCl[k]? = some q → ∃ (c : ClassId) (i : Nat → Nat), u_Kn s q.1 q.2.1 q.2.2 c i := fun k q hq => match k, q, hq with
    | 0, q, hq => by cases hq; exact u_known hts inw0 (hts _ inq_0)
    | 1, q, hq => by cases hq; exact u_known hts inw1 (hts _ inq_1)
    | 2, q, hq => by cases hq; exact u_known hts inw2 (hts _ inq_2)
    | 3, q, hq => by cases hq; exact u_known hts inw3 (hts _ inq_3)
    | 4, q, hq => by cases hq; exact u_known hts inw4 (hts _ inq_4)
    | 5, q, hq => by cases hq; exact u_known hts inw5 (hts _ inq_5)
    | 6, q, hq => by cases hq; exact u_known hts inw6 (hts _ inq_6)
    | 7, q, hq => by cases hq; exact u_known hts inw7 (hts _ inq_7)
    | 8, q, hq => by cases hq; exact u_known hts inw8 (hts _ inq_8)
    | 9, q, hq => by cases hq; exact u_known hts inw9 (hts _ inq_9)
    | 10, q, hq => by cases hq; exact u_known hts inw10 (hts _ inq_10)
    | 11, q, hq => by cases hq; exact u_known hts inw11 (hts _ inq_11)
    | 12, q, hq => by cases hq; exact u_known hts inw12 (hts _ inq_12)
    | k + 13, q, hq => by simp [vwCl] at hq
  have h : ∀ k : Nat, ∃ (c : ClassId) (i : Nat → Nat), ∀ q : vw_C, vwCl[k]? = some q → u_Kn s q.1 q.2.1 q.2.2 c i := by
    intro k
    cases hq : vwCl[k]? with
    | none => exact ⟨0, fun _ => 0, fun q e => by cases e⟩
    | some q =>
      obtain ⟨c, i, h⟩ := H k q hq
      exact ⟨c, i, fun q' e => by cases e; exact h⟩
  obtain ⟨c0, a0, b0⟩ := arr_p (ty := .int) (fun C e => by cases e) (hts _ ac_int)
  obtain ⟨c1, a1, b1⟩ := arr_p (ty := .float) (fun C e => by cases e) (hts _ ac_float)
  obtain ⟨c2, a2, b2⟩ := arr_p (ty := .boolean) (fun C e => by cases e) (hts _ ac_boolean)
  obtain ⟨c3, a3, b3⟩ := arr_o (h0 _ ov_Text)
  obtain ⟨c4, a4, b4⟩ := arr_o (h0 _ ov_Sheet)
  obtain ⟨c5, a5, b5⟩ := arr_o (h0 _ ov_Tally)
  obtain ⟨c6, a6, b6⟩ := arr_a (h0 _ ov_A)
  refine ⟨((fun k => (h k).choose), fun k => (h k).choose_spec.choose), fun k => [c0, c1, c2, c3, c4, c5, c6].getD k 0, fun k q hq => (h k).choose_spec.choose_spec q hq, fun k q hq => ?_⟩
  match k, hq with
  | 0, hq => cases hq; exact ⟨a0, b0⟩
  | 1, hq => cases hq; exact ⟨a1, b1⟩
  | 2, hq => cases hq; exact ⟨a2, b2⟩
  | 3, hq => cases hq; exact ⟨a3, b3⟩
  | 4, hq => cases hq; exact ⟨a4, b4⟩
  | 5, hq => cases hq; exact ⟨a5, b5⟩
  | 6, hq => cases hq; exact ⟨a6, b6⟩
  | k + 7, hq => simp [tysL] at hq
set_option maxRecDepth 100000 in
set_option maxHeartbeats 4000000 in
/-- THE LAW, from its entry: the two objects are made; then its loop, as its function says -/
theorem whole_start_open (pure : ∀ (L : Nat) (xs : Nat → Int32), L ≤ 3072 → ∃ M' : Mem, f_L_l18 L xs FU 0 M0 = some (1, M')) {p : Program} {e : Env} {s : State} {m : MethodId} {below : List Frame} {meth : Method} {c : Code} (l : Launch) (hflags : l.flags = flags0) {b L : Nat} {xs : Nat → Int32} (hL : L ≤ 3072) (C0 : lw_At p s m meth c b L xs) : W p l e room_1 s m #[Value.ref b] below meth c s.heap [] 0 0 (lw_Z below #[Value.ref b] s) (entryFrame m ([Value.ref b] : List Value).toArray 4) := by
  obtain ⟨hx, hb, hr, hml, hown, hts0, hX, hbl, hlocks, hgv⟩ := id C0
  have hts : ∀ w ∈ tw, w.before #[Value.ref b] s = true := fun w h => hts0 w (List.mem_filter.mp h).1
  obtain ⟨D, cA, hK⟩ := known hts hts0
  have hN : NWs s := fun q hq => va_Nw.of rfl (hts0 _ (nw_in q hq))
  have hO : aos s := ⟨hts0 _ ov_Text, hts0 _ ov_Sheet, hts0 _ ov_Tally, by have h := hts0 _ ov_A; exact h⟩
  have hd0 := Drawn.sameBut.refl s.drawn lw_cs
  obtain ⟨M', hM'⟩ := pure L xs hL
  have hl := lv_entry ([.ref b]) (n := 4) (Nat.le_of_ble_eq_true rfl)
  rw [lg_entry_eq]
  generalize hbase : s.heap.size = base
  have C : CB D cA base (p, l, e, room_1, s, m, #[Value.ref b], below, meth, c, lw_Z below #[Value.ref b] s) cL_law 4 RL 10 600000 7302250 := ⟨hx, hb, hml, hown, hts, hK, hO, hN, Nat.le_of_ble_eq_true rfl, Nat.le_of_ble_eq_true rfl, Nat.le_of_ble_eq_true rfl, Nat.le_of_ble_eq_true rfl⟩
  suffices K : VB D base (p, l, e, room_1, s, m, #[Value.ref b], below, meth, c, lw_Z below #[Value.ref b] s) 4 [] 0 0 0 [(0, .ref b)] [] from K s.heap [] _ ⟨by rw [hbase]; rfl, fun i e h => by simp at h⟩ (va_S.rf) hl
  refine b_new C (ci := 11) (T := TX11) (N := 9) (fs := [.null, .null, .null, .null, .null, .null, .int 0, .int 0, .int 0]) inw11 tyX11 tyX11_ok clL_7 inq_11 inl_11 rfl dfq_11 (Nat.le_of_ble_eq_true rfl) (Nat.le_of_ble_eq_true rfl) dL_law_0 [.inr (11, [.null, .null, .null, .null, .null, .null, .int 0, .int 0, .int 0])] rfl (a := base + 0) rfl ?_
  refine b_dup C dL_law_3 rfl ?_
  refine b_callI C [.ref (base + 0)] (n := 0) (w2 := wU cA base) rfl (k_U (pre := []) (n := 0) rfl) ccq_X11_init inl_11 cimq_X11_init rfl (by decide) ⟨by decide +kernel, by decide +kernel, by decide +kernel⟩ llL_9 (by decide) (Nat.le_of_ble_eq_true rfl) (Nat.le_of_ble_eq_true rfl) rfl rfl (Nat.le_of_ble_eq_true rfl) dL_law_4 rfl ?_
  refine b_astore C [(1, .ref (base + 0)), (0, .ref b)] dL_law_7 (by decide) rfl ?_
  refine b_new C (ci := 12) (T := TX12) (N := 44) (fs := [.null, .null, .null, .null, .null, .null, .int 0, .null, .null, .int 0, .int 0, .int 0, .null, .null, .null, .null, .null, .int 0, .null, .null, .null, .int 0, .null, .null, .null, .null, .null, .null, .int 0, .int 0, .int 0, .int 0, .null, .null, .null, .int 0, .null, .null, .null, .null, .null, .null, .null, .int 0]) inw12 tyX12 tyX12_ok clL_10 inq_12 inl_12 rfl dfq_12 (Nat.le_of_ble_eq_true rfl) (Nat.le_of_ble_eq_true rfl) dL_law_8 (wU cA base ++ [.inr (12, [.null, .null, .null, .null, .null, .null, .int 0, .null, .null, .int 0, .int 0, .int 0, .null, .null, .null, .null, .null, .int 0, .null, .null, .null, .int 0, .null, .null, .null, .null, .null, .null, .int 0, .int 0, .int 0, .int 0, .null, .null, .null, .int 0, .null, .null, .null, .null, .null, .null, .null, .int 0])]) rfl (a := base + 91) rfl ?_
  refine b_dup C dL_law_11 rfl ?_
  refine b_callI C [.ref (base + 91)] (n := 0) (w2 := wU cA base ++ wM cA base) rfl (k_Mo (pre := wU cA base) (n := 91) rfl) ccq_X12_init inl_12 cimq_X12_init rfl (by decide) ⟨by decide +kernel, by decide +kernel, by decide +kernel⟩ llL_12 (by decide) (Nat.le_of_ble_eq_true rfl) (Nat.le_of_ble_eq_true rfl) rfl rfl (Nat.le_of_ble_eq_true rfl) dL_law_12 rfl ?_
  refine b_astore C [(2, .ref (base + 91)), (1, .ref (base + 0)), (0, .ref b)] dL_law_15 (by decide) rfl ?_
  refine b_iconst C 0 dL_law_16 rfl ?_
  refine b_istore C [(3, .int 0), (2, .ref (base + 91)), (1, .ref (base + 0)), (0, .ref b)] dL_law_17 (by decide) rfl ?_
  refine b_widen (k := 124) (n := 8294) (Nat.le_of_ble_eq_true rfl) (Nat.le_of_ble_eq_true rfl) ?_
  intro H locs ls hP hS hl
  refine va_forget (fun q hq => by have := hS.2.2 q hq; rw [hbase]; exact this) ?_
  have hAA : ∀ q, AA (D, (fun i => base + i), cA) q → base ≤ q := fun q ⟨i, _, h⟩ => by rw [← h]; exact Nat.le_add_right _ _
  have hV := v_L_l18 (S := (D, (fun i => base + i), cA)) (X := (p, l, e, room_1, s, m, #[Value.ref b], below, meth, c, 124, 8294, lw_Z below #[Value.ref b] s)) (q := (1, M')) (b := b) (L := L) (xs := xs) ⟨hx, hb, hml, hown, hts, hK, fun i j _ _ h => Nat.add_left_cancel h, Nat.le_of_ble_eq_true rfl, Nat.le_of_ble_eq_true rfl, Nat.le_of_ble_eq_true rfl, Nat.le_of_ble_eq_true rfl, hN⟩ (fun M pc lv dd H locs ls hP hS hl => va_forget (fun q hq => by have := hAA _ (hS.2.2 q hq); rw [hbase]; exact this) (W.widen (Nat.le_of_ble_eq_true rfl) (Nat.le_of_ble_eq_true rfl) (lw_ret hd0 hx hb hr hlocks dd))) ⟨hX, hbl, fun h => by have := hAA _ h; rw [← hbase] at this; exact absurd hbl (Nat.not_lt.mpr this)⟩ rfl FU 0 M0 hM'
  exact hV H [] ls hP.wd ⟨hS.1, fun q h1 h2 => hS.2.1 q h1 (fun h => by rw [hbase] at h1; exact absurd h (Nat.not_le.mpr h1)), fun q h => by cases h⟩ (lv_sub hl [3, 2, 1, 0] rfl)
