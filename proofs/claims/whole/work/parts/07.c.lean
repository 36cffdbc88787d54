def f_U_tableOf (M : Mem) (a1 : Int32) : Nat :=
  if a1 = 0 then
    4
  else
    7
set_option maxRecDepth 20000 in
theorem v_U_tableOf {S : SE} {X : MX} {q : Nat} {M : Mem} {a1 : Int32} (C : CX S X cX11_tableOf 2 RX11 0) (K : RT S X (some (.object "UnnestPlans$Table")) (some (.ref (S.2.1 q))) M) (h : f_U_tableOf M a1 = q) : V S X 2 M 0 [(0, .ref (S.2.1 0)), (1, .int a1)] [] := by
  unfold f_U_tableOf at h
  refine v_iload_n C 1 dX11_tableOf_0 rfl ?_
  refine v_if_ne C 14 dX11_tableOf_1 (by decide) (fun c1 => ?_) (fun c1 => ?_)
  · replace h := (ite_h h).2 c1
    refine v_aload_n C 0 dX11_tableOf_14 rfl ?_
    refine g_U_question C kk0 fl_X11_24 dX11_tableOf_15 ?_
    refine g_Question_inner C kk3 fl_X11_250 dX11_tableOf_18 ?_
    subst h
    exact v_aret C K dX11_tableOf_21
  · replace h := (ite_h h).1 c1
    refine v_aload_n C 0 dX11_tableOf_4 rfl ?_
    refine g_U_question C kk0 fl_X11_24 dX11_tableOf_5 ?_
    refine g_Question_outer C kk3 fl_X11_246 dX11_tableOf_8 ?_
    refine v_goto C 21 dX11_tableOf_11 (by decide) ?_
    subst h
    exact v_aret C K dX11_tableOf_21
theorem m_U_tableOf {S : SE} (hI : Inj S) (M : Mem) (a1 : Int32) (q : Nat) (h : f_U_tableOf M a1 = q) : CM S yX11_tableOf cX11_tableOf 2 (some (.object "UnnestPlans$Table")) 0 [.ref (S.2.1 0), .int a1] M (some (.ref (S.2.1 q))) M :=
  CM.of [(0, .ref (S.2.1 0)), (1, .int a1)] hI (by decide) rfl (Nat.le_of_ble_eq_true rfl) (fun X C K => v_U_tableOf C K  h)
theorem kdr_U_tableOf (M : Mem) (a1 : Int32) : kd (f_U_tableOf M a1) = 8 := by unfold f_U_tableOf; (repeat' split) <;> decide +kernel
def f_U_understand_b38 (M : Mem) : Option Mem :=
  bnd (mset M 0 8 1) fun M3 =>
  some M3
set_option maxRecDepth 20000 in
theorem v_U_understand_b38 {S : SE} {X : MX} {q : Mem} {M : Mem} (C : CX S X cX11_understand 2 RX11 3) (K : RT S X none none q) (h : f_U_understand_b38 M = some q) : V S X 2 M 38 [(0, .ref (S.2.1 0))] [] := by
  unfold f_U_understand_b38 at h
  refine v_aload_n C 0 dX11_understand_38 rfl ?_
  refine v_iconst C 1 dX11_understand_39 rfl ?_
  refine p_U_stale C kk0 (Or.inr rfl) fl_X11_35 dX11_understand_40 ?_
  refine v_nmm h (fun M3 h => ?_)
  obtain rfl := Option.some.inj h
  exact v_vret C K dX11_understand_43
def f_U_understand (M : Mem) (a1 : Int32) : Option Mem :=
  if a1 = 2 then
    if gin a1 3 then
      (f_Steps_parse (13 + 2 * a1.toNatClampNeg) M).bind fun q5 =>
      f_U_understand_b38 q5
    else none
  else
    if gin a1 3 then
      (f_Table_parse (f_U_tableOf M a1) (13 + 2 * a1.toNatClampNeg) M).bind fun q2 =>
      f_U_understand_b38 q2
    else none
set_option maxRecDepth 20000 in
theorem v_U_understand {S : SE} {X : MX} {q : Mem} {M : Mem} {a1 : Int32} (C : CX S X cX11_understand 2 RX11 3) (K : RT S X none none q) (h : f_U_understand M a1 = some q) : V S X 2 M 0 [(0, .ref (S.2.1 0)), (1, .int a1)] [] := by
  unfold f_U_understand at h
  refine v_iload_n C 1 dX11_understand_0 rfl ?_
  refine v_iconst C 2 dX11_understand_1 rfl ?_
  refine v_icmp_ne C 24 dX11_understand_2 (by decide) (fun c6 => ?_) (fun c6 => ?_)
  · replace h := (ite_h h).2 c6
    refine v_aload_n C 0 dX11_understand_24 rfl ?_
    refine v_iload_n C 1 dX11_understand_25 rfl ?_
    refine cv11 C [] kk0 (m_U_tableOf C.inj M a1 _ rfl) ci_U_tableOf rfl lk_X11_87 (by decide) rfl rfl (Nat.le_of_ble_eq_true rfl) dX11_understand_26 ?_
    refine v_aload_n C 0 dX11_understand_29 rfl ?_
    refine g_U_texts C kk0 fl_X11_11 dX11_understand_30 ?_
    refine v_iload_n C 1 dX11_understand_33 rfl ?_
    obtain ⟨g1, h⟩ := gd_h h
    refine v_aaldT C g1 dX11_understand_34 ?_
    obtain ⟨q2, hq2, h⟩ := Option.bind_eq_some_iff.mp h
    refine cv8v C [] (kdr_U_tableOf M a1) (m_Table_parse C.inj (f_U_tableOf M a1) (13 + 2 * a1.toNatClampNeg) (kdr_U_tableOf M a1) (kd_T (i := a1) g1) M q2 hq2) ci_Table_parse rfl lk_X11_257 (by decide) rfl rfl (Nat.le_of_ble_eq_true rfl) dX11_understand_35 ?_
    refine v_sub [0] rfl ?_
    exact v_U_understand_b38 C K h
  · replace h := (ite_h h).1 c6
    refine v_aload_n C 0 dX11_understand_5 rfl ?_
    refine g_U_question C kk0 fl_X11_24 dX11_understand_6 ?_
    refine g_Question_steps C kk3 fl_X11_78 dX11_understand_9 ?_
    refine v_aload_n C 0 dX11_understand_12 rfl ?_
    refine g_U_texts C kk0 fl_X11_11 dX11_understand_13 ?_
    refine v_iload_n C 1 dX11_understand_16 rfl ?_
    obtain ⟨g4, h⟩ := gd_h h
    refine v_aaldT C g4 dX11_understand_17 ?_
    obtain ⟨q5, hq5, h⟩ := Option.bind_eq_some_iff.mp h
    refine cv7v C [] kk10 (m_Steps_parse C.inj (13 + 2 * a1.toNatClampNeg) (kd_T (i := a1) g4) M q5 hq5) ci_Steps_parse rfl lk_X11_253 (by decide) rfl rfl (Nat.le_of_ble_eq_true rfl) dX11_understand_18 ?_
    refine v_goto C 38 dX11_understand_21 (by decide) ?_
    refine v_sub [0] rfl ?_
    exact v_U_understand_b38 C K h
theorem m_U_understand {S : SE} (hI : Inj S) (M : Mem) (a1 : Int32) (q : Mem) (h : f_U_understand M a1 = some q) : CM S yX11_understand cX11_understand 2 none 3 [.ref (S.2.1 0), .int a1] M none q :=
  CM.of [(0, .ref (S.2.1 0)), (1, .int a1)] hI (by decide) rfl (Nat.le_of_ble_eq_true rfl) (fun X C K => v_U_understand C K  h)
def f_U_type_b15 (M : Mem) : Option (Int32 × Mem) :=
  some ((-2), M)
set_option maxRecDepth 20000 in
theorem v_U_type_b15 {S : SE} {X : MX} {q : (Int32 × Mem)} {M : Mem} (C : CX S X cX11_type 3 RX11 4) (K : RT S X (some .int) (some (.int q.1)) q.2) (h : f_U_type_b15 M = some q) : V S X 3 M 15 [] [] := by
  unfold f_U_type_b15 at h
  refine v_bipush C (-2) dX11_type_15 rfl ?_
  obtain rfl := Option.some.inj h
  exact v_iret C K dX11_type_17
def f_U_type (M : Mem) (a1 : Int32) (a2 : Int32) : Option (Int32 × Mem) :=
  if (f_U_within a1 3) = 0 then
    f_U_type_b15 M
  else
    if (f_U_isByte a2) = 0 then
      f_U_type_b15 M
    else
      if gin a1 3 then
        (f_Text_append (13 + 2 * a1.toNatClampNeg) M a2).bind fun q2 =>
        if q2.1 = 0 then
          some ((-4), q2.2)
        else
          (f_U_understand q2.2 a1).bind fun q3 =>
          if gin a1 3 then
            some ((q3 (13 + 2 * a1.toNatClampNeg) 1), q3)
          else none
      else none
set_option maxRecDepth 20000 in
theorem v_U_type {S : SE} {X : MX} {q : (Int32 × Mem)} {M : Mem} {a1 : Int32} {a2 : Int32} (C : CX S X cX11_type 3 RX11 4) (K : RT S X (some .int) (some (.int q.1)) q.2) (h : f_U_type M a1 a2 = some q) : V S X 3 M 0 [(0, .ref (S.2.1 0)), (1, .int a1), (2, .int a2)] [] := by
  unfold f_U_type at h
  refine v_iload_n C 1 dX11_type_0 rfl ?_
  refine v_iconst C 3 dX11_type_1 rfl ?_
  refine cs C [] (m_U_within C.inj M a1 3 _ rfl) ci_U_within lk_X11_61 (by decide) rfl rfl (Nat.le_of_ble_eq_true rfl) dX11_type_2 ?_
  refine v_if_eq C 15 dX11_type_5 (by decide) (fun c7 => ?_) (fun c7 => ?_)
  · replace h := (ite_h h).1 c7
    refine v_sub [] rfl ?_
    exact v_U_type_b15 C K h
  · replace h := (ite_h h).2 c7
    refine v_iload_n C 2 dX11_type_8 rfl ?_
    refine cs C [] (m_U_isByte C.inj M a2 _ rfl) ci_U_isByte lk_X11_65 (by decide) rfl rfl (Nat.le_of_ble_eq_true rfl) dX11_type_9 ?_
    refine v_if_ne C 18 dX11_type_12 (by decide) (fun c6 => ?_) (fun c6 => ?_)
    · replace h := (ite_h h).2 c6
      refine v_aload_n C 0 dX11_type_18 rfl ?_
      refine g_U_texts C kk0 fl_X11_11 dX11_type_19 ?_
      refine v_iload_n C 1 dX11_type_22 rfl ?_
      obtain ⟨g1, h⟩ := gd_h h
      refine v_aaldT C g1 dX11_type_23 ?_
      refine v_iload_n C 2 dX11_type_24 rfl ?_
      obtain ⟨q2, hq2, h⟩ := Option.bind_eq_some_iff.mp h
      refine cv10 C [] (kd_T (i := a1) g1) (m_Text_append C.inj (13 + 2 * a1.toNatClampNeg) (kd_T (i := a1) g1) M a2 q2 hq2) ci_Text_append rfl lk_X11_69 (by decide) rfl rfl (Nat.le_of_ble_eq_true rfl) dX11_type_25 ?_
      refine v_if_ne C 34 dX11_type_28 (by decide) (fun c5 => ?_) (fun c5 => ?_)
      · replace h := (ite_h h).2 c5
        refine v_aload_n C 0 dX11_type_34 rfl ?_
        refine v_iload_n C 1 dX11_type_35 rfl ?_
        obtain ⟨q3, hq3, h⟩ := Option.bind_eq_some_iff.mp h
        refine cv11v C [] kk0 (m_U_understand C.inj q2.2 a1 q3 hq3) ci_U_understand rfl lk_X11_72 (by decide) rfl rfl (Nat.le_of_ble_eq_true rfl) dX11_type_36 ?_
        refine v_aload_n C 0 dX11_type_39 rfl ?_
        refine g_U_texts C kk0 fl_X11_11 dX11_type_40 ?_
        refine v_iload_n C 1 dX11_type_43 rfl ?_
        obtain ⟨g4, h⟩ := gd_h h
        refine v_aaldT C g4 dX11_type_44 ?_
        refine g_Text_size C (kd_T (i := a1) g4) fl_X11_75 dX11_type_45 ?_
        obtain rfl := Option.some.inj h
        exact v_iret C K dX11_type_48
      · replace h := (ite_h h).1 c5
        refine v_bipush C (-4) dX11_type_31 rfl ?_
        obtain rfl := Option.some.inj h
        exact v_iret C K dX11_type_33
    · replace h := (ite_h h).1 c6
      refine v_sub [] rfl ?_
      exact v_U_type_b15 C K h
theorem m_U_type {S : SE} (hI : Inj S) (M : Mem) (a1 : Int32) (a2 : Int32) (q : (Int32 × Mem)) (h : f_U_type M a1 a2 = some q) : CM S yX11_type cX11_type 3 (some .int) 4 [.ref (S.2.1 0), .int a1, .int a2] M (some (.int q.1)) q.2 :=
  CM.of [(0, .ref (S.2.1 0)), (1, .int a1), (2, .int a2)] hI (by decide) rfl (Nat.le_of_ble_eq_true rfl) (fun X C K => v_U_type C K  h)
def f_U_wipe (M : Mem) (a1 : Int32) : Option (Int32 × Mem) :=
  if (f_U_within a1 3) = 0 then
    some ((-2), M)
  else
    if gin a1 3 then
      bnd (M (13 + 2 * a1.toNatClampNeg) 1) fun x2 =>
      if gin a1 3 then
        bnd (mset M (13 + 2 * a1.toNatClampNeg) 1 0) fun M4 =>
        (f_U_understand M4 a1).bind fun q5 =>
        some (x2, q5)
      else none
    else none
set_option maxRecDepth 20000 in
theorem v_U_wipe {S : SE} {X : MX} {q : (Int32 × Mem)} {M : Mem} {a1 : Int32} (C : CX S X cX11_wipe 3 RX11 4) (K : RT S X (some .int) (some (.int q.1)) q.2) (h : f_U_wipe M a1 = some q) : V S X 3 M 0 [(0, .ref (S.2.1 0)), (1, .int a1)] [] := by
  unfold f_U_wipe at h
  refine v_iload_n C 1 dX11_wipe_0 rfl ?_
  refine v_iconst C 3 dX11_wipe_1 rfl ?_
  refine cs C [] (m_U_within C.inj M a1 3 _ rfl) ci_U_within lk_X11_61 (by decide) rfl rfl (Nat.le_of_ble_eq_true rfl) dX11_wipe_2 ?_
  refine v_if_ne C 11 dX11_wipe_5 (by decide) (fun c6 => ?_) (fun c6 => ?_)
  · replace h := (ite_h h).2 c6
    refine v_aload_n C 0 dX11_wipe_11 rfl ?_
    refine g_U_texts C kk0 fl_X11_11 dX11_wipe_12 ?_
    refine v_iload_n C 1 dX11_wipe_15 rfl ?_
    obtain ⟨g1, h⟩ := gd_h h
    refine v_aaldT C g1 dX11_wipe_16 ?_
    refine g_Text_size C (kd_T (i := a1) g1) fl_X11_75 dX11_wipe_17 ?_
    refine v_nmi h (fun x2 h => ?_)
    refine v_istore_n C [(2, .int x2), (0, .ref (S.2.1 0)), (1, .int a1)] dX11_wipe_20 (by decide) rfl ?_
    refine v_aload_n C 1 dX11_wipe_21 rfl ?_
    refine g_U_texts C kk0 fl_X11_11 dX11_wipe_22 ?_
    refine v_iload_n C 2 dX11_wipe_25 rfl ?_
    obtain ⟨g3, h⟩ := gd_h h
    refine v_aaldT C g3 dX11_wipe_26 ?_
    refine v_iconst C 0 dX11_wipe_27 rfl ?_
    refine p_Text_size C (kd_T (i := a1) g3) fl_X11_75 dX11_wipe_28 ?_
    refine v_nmm h (fun M4 h => ?_)
    refine v_aload_n C 1 dX11_wipe_31 rfl ?_
    refine v_iload_n C 2 dX11_wipe_32 rfl ?_
    obtain ⟨q5, hq5, h⟩ := Option.bind_eq_some_iff.mp h
    refine cv11v C [] kk0 (m_U_understand C.inj M4 a1 q5 hq5) ci_U_understand rfl lk_X11_72 (by decide) rfl rfl (Nat.le_of_ble_eq_true rfl) dX11_wipe_33 ?_
    refine v_iload_n C 0 dX11_wipe_36 rfl ?_
    obtain rfl := Option.some.inj h
    exact v_iret C K dX11_wipe_37
  · replace h := (ite_h h).1 c6
    refine v_bipush C (-2) dX11_wipe_8 rfl ?_
    obtain rfl := Option.some.inj h
    exact v_iret C K dX11_wipe_10
theorem m_U_wipe {S : SE} (hI : Inj S) (M : Mem) (a1 : Int32) (q : (Int32 × Mem)) (h : f_U_wipe M a1 = some q) : CM S yX11_wipe cX11_wipe 3 (some .int) 4 [.ref (S.2.1 0), .int a1] M (some (.int q.1)) q.2 :=
  CM.of [(0, .ref (S.2.1 0)), (1, .int a1)] hI (by decide) rfl (Nat.le_of_ble_eq_true rfl) (fun X C K => v_U_wipe C K  h)
def f_U_undo (M : Mem) (a1 : Int32) : Option (Int32 × Mem) :=
  if (f_U_within a1 3) = 0 then
    some ((-2), M)
  else
    if gin a1 3 then
      if (M (13 + 2 * a1.toNatClampNeg) 1) = 0 then
        some ((-3), M)
      else
        if gin a1 3 then
          bnd (mset M (13 + 2 * a1.toNatClampNeg) 1 ((M (13 + 2 * a1.toNatClampNeg) 1) - 1)) fun M3 =>
          (f_U_understand M3 a1).bind fun q4 =>
          if gin a1 3 then
            some ((q4 (13 + 2 * a1.toNatClampNeg) 1), q4)
          else none
        else none
    else none
set_option maxRecDepth 20000 in
theorem v_U_undo {S : SE} {X : MX} {q : (Int32 × Mem)} {M : Mem} {a1 : Int32} (C : CX S X cX11_undo 2 RX11 4) (K : RT S X (some .int) (some (.int q.1)) q.2) (h : f_U_undo M a1 = some q) : V S X 2 M 0 [(0, .ref (S.2.1 0)), (1, .int a1)] [] := by
  unfold f_U_undo at h
  refine v_iload_n C 1 dX11_undo_0 rfl ?_
  refine v_iconst C 3 dX11_undo_1 rfl ?_
  refine cs C [] (m_U_within C.inj M a1 3 _ rfl) ci_U_within lk_X11_61 (by decide) rfl rfl (Nat.le_of_ble_eq_true rfl) dX11_undo_2 ?_
  refine v_if_ne C 11 dX11_undo_5 (by decide) (fun c7 => ?_) (fun c7 => ?_)
  · replace h := (ite_h h).2 c7
    refine v_aload_n C 0 dX11_undo_11 rfl ?_
    refine g_U_texts C kk0 fl_X11_11 dX11_undo_12 ?_
    refine v_iload_n C 1 dX11_undo_15 rfl ?_
    obtain ⟨g1, h⟩ := gd_h h
    refine v_aaldT C g1 dX11_undo_16 ?_
    refine g_Text_size C (kd_T (i := a1) g1) fl_X11_75 dX11_undo_17 ?_
    refine v_if_ne C 26 dX11_undo_20 (by decide) (fun c6 => ?_) (fun c6 => ?_)
    · replace h := (ite_h h).2 c6
      refine v_aload_n C 0 dX11_undo_26 rfl ?_
      refine g_U_texts C kk0 fl_X11_11 dX11_undo_27 ?_
      refine v_iload_n C 1 dX11_undo_30 rfl ?_
      obtain ⟨g2, h⟩ := gd_h h
      refine v_aaldT C g2 dX11_undo_31 ?_
      refine v_dup C dX11_undo_32 rfl ?_
      refine g_Text_size C (kd_T (i := a1) g2) fl_X11_75 dX11_undo_33 ?_
      refine v_iconst C 1 dX11_undo_36 rfl ?_
      refine v_isub C dX11_undo_37 ?_
      refine p_Text_size C (kd_T (i := a1) g2) fl_X11_75 dX11_undo_38 ?_
      refine v_nmm h (fun M3 h => ?_)
      refine v_aload_n C 0 dX11_undo_41 rfl ?_
      refine v_iload_n C 1 dX11_undo_42 rfl ?_
      obtain ⟨q4, hq4, h⟩ := Option.bind_eq_some_iff.mp h
      refine cv11v C [] kk0 (m_U_understand C.inj M3 a1 q4 hq4) ci_U_understand rfl lk_X11_72 (by decide) rfl rfl (Nat.le_of_ble_eq_true rfl) dX11_undo_43 ?_
      refine v_aload_n C 0 dX11_undo_46 rfl ?_
      refine g_U_texts C kk0 fl_X11_11 dX11_undo_47 ?_
      refine v_iload_n C 1 dX11_undo_50 rfl ?_
      obtain ⟨g5, h⟩ := gd_h h
      refine v_aaldT C g5 dX11_undo_51 ?_
      refine g_Text_size C (kd_T (i := a1) g5) fl_X11_75 dX11_undo_52 ?_
      obtain rfl := Option.some.inj h
      exact v_iret C K dX11_undo_55
    · replace h := (ite_h h).1 c6
      refine v_bipush C (-3) dX11_undo_23 rfl ?_
      obtain rfl := Option.some.inj h
      exact v_iret C K dX11_undo_25
  · replace h := (ite_h h).1 c7
    refine v_bipush C (-2) dX11_undo_8 rfl ?_
    obtain rfl := Option.some.inj h
    exact v_iret C K dX11_undo_10
theorem m_U_undo {S : SE} (hI : Inj S) (M : Mem) (a1 : Int32) (q : (Int32 × Mem)) (h : f_U_undo M a1 = some q) : CM S yX11_undo cX11_undo 2 (some .int) 4 [.ref (S.2.1 0), .int a1] M (some (.int q.1)) q.2 :=
  CM.of [(0, .ref (S.2.1 0)), (1, .int a1)] hI (by decide) rfl (Nat.le_of_ble_eq_true rfl) (fun X C K => v_U_undo C K  h)
def f_U_fault (M : Mem) (a1 : Int32) : Int32 :=
  if (f_U_within a1 3) = 0 then
    (-2)
  else
    if a1 = 2 then
      (M 10 3)
    else
      (M (f_U_tableOf M a1) 3)
set_option maxRecDepth 20000 in
theorem v_U_fault {S : SE} {X : MX} {q : Int32} {M : Mem} {a1 : Int32} (C : CX S X cX11_fault 2 RX11 1) (K : RT S X (some .int) (some (.int q)) M) (h : f_U_fault M a1 = q) : V S X 2 M 0 [(0, .ref (S.2.1 0)), (1, .int a1)] [] := by
  unfold f_U_fault at h
  refine v_iload_n C 1 dX11_fault_0 rfl ?_
  refine v_iconst C 3 dX11_fault_1 rfl ?_
  refine cs C [] (m_U_within C.inj M a1 3 _ rfl) ci_U_within lk_X11_61 (by decide) rfl rfl (Nat.le_of_ble_eq_true rfl) dX11_fault_2 ?_
  refine v_if_ne C 11 dX11_fault_5 (by decide) (fun c2 => ?_) (fun c2 => ?_)
  · replace h := (ite_h h).2 c2
    refine v_iload_n C 1 dX11_fault_11 rfl ?_
    refine v_iconst C 2 dX11_fault_12 rfl ?_
    refine v_icmp_ne C 29 dX11_fault_13 (by decide) (fun c1 => ?_) (fun c1 => ?_)
    · replace h := (ite_h h).2 c1
      refine v_aload_n C 0 dX11_fault_29 rfl ?_
      refine v_iload_n C 1 dX11_fault_30 rfl ?_
      refine cv11 C [] kk0 (m_U_tableOf C.inj M a1 _ rfl) ci_U_tableOf rfl lk_X11_87 (by decide) rfl rfl (Nat.le_of_ble_eq_true rfl) dX11_fault_31 ?_
      refine g_Table_fault C (kdr_U_tableOf M a1) fl_X11_91 dX11_fault_34 ?_
      subst h
      exact v_iret C K dX11_fault_37
    · replace h := (ite_h h).1 c1
      refine v_aload_n C 0 dX11_fault_16 rfl ?_
      refine g_U_question C kk0 fl_X11_24 dX11_fault_17 ?_
      refine g_Question_steps C kk3 fl_X11_78 dX11_fault_20 ?_
      refine g_Steps_fault C kk10 fl_X11_82 dX11_fault_23 ?_
      refine v_goto C 37 dX11_fault_26 (by decide) ?_
      subst h
      exact v_iret C K dX11_fault_37
  · replace h := (ite_h h).1 c2
    refine v_bipush C (-2) dX11_fault_8 rfl ?_
    subst h
    exact v_iret C K dX11_fault_10
theorem m_U_fault {S : SE} (hI : Inj S) (M : Mem) (a1 : Int32) (q : Int32) (h : f_U_fault M a1 = q) : CM S yX11_fault cX11_fault 2 (some .int) 1 [.ref (S.2.1 0), .int a1] M (some (.int q)) M :=
  CM.of [(0, .ref (S.2.1 0)), (1, .int a1)] hI (by decide) rfl (Nat.le_of_ble_eq_true rfl) (fun X C K => v_U_fault C K  h)
def f_U_row_b31 (M : Mem) : Option Int32 :=
  some (-2)
set_option maxRecDepth 20000 in
theorem v_U_row_b31 {S : SE} {X : MX} {q : Int32} {M : Mem} (C : CX S X cX11_row 4 RX11 1) (K : RT S X (some .int) (some (.int q)) M) (h : f_U_row_b31 M = some q) : V S X 4 M 31 [] [] := by
  unfold f_U_row_b31 at h
  refine v_bipush C (-2) dX11_row_31 rfl ?_
  obtain rfl := Option.some.inj h
  exact v_iret C K dX11_row_33
def f_U_row (M : Mem) (a1 : Int32) (a2 : Int32) (a3 : Int32) : Option Int32 :=
  if (f_U_within a1 2) = 0 then
    f_U_row_b31 M
  else
    if (f_U_within a3 2) = 0 then
      f_U_row_b31 M
    else
      if (f_U_within a2 (M (f_U_tableOf M a1) 2)) = 0 then
        f_U_row_b31 M
      else
        if a3 = 0 then
          if gin a2 10 then
            some (M ((f_U_tableOf M a1) + 1) a2.toNatClampNeg)
          else none
        else
          if gin a2 10 then
            some (M ((f_U_tableOf M a1) + 2) a2.toNatClampNeg)
          else none
set_option maxRecDepth 20000 in
theorem v_U_row {S : SE} {X : MX} {q : Int32} {M : Mem} {a1 : Int32} {a2 : Int32} {a3 : Int32} (C : CX S X cX11_row 4 RX11 1) (K : RT S X (some .int) (some (.int q)) M) (h : f_U_row M a1 a2 a3 = some q) : V S X 4 M 0 [(0, .ref (S.2.1 0)), (1, .int a1), (2, .int a2), (3, .int a3)] [] := by
  unfold f_U_row at h
  refine v_iload_n C 1 dX11_row_0 rfl ?_
  refine v_iconst C 2 dX11_row_1 rfl ?_
  refine cs C [] (m_U_within C.inj M a1 2 _ rfl) ci_U_within lk_X11_61 (by decide) rfl rfl (Nat.le_of_ble_eq_true rfl) dX11_row_2 ?_
  refine v_if_eq C 31 dX11_row_5 (by decide) (fun c6 => ?_) (fun c6 => ?_)
  · replace h := (ite_h h).1 c6
    refine v_sub [] rfl ?_
    exact v_U_row_b31 C K h
  · replace h := (ite_h h).2 c6
    refine v_iload_n C 3 dX11_row_8 rfl ?_
    refine v_iconst C 2 dX11_row_9 rfl ?_
    refine cs C [] (m_U_within C.inj M a3 2 _ rfl) ci_U_within lk_X11_61 (by decide) rfl rfl (Nat.le_of_ble_eq_true rfl) dX11_row_10 ?_
    refine v_if_eq C 31 dX11_row_13 (by decide) (fun c5 => ?_) (fun c5 => ?_)
    · replace h := (ite_h h).1 c5
      refine v_sub [] rfl ?_
      exact v_U_row_b31 C K h
    · replace h := (ite_h h).2 c5
      refine v_iload_n C 2 dX11_row_16 rfl ?_
      refine v_aload_n C 0 dX11_row_17 rfl ?_
      refine v_iload_n C 1 dX11_row_18 rfl ?_
      refine cv11 C [.int a2] kk0 (m_U_tableOf C.inj M a1 _ rfl) ci_U_tableOf rfl lk_X11_87 (by decide) rfl rfl (Nat.le_of_ble_eq_true rfl) dX11_row_19 ?_
      refine g_Table_size C (kdr_U_tableOf M a1) fl_X11_94 dX11_row_22 ?_
      refine cs C [] (m_U_within C.inj M a2 (M (f_U_tableOf M a1) 2) _ rfl) ci_U_within lk_X11_61 (by decide) rfl rfl (Nat.le_of_ble_eq_true rfl) dX11_row_25 ?_
      refine v_if_ne C 34 dX11_row_28 (by decide) (fun c4 => ?_) (fun c4 => ?_)
      · replace h := (ite_h h).2 c4
        refine v_iload_n C 3 dX11_row_34 rfl ?_
        refine v_if_ne C 51 dX11_row_35 (by decide) (fun c3 => ?_) (fun c3 => ?_)
        · replace h := (ite_h h).2 c3
          refine v_aload_n C 0 dX11_row_51 rfl ?_
          refine v_iload_n C 1 dX11_row_52 rfl ?_
          refine cv11 C [] kk0 (m_U_tableOf C.inj M a1 _ rfl) ci_U_tableOf rfl lk_X11_87 (by decide) rfl rfl (Nat.le_of_ble_eq_true rfl) dX11_row_53 ?_
          refine g_Table_values C (kdr_U_tableOf M a1) fl_X11_99 dX11_row_56 ?_
          refine v_iload_n C 2 dX11_row_59 rfl ?_
          obtain ⟨g1, h⟩ := gd_h h
          refine v_iald C (kd_Table_values (kdr_U_tableOf M a1)) (ln_Table_values (kdr_U_tableOf M a1)) g1 dX11_row_60 ?_
          obtain rfl := Option.some.inj h
          exact v_iret C K dX11_row_61
        · replace h := (ite_h h).1 c3
          refine v_aload_n C 0 dX11_row_38 rfl ?_
          refine v_iload_n C 1 dX11_row_39 rfl ?_
          refine cv11 C [] kk0 (m_U_tableOf C.inj M a1 _ rfl) ci_U_tableOf rfl lk_X11_87 (by decide) rfl rfl (Nat.le_of_ble_eq_true rfl) dX11_row_40 ?_
          refine g_Table_keys C (kdr_U_tableOf M a1) fl_X11_95 dX11_row_43 ?_
          refine v_iload_n C 2 dX11_row_46 rfl ?_
          obtain ⟨g2, h⟩ := gd_h h
          refine v_iald C (kd_Table_keys (kdr_U_tableOf M a1)) (ln_Table_keys (kdr_U_tableOf M a1)) g2 dX11_row_47 ?_
          refine v_goto C 61 dX11_row_48 (by decide) ?_
          obtain rfl := Option.some.inj h
          exact v_iret C K dX11_row_61
      · replace h := (ite_h h).1 c4
        refine v_sub [] rfl ?_
        exact v_U_row_b31 C K h
theorem m_U_row {S : SE} (hI : Inj S) (M : Mem) (a1 : Int32) (a2 : Int32) (a3 : Int32) (q : Int32) (h : f_U_row M a1 a2 a3 = some q) : CM S yX11_row cX11_row 4 (some .int) 1 [.ref (S.2.1 0), .int a1, .int a2, .int a3] M (some (.int q)) M :=
  CM.of [(0, .ref (S.2.1 0)), (1, .int a1), (2, .int a2), (3, .int a3)] hI (by decide) rfl (Nat.le_of_ble_eq_true rfl) (fun X C K => v_U_row C K  h)
def f_U_step_b25 (M : Mem) : Option Int32 :=
  some (-2)
set_option maxRecDepth 20000 in
theorem v_U_step_b25 {S : SE} {X : MX} {q : Int32} {M : Mem} (C : CX S X cX11_step 3 RX11 1) (K : RT S X (some .int) (some (.int q)) M) (h : f_U_step_b25 M = some q) : V S X 3 M 25 [] [] := by
  unfold f_U_step_b25 at h
  refine v_bipush C (-2) dX11_step_25 rfl ?_
  obtain rfl := Option.some.inj h
  exact v_iret C K dX11_step_27
def f_U_step (M : Mem) (a1 : Int32) (a2 : Int32) : Option Int32 :=
  if (f_U_within a2 2) = 0 then
    f_U_step_b25 M
  else
    if (f_U_within a1 (M 10 2)) = 0 then
      f_U_step_b25 M
    else
      if a2 = 0 then
        if gin a1 12 then
          some (M 11 a1.toNatClampNeg)
        else none
      else
        if gin a1 12 then
          some (M 12 a1.toNatClampNeg)
        else none
set_option maxRecDepth 20000 in
theorem v_U_step {S : SE} {X : MX} {q : Int32} {M : Mem} {a1 : Int32} {a2 : Int32} (C : CX S X cX11_step 3 RX11 1) (K : RT S X (some .int) (some (.int q)) M) (h : f_U_step M a1 a2 = some q) : V S X 3 M 0 [(0, .ref (S.2.1 0)), (1, .int a1), (2, .int a2)] [] := by
  unfold f_U_step at h
  refine v_iload_n C 2 dX11_step_0 rfl ?_
  refine v_iconst C 2 dX11_step_1 rfl ?_
  refine cs C [] (m_U_within C.inj M a2 2 _ rfl) ci_U_within lk_X11_61 (by decide) rfl rfl (Nat.le_of_ble_eq_true rfl) dX11_step_2 ?_
  refine v_if_eq C 25 dX11_step_5 (by decide) (fun c5 => ?_) (fun c5 => ?_)
  · replace h := (ite_h h).1 c5
    refine v_sub [] rfl ?_
    exact v_U_step_b25 C K h
  · replace h := (ite_h h).2 c5
    refine v_iload_n C 1 dX11_step_8 rfl ?_
    refine v_aload_n C 0 dX11_step_9 rfl ?_
    refine g_U_question C kk0 fl_X11_24 dX11_step_10 ?_
    refine g_Question_steps C kk3 fl_X11_78 dX11_step_13 ?_
    refine g_Steps_size C kk10 fl_X11_102 dX11_step_16 ?_
    refine cs C [] (m_U_within C.inj M a1 (M 10 2) _ rfl) ci_U_within lk_X11_61 (by decide) rfl rfl (Nat.le_of_ble_eq_true rfl) dX11_step_19 ?_
    refine v_if_ne C 28 dX11_step_22 (by decide) (fun c4 => ?_) (fun c4 => ?_)
    · replace h := (ite_h h).2 c4
      refine v_iload_n C 2 dX11_step_28 rfl ?_
      refine v_if_ne C 47 dX11_step_29 (by decide) (fun c3 => ?_) (fun c3 => ?_)
      · replace h := (ite_h h).2 c3
        refine v_aload_n C 0 dX11_step_47 rfl ?_
        refine g_U_question C kk0 fl_X11_24 dX11_step_48 ?_
        refine g_Question_steps C kk3 fl_X11_78 dX11_step_51 ?_
        refine g_Steps_figures C kk10 fl_X11_106 dX11_step_54 ?_
        refine v_iload_n C 1 dX11_step_57 rfl ?_
        obtain ⟨g1, h⟩ := gd_h h
        refine v_iald C kk12 ll12 g1 dX11_step_58 ?_
        obtain rfl := Option.some.inj h
        exact v_iret C K dX11_step_59
      · replace h := (ite_h h).1 c3
        refine v_aload_n C 0 dX11_step_32 rfl ?_
        refine g_U_question C kk0 fl_X11_24 dX11_step_33 ?_
        refine g_Question_steps C kk3 fl_X11_78 dX11_step_36 ?_
        refine g_Steps_codes C kk10 fl_X11_103 dX11_step_39 ?_
        refine v_iload_n C 1 dX11_step_42 rfl ?_
        obtain ⟨g2, h⟩ := gd_h h
        refine v_iald C kk11 ll11 g2 dX11_step_43 ?_
        refine v_goto C 59 dX11_step_44 (by decide) ?_
        obtain rfl := Option.some.inj h
        exact v_iret C K dX11_step_59
    · replace h := (ite_h h).1 c4
      refine v_sub [] rfl ?_
      exact v_U_step_b25 C K h
theorem m_U_step {S : SE} (hI : Inj S) (M : Mem) (a1 : Int32) (a2 : Int32) (q : Int32) (h : f_U_step M a1 a2 = some q) : CM S yX11_step cX11_step 3 (some .int) 1 [.ref (S.2.1 0), .int a1, .int a2] M (some (.int q)) M :=
  CM.of [(0, .ref (S.2.1 0)), (1, .int a1), (2, .int a2)] hI (by decide) rfl (Nat.le_of_ble_eq_true rfl) (fun X C K => v_U_step C K  h)
def f_U_end (M : Mem) (a1 : Int32) : (Int32 × Mem) :=
  if (f_U_within a1 9) = 0 then
    ((-2), M)
  else
    bnd (M 0 6) fun x1 =>
    bnd (mset M 0 6 a1) fun M2 =>
    bnd (mset M2 0 8 1) fun M3 =>
    (x1, M3)
set_option maxRecDepth 20000 in
theorem v_U_end {S : SE} {X : MX} {q : (Int32 × Mem)} {M : Mem} {a1 : Int32} (C : CX S X cX11_end 3 RX11 1) (K : RT S X (some .int) (some (.int q.1)) q.2) (h : f_U_end M a1 = q) : V S X 3 M 0 [(0, .ref (S.2.1 0)), (1, .int a1)] [] := by
  unfold f_U_end at h
  refine v_iload_n C 1 dX11_end_0 rfl ?_
  refine v_bipush C 9 dX11_end_1 rfl ?_
  refine cs C [] (m_U_within C.inj M a1 9 _ rfl) ci_U_within lk_X11_61 (by decide) rfl rfl (Nat.le_of_ble_eq_true rfl) dX11_end_3 ?_
  refine v_if_ne C 12 dX11_end_6 (by decide) (fun c4 => ?_) (fun c4 => ?_)
  · replace h := (ite_h h).2 c4
    refine v_aload_n C 0 dX11_end_12 rfl ?_
    refine g_U_end C kk0 fl_X11_28 dX11_end_13 ?_
    refine v_nmi h (fun x1 h => ?_)
    refine v_istore_n C [(2, .int x1), (0, .ref (S.2.1 0)), (1, .int a1)] dX11_end_16 (by decide) rfl ?_
    refine v_aload_n C 1 dX11_end_17 rfl ?_
    refine v_iload_n C 2 dX11_end_18 rfl ?_
    refine p_U_end C kk0 fl_X11_28 dX11_end_19 ?_
    refine v_nmm h (fun M2 h => ?_)
    refine v_aload_n C 1 dX11_end_22 rfl ?_
    refine v_iconst C 1 dX11_end_23 rfl ?_
    refine p_U_stale C kk0 (Or.inr rfl) fl_X11_35 dX11_end_24 ?_
    refine v_nmm h (fun M3 h => ?_)
    refine v_iload_n C 0 dX11_end_27 rfl ?_
    subst h
    exact v_iret C K dX11_end_28
  · replace h := (ite_h h).1 c4
    refine v_bipush C (-2) dX11_end_9 rfl ?_
    subst h
    exact v_iret C K dX11_end_11
theorem m_U_end {S : SE} (hI : Inj S) (M : Mem) (a1 : Int32) (q : (Int32 × Mem)) (h : f_U_end M a1 = q) : CM S yX11_end cX11_end 3 (some .int) 1 [.ref (S.2.1 0), .int a1] M (some (.int q.1)) q.2 :=
  CM.of [(0, .ref (S.2.1 0)), (1, .int a1)] hI (by decide) rfl (Nat.le_of_ble_eq_true rfl) (fun X C K => v_U_end C K  h)
def f_U_refresh (M : Mem) : Option Mem :=
  if (M 0 8) = 0 then
    some M
  else
    (f_Run_askRowByRow 55 M (M 0 6) (-1)).bind fun q1 =>
    (f_Run_askFree 67 q1 (q1 0 6)).bind fun q2 =>
    bnd (mset q2 0 8 0) fun M3 =>
    some M3
set_option maxRecDepth 20000 in
theorem v_U_refresh {S : SE} {X : MX} {q : Mem} {M : Mem} (C : CX S X cX11_refresh 1 RX11 6) (K : RT S X none none q) (h : f_U_refresh M = some q) : V S X 1 M 0 [(0, .ref (S.2.1 0))] [] := by
  unfold f_U_refresh at h
  refine v_aload_n C 0 dX11_refresh_0 rfl ?_
  refine g_U_stale C kk0 fl_X11_35 dX11_refresh_1 ?_
  refine v_if_eq C 43 dX11_refresh_4 (by decide) (fun c4 => ?_) (fun c4 => ?_)
  · replace h := (ite_h h).1 c4
    obtain rfl := Option.some.inj h
    exact v_vret C K dX11_refresh_43
  · replace h := (ite_h h).2 c4
    refine v_aload_n C 0 dX11_refresh_7 rfl ?_
    refine g_U_byRow C kk0 fl_X11_51 dX11_refresh_8 ?_
    refine v_aload_n C 0 dX11_refresh_11 rfl ?_
    refine g_U_question C kk0 fl_X11_24 dX11_refresh_12 ?_
    refine v_aload_n C 0 dX11_refresh_15 rfl ?_
    refine g_U_end C kk0 fl_X11_28 dX11_refresh_16 ?_
    refine v_iconst C (-1) dX11_refresh_19 rfl ?_
    obtain ⟨q1, hq1, h⟩ := Option.bind_eq_some_iff.mp h
    refine cv5v C [] kk55 (m_Run_askRowByRow C.inj 55 kk55 M (M 0 6) (-1) q1 hq1) ci_Run_askRowByRow rfl lk_X11_258 (by decide) rfl rfl (Nat.le_of_ble_eq_true rfl) dX11_refresh_20 ?_
    refine v_aload_n C 0 dX11_refresh_23 rfl ?_
    refine g_U_byFree C kk0 fl_X11_55 dX11_refresh_24 ?_
    refine v_aload_n C 0 dX11_refresh_27 rfl ?_
    refine g_U_question C kk0 fl_X11_24 dX11_refresh_28 ?_
    refine v_aload_n C 0 dX11_refresh_31 rfl ?_
    refine g_U_end C kk0 fl_X11_28 dX11_refresh_32 ?_
    obtain ⟨q2, hq2, h⟩ := Option.bind_eq_some_iff.mp h
    refine cv5v C [] kk67 (m_Run_askFree C.inj 67 kk67 q1 (q1 0 6) q2 hq2) ci_Run_askFree rfl lk_X11_262 (by decide) rfl rfl (Nat.le_of_ble_eq_true rfl) dX11_refresh_35 ?_
    refine v_aload_n C 0 dX11_refresh_38 rfl ?_
    refine v_iconst C 0 dX11_refresh_39 rfl ?_
    refine p_U_stale C kk0 (Or.inl rfl) fl_X11_35 dX11_refresh_40 ?_
    refine v_nmm h (fun M3 h => ?_)
    obtain rfl := Option.some.inj h
    exact v_vret C K dX11_refresh_43
theorem m_U_refresh {S : SE} (hI : Inj S) (M : Mem) (q : Mem) (h : f_U_refresh M = some q) : CM S yX11_refresh cX11_refresh 1 none 6 [.ref (S.2.1 0)] M none q :=
  CM.of [(0, .ref (S.2.1 0))] hI (by decide) rfl (Nat.le_of_ble_eq_true rfl) (fun X C K => v_U_refresh C K  h)
def f_U_runOf (M : Mem) (a1 : Int32) : Nat :=
  if a1 = 0 then
    55
  else
    67
set_option maxRecDepth 20000 in
theorem v_U_runOf {S : SE} {X : MX} {q : Nat} {M : Mem} {a1 : Int32} (C : CX S X cX11_runOf 2 RX11 0) (K : RT S X (some (.object "UnnestPlans$Run")) (some (.ref (S.2.1 q))) M) (h : f_U_runOf M a1 = q) : V S X 2 M 0 [(0, .ref (S.2.1 0)), (1, .int a1)] [] := by
  unfold f_U_runOf at h
  refine v_iload_n C 1 dX11_runOf_0 rfl ?_
  refine v_if_ne C 11 dX11_runOf_1 (by decide) (fun c1 => ?_) (fun c1 => ?_)
  · replace h := (ite_h h).2 c1
    refine v_aload_n C 0 dX11_runOf_11 rfl ?_
    refine g_U_byFree C kk0 fl_X11_55 dX11_runOf_12 ?_
    subst h
    exact v_aret C K dX11_runOf_15
  · replace h := (ite_h h).1 c1
    refine v_aload_n C 0 dX11_runOf_4 rfl ?_
    refine g_U_byRow C kk0 fl_X11_51 dX11_runOf_5 ?_
    refine v_goto C 15 dX11_runOf_8 (by decide) ?_
    subst h
    exact v_aret C K dX11_runOf_15
theorem m_U_runOf {S : SE} (hI : Inj S) (M : Mem) (a1 : Int32) (q : Nat) (h : f_U_runOf M a1 = q) : CM S yX11_runOf cX11_runOf 2 (some (.object "UnnestPlans$Run")) 0 [.ref (S.2.1 0), .int a1] M (some (.ref (S.2.1 q))) M :=
  CM.of [(0, .ref (S.2.1 0)), (1, .int a1)] hI (by decide) rfl (Nat.le_of_ble_eq_true rfl) (fun X C K => v_U_runOf C K  h)
theorem kdr_U_runOf (M : Mem) (a1 : Int32) : kd (f_U_runOf M a1) = 5 := by unfold f_U_runOf; (repeat' split) <;> decide +kernel
def f_U_error (M : Mem) (a1 : Int32) : Option (Int32 × Mem) :=
  if (f_U_isPlan a1) = 0 then
    some ((-2), M)
  else
    (f_U_refresh M).bind fun q1 =>
    some ((q1 ((f_U_runOf q1 a1) + 8) 4), q1)
set_option maxRecDepth 20000 in
theorem v_U_error {S : SE} {X : MX} {q : (Int32 × Mem)} {M : Mem} {a1 : Int32} (C : CX S X cX11_error 2 RX11 7) (K : RT S X (some .int) (some (.int q.1)) q.2) (h : f_U_error M a1 = some q) : V S X 2 M 0 [(0, .ref (S.2.1 0)), (1, .int a1)] [] := by
  unfold f_U_error at h
  refine v_iload_n C 1 dX11_error_0 rfl ?_
  refine cs C [] (m_U_isPlan C.inj M a1 _ rfl) ci_U_isPlan lk_X11_109 (by decide) rfl rfl (Nat.le_of_ble_eq_true rfl) dX11_error_1 ?_
  refine v_if_ne C 10 dX11_error_4 (by decide) (fun c2 => ?_) (fun c2 => ?_)
  · replace h := (ite_h h).2 c2
    refine v_aload_n C 0 dX11_error_10 rfl ?_
    obtain ⟨q1, hq1, h⟩ := Option.bind_eq_some_iff.mp h
    refine cv11v C [] kk0 (m_U_refresh C.inj M q1 hq1) ci_U_refresh rfl lk_X11_112 (by decide) rfl rfl (Nat.le_of_ble_eq_true rfl) dX11_error_11 ?_
    refine v_aload_n C 0 dX11_error_14 rfl ?_
    refine v_iload_n C 1 dX11_error_15 rfl ?_
    refine cv11 C [] kk0 (m_U_runOf C.inj q1 a1 _ rfl) ci_U_runOf rfl lk_X11_115 (by decide) rfl rfl (Nat.le_of_ble_eq_true rfl) dX11_error_16 ?_
    refine g_Run_report C (kdr_U_runOf q1 a1) fl_X11_119 dX11_error_19 ?_
    refine g_Report_error C (kd_Run_report (kdr_U_runOf q1 a1)) fl_X11_123 dX11_error_22 ?_
    obtain rfl := Option.some.inj h
    exact v_iret C K dX11_error_25
  · replace h := (ite_h h).1 c2
    refine v_bipush C (-2) dX11_error_7 rfl ?_
    obtain rfl := Option.some.inj h
    exact v_iret C K dX11_error_9
theorem m_U_error {S : SE} (hI : Inj S) (M : Mem) (a1 : Int32) (q : (Int32 × Mem)) (h : f_U_error M a1 = some q) : CM S yX11_error cX11_error 2 (some .int) 7 [.ref (S.2.1 0), .int a1] M (some (.int q.1)) q.2 :=
  CM.of [(0, .ref (S.2.1 0)), (1, .int a1)] hI (by decide) rfl (Nat.le_of_ble_eq_true rfl) (fun X C K => v_U_error C K  h)
def f_U_hosts (M : Mem) : Int32 :=
  (M 4 2)
set_option maxRecDepth 20000 in
theorem v_U_hosts {S : SE} {X : MX} {q : Int32} {M : Mem} (C : CX S X cX11_hosts 1 RX11 0) (K : RT S X (some .int) (some (.int q)) M) (h : f_U_hosts M = q) : V S X 1 M 0 [(0, .ref (S.2.1 0))] [] := by
  unfold f_U_hosts at h
  refine v_aload_n C 0 dX11_hosts_0 rfl ?_
  refine g_U_question C kk0 fl_X11_24 dX11_hosts_1 ?_
  refine g_Question_outer C kk3 fl_X11_246 dX11_hosts_4 ?_
  refine g_Table_size C kk4 fl_X11_94 dX11_hosts_7 ?_
  subst h
  exact v_iret C K dX11_hosts_10
theorem m_U_hosts {S : SE} (hI : Inj S) (M : Mem) (q : Int32) (h : f_U_hosts M = q) : CM S yX11_hosts cX11_hosts 1 (some .int) 0 [.ref (S.2.1 0)] M (some (.int q)) M :=
  CM.of [(0, .ref (S.2.1 0))] hI (by decide) rfl (Nat.le_of_ble_eq_true rfl) (fun X C K => v_U_hosts C K  h)
def f_U_answer_b18 (M : Mem) : Option (Int32 × Mem) :=
  some ((-2), M)
set_option maxRecDepth 20000 in
theorem v_U_answer_b18 {S : SE} {X : MX} {q : (Int32 × Mem)} {M : Mem} (C : CX S X cX11_answer 3 RX11 7) (K : RT S X (some .int) (some (.int q.1)) q.2) (h : f_U_answer_b18 M = some q) : V S X 3 M 18 [] [] := by
  unfold f_U_answer_b18 at h
  refine v_bipush C (-2) dX11_answer_18 rfl ?_
  obtain rfl := Option.some.inj h
  exact v_iret C K dX11_answer_20
def f_U_answer (M : Mem) (a1 : Int32) (a2 : Int32) : Option (Int32 × Mem) :=
  if (f_U_isPlan a1) = 0 then
    f_U_answer_b18 M
  else
    if (f_U_within a2 (f_U_hosts M)) = 0 then
      f_U_answer_b18 M
    else
      (f_U_refresh M).bind fun q1 =>
      (f_Report_answerOf ((f_U_runOf q1 a1) + 8) q1 a2).bind fun q2 =>
      some (q2, q1)
set_option maxRecDepth 20000 in
theorem v_U_answer {S : SE} {X : MX} {q : (Int32 × Mem)} {M : Mem} {a1 : Int32} {a2 : Int32} (C : CX S X cX11_answer 3 RX11 7) (K : RT S X (some .int) (some (.int q.1)) q.2) (h : f_U_answer M a1 a2 = some q) : V S X 3 M 0 [(0, .ref (S.2.1 0)), (1, .int a1), (2, .int a2)] [] := by
  unfold f_U_answer at h
  refine v_iload_n C 1 dX11_answer_0 rfl ?_
  refine cs C [] (m_U_isPlan C.inj M a1 _ rfl) ci_U_isPlan lk_X11_109 (by decide) rfl rfl (Nat.le_of_ble_eq_true rfl) dX11_answer_1 ?_
  refine v_if_eq C 18 dX11_answer_4 (by decide) (fun c4 => ?_) (fun c4 => ?_)
  · replace h := (ite_h h).1 c4
    refine v_sub [] rfl ?_
    exact v_U_answer_b18 C K h
  · replace h := (ite_h h).2 c4
    refine v_iload_n C 2 dX11_answer_7 rfl ?_
    refine v_aload_n C 0 dX11_answer_8 rfl ?_
    refine cv11 C [.int a2] kk0 (m_U_hosts C.inj M _ rfl) ci_U_hosts rfl lk_X11_128 (by decide) rfl rfl (Nat.le_of_ble_eq_true rfl) dX11_answer_9 ?_
    refine cs C [] (m_U_within C.inj M a2 (f_U_hosts M) _ rfl) ci_U_within lk_X11_61 (by decide) rfl rfl (Nat.le_of_ble_eq_true rfl) dX11_answer_12 ?_
    refine v_if_ne C 21 dX11_answer_15 (by decide) (fun c3 => ?_) (fun c3 => ?_)
    · replace h := (ite_h h).2 c3
      refine v_aload_n C 0 dX11_answer_21 rfl ?_
      obtain ⟨q1, hq1, h⟩ := Option.bind_eq_some_iff.mp h
      refine cv11v C [] kk0 (m_U_refresh C.inj M q1 hq1) ci_U_refresh rfl lk_X11_112 (by decide) rfl rfl (Nat.le_of_ble_eq_true rfl) dX11_answer_22 ?_
      refine v_aload_n C 0 dX11_answer_25 rfl ?_
      refine v_iload_n C 1 dX11_answer_26 rfl ?_
      refine cv11 C [] kk0 (m_U_runOf C.inj q1 a1 _ rfl) ci_U_runOf rfl lk_X11_115 (by decide) rfl rfl (Nat.le_of_ble_eq_true rfl) dX11_answer_27 ?_
      refine g_Run_report C (kdr_U_runOf q1 a1) fl_X11_119 dX11_answer_30 ?_
      refine v_iload_n C 2 dX11_answer_33 rfl ?_
      obtain ⟨q2, hq2, h⟩ := Option.bind_eq_some_iff.mp h
      refine cv4 C [] (kd_Run_report (kdr_U_runOf q1 a1)) (m_Report_answerOf C.inj ((f_U_runOf q1 a1) + 8) (kd_Run_report (kdr_U_runOf q1 a1)) q1 a2 q2 hq2) ci_Report_answerOf rfl lk_X11_132 (by decide) rfl rfl (Nat.le_of_ble_eq_true rfl) dX11_answer_34 ?_
      obtain rfl := Option.some.inj h
      exact v_iret C K dX11_answer_37
    · replace h := (ite_h h).1 c3
      refine v_sub [] rfl ?_
      exact v_U_answer_b18 C K h
theorem m_U_answer {S : SE} (hI : Inj S) (M : Mem) (a1 : Int32) (a2 : Int32) (q : (Int32 × Mem)) (h : f_U_answer M a1 a2 = some q) : CM S yX11_answer cX11_answer 3 (some .int) 7 [.ref (S.2.1 0), .int a1, .int a2] M (some (.int q.1)) q.2 :=
  CM.of [(0, .ref (S.2.1 0)), (1, .int a1), (2, .int a2)] hI (by decide) rfl (Nat.le_of_ble_eq_true rfl) (fun X C K => v_U_answer C K  h)
def f_U_sameBit (M : Mem) : Option Int32 :=
  (f_Report_isLike 63 75 M (f_U_hosts M)).bind fun q1 =>
  if q1 = 0 then
    some 0
  else
    some 1
set_option maxRecDepth 20000 in
theorem v_U_sameBit {S : SE} {X : MX} {q : Int32} {M : Mem} (C : CX S X cX11_sameBit 1 RX11 1) (K : RT S X (some .int) (some (.int q)) M) (h : f_U_sameBit M = some q) : V S X 1 M 0 [(0, .ref (S.2.1 0))] [] := by
  unfold f_U_sameBit at h
  refine v_aload_n C 0 dX11_sameBit_0 rfl ?_
  refine g_U_byRow C kk0 fl_X11_51 dX11_sameBit_1 ?_
  refine g_Run_report C kk55 fl_X11_119 dX11_sameBit_4 ?_
  refine v_aload_n C 0 dX11_sameBit_7 rfl ?_
  refine g_U_byFree C kk0 fl_X11_55 dX11_sameBit_8 ?_
  refine g_Run_report C kk67 fl_X11_119 dX11_sameBit_11 ?_
  refine v_aload_n C 0 dX11_sameBit_14 rfl ?_
  refine cv11 C [.ref (S.2.1 75), .ref (S.2.1 63)] kk0 (m_U_hosts C.inj M _ rfl) ci_U_hosts rfl lk_X11_128 (by decide) rfl rfl (Nat.le_of_ble_eq_true rfl) dX11_sameBit_15 ?_
  obtain ⟨q1, hq1, h⟩ := Option.bind_eq_some_iff.mp h
  refine cv4 C [] kk63 (m_Report_isLike C.inj 63 75 kk63 kk75 M (f_U_hosts M) q1 hq1) ci_Report_isLike rfl lk_X11_266 (by decide) rfl rfl (Nat.le_of_ble_eq_true rfl) dX11_sameBit_18 ?_
  refine v_if_eq C 28 dX11_sameBit_21 (by decide) (fun c2 => ?_) (fun c2 => ?_)
  · replace h := (ite_h h).1 c2
    refine v_iconst C 0 dX11_sameBit_28 rfl ?_
    obtain rfl := Option.some.inj h
    exact v_iret C K dX11_sameBit_29
  · replace h := (ite_h h).2 c2
    refine v_iconst C 1 dX11_sameBit_24 rfl ?_
    refine v_goto C 29 dX11_sameBit_25 (by decide) ?_
    obtain rfl := Option.some.inj h
    exact v_iret C K dX11_sameBit_29
theorem m_U_sameBit {S : SE} (hI : Inj S) (M : Mem) (q : Int32) (h : f_U_sameBit M = some q) : CM S yX11_sameBit cX11_sameBit 1 (some .int) 1 [.ref (S.2.1 0)] M (some (.int q)) M :=
  CM.of [(0, .ref (S.2.1 0))] hI (by decide) rfl (Nat.le_of_ble_eq_true rfl) (fun X C K => v_U_sameBit C K  h)
def f_U_same (M : Mem) : Option (Int32 × Mem) :=
  (f_U_refresh M).bind fun q1 =>
  (f_U_sameBit q1).bind fun q2 =>
  some (q2, q1)
set_option maxRecDepth 20000 in
theorem v_U_same {S : SE} {X : MX} {q : (Int32 × Mem)} {M : Mem} (C : CX S X cX11_same 1 RX11 7) (K : RT S X (some .int) (some (.int q.1)) q.2) (h : f_U_same M = some q) : V S X 1 M 0 [(0, .ref (S.2.1 0))] [] := by
  unfold f_U_same at h
  refine v_aload_n C 0 dX11_same_0 rfl ?_
  obtain ⟨q1, hq1, h⟩ := Option.bind_eq_some_iff.mp h
  refine cv11v C [] kk0 (m_U_refresh C.inj M q1 hq1) ci_U_refresh rfl lk_X11_112 (by decide) rfl rfl (Nat.le_of_ble_eq_true rfl) dX11_same_1 ?_
  refine v_aload_n C 0 dX11_same_4 rfl ?_
  obtain ⟨q2, hq2, h⟩ := Option.bind_eq_some_iff.mp h
  refine cv11 C [] kk0 (m_U_sameBit C.inj q1 q2 hq2) ci_U_sameBit rfl lk_X11_136 (by decide) rfl rfl (Nat.le_of_ble_eq_true rfl) dX11_same_5 ?_
  obtain rfl := Option.some.inj h
  exact v_iret C K dX11_same_8
theorem m_U_same {S : SE} (hI : Inj S) (M : Mem) (q : (Int32 × Mem)) (h : f_U_same M = some q) : CM S yX11_same cX11_same 1 (some .int) 7 [.ref (S.2.1 0)] M (some (.int q.1)) q.2 :=
  CM.of [(0, .ref (S.2.1 0))] hI (by decide) rfl (Nat.le_of_ble_eq_true rfl) (fun X C K => v_U_same C K  h)
def f_U_total (M : Mem) : Option (Int32 × Mem) :=
  (f_U_refresh M).bind fun q1 =>
  (f_Report_together 63 q1 (q1 0 6) (f_U_hosts q1)).bind fun q2 =>
  some (q2, q1)
set_option maxRecDepth 20000 in
theorem v_U_total {S : SE} {X : MX} {q : (Int32 × Mem)} {M : Mem} (C : CX S X cX11_total 1 RX11 7) (K : RT S X (some .int) (some (.int q.1)) q.2) (h : f_U_total M = some q) : V S X 1 M 0 [(0, .ref (S.2.1 0))] [] := by
  unfold f_U_total at h
  refine v_aload_n C 0 dX11_total_0 rfl ?_
  obtain ⟨q1, hq1, h⟩ := Option.bind_eq_some_iff.mp h
  refine cv11v C [] kk0 (m_U_refresh C.inj M q1 hq1) ci_U_refresh rfl lk_X11_112 (by decide) rfl rfl (Nat.le_of_ble_eq_true rfl) dX11_total_1 ?_
  refine v_aload_n C 0 dX11_total_4 rfl ?_
  refine g_U_byRow C kk0 fl_X11_51 dX11_total_5 ?_
  refine g_Run_report C kk55 fl_X11_119 dX11_total_8 ?_
  refine v_aload_n C 0 dX11_total_11 rfl ?_
  refine g_U_end C kk0 fl_X11_28 dX11_total_12 ?_
  refine v_aload_n C 0 dX11_total_15 rfl ?_
  refine cv11 C [.int (q1 0 6), .ref (S.2.1 63)] kk0 (m_U_hosts C.inj q1 _ rfl) ci_U_hosts rfl lk_X11_128 (by decide) rfl rfl (Nat.le_of_ble_eq_true rfl) dX11_total_16 ?_
  obtain ⟨q2, hq2, h⟩ := Option.bind_eq_some_iff.mp h
  refine cv4 C [] kk63 (m_Report_together C.inj 63 kk63 q1 (q1 0 6) (f_U_hosts q1) q2 hq2) ci_Report_together rfl lk_X11_139 (by decide) rfl rfl (Nat.le_of_ble_eq_true rfl) dX11_total_19 ?_
  obtain rfl := Option.some.inj h
  exact v_iret C K dX11_total_22
theorem m_U_total {S : SE} (hI : Inj S) (M : Mem) (q : (Int32 × Mem)) (h : f_U_total M = some q) : CM S yX11_total cX11_total 1 (some .int) 7 [.ref (S.2.1 0)] M (some (.int q.1)) q.2 :=
  CM.of [(0, .ref (S.2.1 0))] hI (by decide) rfl (Nat.le_of_ble_eq_true rfl) (fun X C K => v_U_total C K  h)
def f_U_speaks_b27 (s0 : Int32) (s1 : Int32) (M : Mem) : Option Int32 :=
  some (s1 ||| s0)
set_option maxRecDepth 20000 in
theorem v_U_speaks_b27 {S : SE} {X : MX} {q : Int32} {s0 : Int32} {s1 : Int32} {M : Mem} (C : CX S X cX11_speaks 1 RX11 2) (K : RT S X (some .int) (some (.int q)) M) (h : f_U_speaks_b27 s0 s1 M = some q) : V S X 1 M 27 [] [.int s0, .int s1] := by
  unfold f_U_speaks_b27 at h
  refine v_ior C dX11_speaks_27 ?_
  obtain rfl := Option.some.inj h
  exact v_iret C K dX11_speaks_28
def f_U_speaks (M : Mem) : Option Int32 :=
  (f_Steps_speakingBits M).bind fun q1 =>
  if (f_U_endSpeaks (M 0 6)) = 0 then
    f_U_speaks_b27 0 q1 M
  else
    f_U_speaks_b27 4096 q1 M
set_option maxRecDepth 20000 in
theorem v_U_speaks {S : SE} {X : MX} {q : Int32} {M : Mem} (C : CX S X cX11_speaks 1 RX11 2) (K : RT S X (some .int) (some (.int q)) M) (h : f_U_speaks M = some q) : V S X 1 M 0 [(0, .ref (S.2.1 0))] [] := by
  unfold f_U_speaks at h
  refine v_aload_n C 0 dX11_speaks_0 rfl ?_
  refine g_U_question C kk0 fl_X11_24 dX11_speaks_1 ?_
  refine g_Question_steps C kk3 fl_X11_78 dX11_speaks_4 ?_
  obtain ⟨q1, hq1, h⟩ := Option.bind_eq_some_iff.mp h
  refine cv7 C [] kk10 (m_Steps_speakingBits C.inj M q1 hq1) ci_Steps_speakingBits rfl lk_X11_143 (by decide) rfl rfl (Nat.le_of_ble_eq_true rfl) dX11_speaks_7 ?_
  refine v_aload_n C 0 dX11_speaks_10 rfl ?_
  refine g_U_end C kk0 fl_X11_28 dX11_speaks_11 ?_
  refine cs C [.int q1] (m_U_endSpeaks C.inj M (M 0 6) _ rfl) ci_U_endSpeaks lk_X11_146 (by decide) rfl rfl (Nat.le_of_ble_eq_true rfl) dX11_speaks_14 ?_
  refine v_if_eq C 26 dX11_speaks_17 (by decide) (fun c2 => ?_) (fun c2 => ?_)
  · replace h := (ite_h h).1 c2
    refine v_iconst C 0 dX11_speaks_26 rfl ?_
    refine v_sub [] rfl ?_
    exact v_U_speaks_b27 C K h
  · replace h := (ite_h h).2 c2
    refine v_sipush C 4096 dX11_speaks_20 rfl ?_
    refine v_goto C 27 dX11_speaks_23 (by decide) ?_
    refine v_sub [] rfl ?_
    exact v_U_speaks_b27 C K h
theorem m_U_speaks {S : SE} (hI : Inj S) (M : Mem) (q : Int32) (h : f_U_speaks M = some q) : CM S yX11_speaks cX11_speaks 1 (some .int) 2 [.ref (S.2.1 0)] M (some (.int q)) M :=
  CM.of [(0, .ref (S.2.1 0))] hI (by decide) rfl (Nat.le_of_ble_eq_true rfl) (fun X C K => v_U_speaks C K  h)
def f_U_pairPart (M : Mem) (a1 : Int32) (a2 : Int32) : Option Int32 :=
  if (f_U_within a1 (M 71 3)) = 0 then
    some (-3)
  else
    if a2 = 0 then
      if gin a1 10 then
        some (M 72 a1.toNatClampNeg)
      else none
    else
      if gin a1 10 then
        some (M 73 a1.toNatClampNeg)
      else none
set_option maxRecDepth 20000 in
theorem v_U_pairPart {S : SE} {X : MX} {q : Int32} {M : Mem} {a1 : Int32} {a2 : Int32} (C : CX S X cX11_pairPart 3 RX11 1) (K : RT S X (some .int) (some (.int q)) M) (h : f_U_pairPart M a1 a2 = some q) : V S X 3 M 0 [(0, .ref (S.2.1 0)), (1, .int a1), (2, .int a2)] [] := by
  unfold f_U_pairPart at h
  refine v_iload_n C 1 dX11_pairPart_0 rfl ?_
  refine v_aload_n C 0 dX11_pairPart_1 rfl ?_
  refine g_U_byFree C kk0 fl_X11_55 dX11_pairPart_2 ?_
  refine g_Run_pairs C kk67 fl_X11_149 dX11_pairPart_5 ?_
  refine g_Pairs_size C kk71 fl_X11_153 dX11_pairPart_8 ?_
  refine cs C [] (m_U_within C.inj M a1 (M 71 3) _ rfl) ci_U_within lk_X11_61 (by decide) rfl rfl (Nat.le_of_ble_eq_true rfl) dX11_pairPart_11 ?_
  refine v_if_ne C 20 dX11_pairPart_14 (by decide) (fun c4 => ?_) (fun c4 => ?_)
  · replace h := (ite_h h).2 c4
    refine v_iload_n C 2 dX11_pairPart_20 rfl ?_
    refine v_if_ne C 39 dX11_pairPart_21 (by decide) (fun c3 => ?_) (fun c3 => ?_)
    · replace h := (ite_h h).2 c3
      refine v_aload_n C 0 dX11_pairPart_39 rfl ?_
      refine g_U_byFree C kk0 fl_X11_55 dX11_pairPart_40 ?_
      refine g_Run_pairs C kk67 fl_X11_149 dX11_pairPart_43 ?_
      refine g_Pairs_values C kk71 fl_X11_271 dX11_pairPart_46 ?_
      refine v_iload_n C 1 dX11_pairPart_49 rfl ?_
      obtain ⟨g1, h⟩ := gd_h h
      refine v_iald C kk73 ll73 g1 dX11_pairPart_50 ?_
      obtain rfl := Option.some.inj h
      exact v_iret C K dX11_pairPart_51
    · replace h := (ite_h h).1 c3
      refine v_aload_n C 0 dX11_pairPart_24 rfl ?_
      refine g_U_byFree C kk0 fl_X11_55 dX11_pairPart_25 ?_
      refine g_Run_pairs C kk67 fl_X11_149 dX11_pairPart_28 ?_
      refine g_Pairs_keys C kk71 fl_X11_270 dX11_pairPart_31 ?_
      refine v_iload_n C 1 dX11_pairPart_34 rfl ?_
      obtain ⟨g2, h⟩ := gd_h h
      refine v_iald C kk72 ll72 g2 dX11_pairPart_35 ?_
      refine v_goto C 51 dX11_pairPart_36 (by decide) ?_
      obtain rfl := Option.some.inj h
      exact v_iret C K dX11_pairPart_51
  · replace h := (ite_h h).1 c4
    refine v_bipush C (-3) dX11_pairPart_17 rfl ?_
    obtain rfl := Option.some.inj h
    exact v_iret C K dX11_pairPart_19
theorem m_U_pairPart {S : SE} (hI : Inj S) (M : Mem) (a1 : Int32) (a2 : Int32) (q : Int32) (h : f_U_pairPart M a1 a2 = some q) : CM S yX11_pairPart cX11_pairPart 3 (some .int) 1 [.ref (S.2.1 0), .int a1, .int a2] M (some (.int q)) M :=
  CM.of [(0, .ref (S.2.1 0)), (1, .int a1), (2, .int a2)] hI (by decide) rfl (Nat.le_of_ble_eq_true rfl) (fun X C K => v_U_pairPart C K  h)
def f_U_domain_b19 (M : Mem) : Option (Int32 × Mem) :=
  some ((-2), M)
set_option maxRecDepth 20000 in
theorem v_U_domain_b19 {S : SE} {X : MX} {q : (Int32 × Mem)} {M : Mem} (C : CX S X cX11_domain 3 RX11 7) (K : RT S X (some .int) (some (.int q.1)) q.2) (h : f_U_domain_b19 M = some q) : V S X 3 M 19 [] [] := by
  unfold f_U_domain_b19 at h
  refine v_bipush C (-2) dX11_domain_19 rfl ?_
  obtain rfl := Option.some.inj h
  exact v_iret C K dX11_domain_21
def f_U_domain (M : Mem) (a1 : Int32) (a2 : Int32) : Option (Int32 × Mem) :=
  if a1 < (-1) then
    f_U_domain_b19 M
  else
    if 10 ≤ a1 then
      f_U_domain_b19 M
    else
      if (f_U_within a2 2) = 0 then
        f_U_domain_b19 M
      else
        (f_U_refresh M).bind fun q1 =>
        if a1 = (-1) then
          some ((q1 71 3), q1)
        else
          (f_U_pairPart q1 a1 a2).bind fun q2 =>
          some (q2, q1)
set_option maxRecDepth 20000 in
theorem v_U_domain {S : SE} {X : MX} {q : (Int32 × Mem)} {M : Mem} {a1 : Int32} {a2 : Int32} (C : CX S X cX11_domain 3 RX11 7) (K : RT S X (some .int) (some (.int q.1)) q.2) (h : f_U_domain M a1 a2 = some q) : V S X 3 M 0 [(0, .ref (S.2.1 0)), (1, .int a1), (2, .int a2)] [] := by
  unfold f_U_domain at h
  refine v_iload_n C 1 dX11_domain_0 rfl ?_
  refine v_iconst C (-1) dX11_domain_1 rfl ?_
  refine v_icmp_lt C 19 dX11_domain_2 (by decide) (fun c6 => ?_) (fun c6 => ?_)
  · replace h := (ite_h h).1 c6
    refine v_sub [] rfl ?_
    exact v_U_domain_b19 C K h
  · replace h := (ite_h h).2 c6
    refine v_iload_n C 1 dX11_domain_5 rfl ?_
    refine v_bipush C 10 dX11_domain_6 rfl ?_
    refine v_icmp_ge C 19 dX11_domain_8 (by decide) (fun c5 => ?_) (fun c5 => ?_)
    · replace h := (ite_h h).1 c5
      refine v_sub [] rfl ?_
      exact v_U_domain_b19 C K h
    · replace h := (ite_h h).2 c5
      refine v_iload_n C 2 dX11_domain_11 rfl ?_
      refine v_iconst C 2 dX11_domain_12 rfl ?_
      refine cs C [] (m_U_within C.inj M a2 2 _ rfl) ci_U_within lk_X11_61 (by decide) rfl rfl (Nat.le_of_ble_eq_true rfl) dX11_domain_13 ?_
      refine v_if_ne C 22 dX11_domain_16 (by decide) (fun c4 => ?_) (fun c4 => ?_)
      · replace h := (ite_h h).2 c4
        refine v_aload_n C 0 dX11_domain_22 rfl ?_
        obtain ⟨q1, hq1, h⟩ := Option.bind_eq_some_iff.mp h
        refine cv11v C [] kk0 (m_U_refresh C.inj M q1 hq1) ci_U_refresh rfl lk_X11_112 (by decide) rfl rfl (Nat.le_of_ble_eq_true rfl) dX11_domain_23 ?_
        refine v_iload_n C 1 dX11_domain_26 rfl ?_
        refine v_iconst C (-1) dX11_domain_27 rfl ?_
        refine v_icmp_ne C 44 dX11_domain_28 (by decide) (fun c3 => ?_) (fun c3 => ?_)
        · replace h := (ite_h h).2 c3
          refine v_aload_n C 0 dX11_domain_44 rfl ?_
          refine v_iload_n C 1 dX11_domain_45 rfl ?_
          refine v_iload_n C 2 dX11_domain_46 rfl ?_
          obtain ⟨q2, hq2, h⟩ := Option.bind_eq_some_iff.mp h
          refine cv11 C [] kk0 (m_U_pairPart C.inj q1 a1 a2 q2 hq2) ci_U_pairPart rfl lk_X11_156 (by decide) rfl rfl (Nat.le_of_ble_eq_true rfl) dX11_domain_47 ?_
          obtain rfl := Option.some.inj h
          exact v_iret C K dX11_domain_50
        · replace h := (ite_h h).1 c3
          refine v_aload_n C 0 dX11_domain_31 rfl ?_
          refine g_U_byFree C kk0 fl_X11_55 dX11_domain_32 ?_
          refine g_Run_pairs C kk67 fl_X11_149 dX11_domain_35 ?_
          refine g_Pairs_size C kk71 fl_X11_153 dX11_domain_38 ?_
          refine v_goto C 50 dX11_domain_41 (by decide) ?_
          obtain rfl := Option.some.inj h
          exact v_iret C K dX11_domain_50
      · replace h := (ite_h h).1 c4
        refine v_sub [] rfl ?_
        exact v_U_domain_b19 C K h
theorem m_U_domain {S : SE} (hI : Inj S) (M : Mem) (a1 : Int32) (a2 : Int32) (q : (Int32 × Mem)) (h : f_U_domain M a1 a2 = some q) : CM S yX11_domain cX11_domain 3 (some .int) 7 [.ref (S.2.1 0), .int a1, .int a2] M (some (.int q.1)) q.2 :=
  CM.of [(0, .ref (S.2.1 0)), (1, .int a1), (2, .int a2)] hI (by decide) rfl (Nat.le_of_ble_eq_true rfl) (fun X C K => v_U_domain C K  h)
def f_U_plan (M : Mem) (a1 : Int32) : Option (Int32 × Mem) :=
  if (f_U_within a1 20) = 0 then
    some ((-2), M)
  else
    (f_U_refresh M).bind fun q1 =>
    (f_Course_codeAt 68 q1 a1).bind fun q2 =>
    some (q2, q1)
set_option maxRecDepth 20000 in
theorem v_U_plan {S : SE} {X : MX} {q : (Int32 × Mem)} {M : Mem} {a1 : Int32} (C : CX S X cX11_plan 2 RX11 7) (K : RT S X (some .int) (some (.int q.1)) q.2) (h : f_U_plan M a1 = some q) : V S X 2 M 0 [(0, .ref (S.2.1 0)), (1, .int a1)] [] := by
  unfold f_U_plan at h
  refine v_iload_n C 1 dX11_plan_0 rfl ?_
  refine v_bipush C 20 dX11_plan_1 rfl ?_
  refine cs C [] (m_U_within C.inj M a1 20 _ rfl) ci_U_within lk_X11_61 (by decide) rfl rfl (Nat.le_of_ble_eq_true rfl) dX11_plan_3 ?_
  refine v_if_ne C 12 dX11_plan_6 (by decide) (fun c3 => ?_) (fun c3 => ?_)
  · replace h := (ite_h h).2 c3
    refine v_aload_n C 0 dX11_plan_12 rfl ?_
    obtain ⟨q1, hq1, h⟩ := Option.bind_eq_some_iff.mp h
    refine cv11v C [] kk0 (m_U_refresh C.inj M q1 hq1) ci_U_refresh rfl lk_X11_112 (by decide) rfl rfl (Nat.le_of_ble_eq_true rfl) dX11_plan_13 ?_
    refine v_aload_n C 0 dX11_plan_16 rfl ?_
    refine g_U_byFree C kk0 fl_X11_55 dX11_plan_17 ?_
    refine g_Run_course C kk67 fl_X11_159 dX11_plan_20 ?_
    refine v_iload_n C 1 dX11_plan_23 rfl ?_
    obtain ⟨q2, hq2, h⟩ := Option.bind_eq_some_iff.mp h
    refine cv0 C [] kk68 (m_Course_codeAt C.inj 68 kk68 q1 a1 q2 hq2) ci_Course_codeAt rfl lk_X11_163 (by decide) rfl rfl (Nat.le_of_ble_eq_true rfl) dX11_plan_24 ?_
    obtain rfl := Option.some.inj h
    exact v_iret C K dX11_plan_27
  · replace h := (ite_h h).1 c3
    refine v_bipush C (-2) dX11_plan_9 rfl ?_
    obtain rfl := Option.some.inj h
    exact v_iret C K dX11_plan_11
theorem m_U_plan {S : SE} (hI : Inj S) (M : Mem) (a1 : Int32) (q : (Int32 × Mem)) (h : f_U_plan M a1 = some q) : CM S yX11_plan cX11_plan 2 (some .int) 7 [.ref (S.2.1 0), .int a1] M (some (.int q.1)) q.2 :=
  CM.of [(0, .ref (S.2.1 0)), (1, .int a1)] hI (by decide) rfl (Nat.le_of_ble_eq_true rfl) (fun X C K => v_U_plan C K  h)
def f_U_cost_b15 (M : Mem) : Option (Int32 × Mem) :=
  some ((-2), M)
set_option maxRecDepth 20000 in
theorem v_U_cost_b15 {S : SE} {X : MX} {q : (Int32 × Mem)} {M : Mem} (C : CX S X cX11_cost 3 RX11 7) (K : RT S X (some .int) (some (.int q.1)) q.2) (h : f_U_cost_b15 M = some q) : V S X 3 M 15 [] [] := by
  unfold f_U_cost_b15 at h
  refine v_bipush C (-2) dX11_cost_15 rfl ?_
  obtain rfl := Option.some.inj h
  exact v_iret C K dX11_cost_17
def f_U_cost (M : Mem) (a1 : Int32) (a2 : Int32) : Option (Int32 × Mem) :=
  if (f_U_isPlan a1) = 0 then
    f_U_cost_b15 M
  else
    if (f_U_within a2 5) = 0 then
      f_U_cost_b15 M
    else
      (f_U_refresh M).bind fun q1 =>
      some ((f_Report_costOf ((f_U_runOf q1 a1) + 8) q1 a2), q1)
set_option maxRecDepth 20000 in
theorem v_U_cost {S : SE} {X : MX} {q : (Int32 × Mem)} {M : Mem} {a1 : Int32} {a2 : Int32} (C : CX S X cX11_cost 3 RX11 7) (K : RT S X (some .int) (some (.int q.1)) q.2) (h : f_U_cost M a1 a2 = some q) : V S X 3 M 0 [(0, .ref (S.2.1 0)), (1, .int a1), (2, .int a2)] [] := by
  unfold f_U_cost at h
  refine v_iload_n C 1 dX11_cost_0 rfl ?_
  refine cs C [] (m_U_isPlan C.inj M a1 _ rfl) ci_U_isPlan lk_X11_109 (by decide) rfl rfl (Nat.le_of_ble_eq_true rfl) dX11_cost_1 ?_
  refine v_if_eq C 15 dX11_cost_4 (by decide) (fun c3 => ?_) (fun c3 => ?_)
  · replace h := (ite_h h).1 c3
    refine v_sub [] rfl ?_
    exact v_U_cost_b15 C K h
  · replace h := (ite_h h).2 c3
    refine v_iload_n C 2 dX11_cost_7 rfl ?_
    refine v_iconst C 5 dX11_cost_8 rfl ?_
    refine cs C [] (m_U_within C.inj M a2 5 _ rfl) ci_U_within lk_X11_61 (by decide) rfl rfl (Nat.le_of_ble_eq_true rfl) dX11_cost_9 ?_
    refine v_if_ne C 18 dX11_cost_12 (by decide) (fun c2 => ?_) (fun c2 => ?_)
    · replace h := (ite_h h).2 c2
      refine v_aload_n C 0 dX11_cost_18 rfl ?_
      obtain ⟨q1, hq1, h⟩ := Option.bind_eq_some_iff.mp h
      refine cv11v C [] kk0 (m_U_refresh C.inj M q1 hq1) ci_U_refresh rfl lk_X11_112 (by decide) rfl rfl (Nat.le_of_ble_eq_true rfl) dX11_cost_19 ?_
      refine v_aload_n C 0 dX11_cost_22 rfl ?_
      refine v_iload_n C 1 dX11_cost_23 rfl ?_
      refine cv11 C [] kk0 (m_U_runOf C.inj q1 a1 _ rfl) ci_U_runOf rfl lk_X11_115 (by decide) rfl rfl (Nat.le_of_ble_eq_true rfl) dX11_cost_24 ?_
      refine g_Run_report C (kdr_U_runOf q1 a1) fl_X11_119 dX11_cost_27 ?_
      refine v_iload_n C 2 dX11_cost_30 rfl ?_
      refine cv4 C [] (kd_Run_report (kdr_U_runOf q1 a1)) (m_Report_costOf C.inj ((f_U_runOf q1 a1) + 8) (kd_Run_report (kdr_U_runOf q1 a1)) q1 a2 _ rfl) ci_Report_costOf rfl lk_X11_168 (by decide) rfl rfl (Nat.le_of_ble_eq_true rfl) dX11_cost_31 ?_
      obtain rfl := Option.some.inj h
      exact v_iret C K dX11_cost_34
    · replace h := (ite_h h).1 c2
      refine v_sub [] rfl ?_
      exact v_U_cost_b15 C K h
theorem m_U_cost {S : SE} (hI : Inj S) (M : Mem) (a1 : Int32) (a2 : Int32) (q : (Int32 × Mem)) (h : f_U_cost M a1 a2 = some q) : CM S yX11_cost cX11_cost 3 (some .int) 7 [.ref (S.2.1 0), .int a1, .int a2] M (some (.int q.1)) q.2 :=
  CM.of [(0, .ref (S.2.1 0)), (1, .int a1), (2, .int a2)] hI (by decide) rfl (Nat.le_of_ble_eq_true rfl) (fun X C K => v_U_cost C K  h)
def f_U_log_b17 (M : Mem) : Option (Int32 × Mem) :=
  some ((-2), M)
set_option maxRecDepth 20000 in
theorem v_U_log_b17 {S : SE} {X : MX} {q : (Int32 × Mem)} {M : Mem} (C : CX S X cX11_log 3 RX11 7) (K : RT S X (some .int) (some (.int q.1)) q.2) (h : f_U_log_b17 M = some q) : V S X 3 M 17 [] [] := by
  unfold f_U_log_b17 at h
  refine v_bipush C (-2) dX11_log_17 rfl ?_
  obtain rfl := Option.some.inj h
  exact v_iret C K dX11_log_19
def f_U_log (M : Mem) (a1 : Int32) (a2 : Int32) : Option (Int32 × Mem) :=
  if (f_U_isPlan a1) = 0 then
    f_U_log_b17 M
  else
    if (f_U_within a2 200) = 0 then
      f_U_log_b17 M
    else
      (f_U_refresh M).bind fun q1 =>
      (f_Report_loggedAt ((f_U_runOf q1 a1) + 8) q1 a2).bind fun q2 =>
      some (q2, q1)
set_option maxRecDepth 20000 in
theorem v_U_log {S : SE} {X : MX} {q : (Int32 × Mem)} {M : Mem} {a1 : Int32} {a2 : Int32} (C : CX S X cX11_log 3 RX11 7) (K : RT S X (some .int) (some (.int q.1)) q.2) (h : f_U_log M a1 a2 = some q) : V S X 3 M 0 [(0, .ref (S.2.1 0)), (1, .int a1), (2, .int a2)] [] := by
  unfold f_U_log at h
  refine v_iload_n C 1 dX11_log_0 rfl ?_
  refine cs C [] (m_U_isPlan C.inj M a1 _ rfl) ci_U_isPlan lk_X11_109 (by decide) rfl rfl (Nat.le_of_ble_eq_true rfl) dX11_log_1 ?_
  refine v_if_eq C 17 dX11_log_4 (by decide) (fun c4 => ?_) (fun c4 => ?_)
  · replace h := (ite_h h).1 c4
    refine v_sub [] rfl ?_
    exact v_U_log_b17 C K h
  · replace h := (ite_h h).2 c4
    refine v_iload_n C 2 dX11_log_7 rfl ?_
    refine v_sipush C 200 dX11_log_8 rfl ?_
    refine cs C [] (m_U_within C.inj M a2 200 _ rfl) ci_U_within lk_X11_61 (by decide) rfl rfl (Nat.le_of_ble_eq_true rfl) dX11_log_11 ?_
    refine v_if_ne C 20 dX11_log_14 (by decide) (fun c3 => ?_) (fun c3 => ?_)
    · replace h := (ite_h h).2 c3
      refine v_aload_n C 0 dX11_log_20 rfl ?_
      obtain ⟨q1, hq1, h⟩ := Option.bind_eq_some_iff.mp h
      refine cv11v C [] kk0 (m_U_refresh C.inj M q1 hq1) ci_U_refresh rfl lk_X11_112 (by decide) rfl rfl (Nat.le_of_ble_eq_true rfl) dX11_log_21 ?_
      refine v_aload_n C 0 dX11_log_24 rfl ?_
      refine v_iload_n C 1 dX11_log_25 rfl ?_
      refine cv11 C [] kk0 (m_U_runOf C.inj q1 a1 _ rfl) ci_U_runOf rfl lk_X11_115 (by decide) rfl rfl (Nat.le_of_ble_eq_true rfl) dX11_log_26 ?_
      refine g_Run_report C (kdr_U_runOf q1 a1) fl_X11_119 dX11_log_29 ?_
      refine v_iload_n C 2 dX11_log_32 rfl ?_
      obtain ⟨q2, hq2, h⟩ := Option.bind_eq_some_iff.mp h
      refine cv4 C [] (kd_Run_report (kdr_U_runOf q1 a1)) (m_Report_loggedAt C.inj ((f_U_runOf q1 a1) + 8) (kd_Run_report (kdr_U_runOf q1 a1)) q1 a2 q2 hq2) ci_Report_loggedAt rfl lk_X11_171 (by decide) rfl rfl (Nat.le_of_ble_eq_true rfl) dX11_log_33 ?_
      obtain rfl := Option.some.inj h
      exact v_iret C K dX11_log_36
    · replace h := (ite_h h).1 c3
      refine v_sub [] rfl ?_
      exact v_U_log_b17 C K h
theorem m_U_log {S : SE} (hI : Inj S) (M : Mem) (a1 : Int32) (a2 : Int32) (q : (Int32 × Mem)) (h : f_U_log M a1 a2 = some q) : CM S yX11_log cX11_log 3 (some .int) 7 [.ref (S.2.1 0), .int a1, .int a2] M (some (.int q.1)) q.2 :=
  CM.of [(0, .ref (S.2.1 0)), (1, .int a1), (2, .int a2)] hI (by decide) rfl (Nat.le_of_ble_eq_true rfl) (fun X C K => v_U_log C K  h)
def f_U_spareBits_b64 (k4 : Int32 → Int32 → Mem → Option (Int32 × Mem)) (a1 : Int32) (a2 : Int32) (M : Mem) : Option (Int32 × Mem) :=
  k4 a1 (a2 + 1) M
set_option maxRecDepth 20000 in
theorem v_U_spareBits_b64 {S : SE} {X : MX} {q : (Int32 × Mem)} {k4 : Int32 → Int32 → Mem → Option (Int32 × Mem)} {a1 : Int32} {a2 : Int32} {M : Mem} (C : CX S X cX11_spareBits 3 RX11 6) (K : RT S X (some .int) (some (.int q.1)) q.2) (hk4 : ∀ (a1 : Int32) (a2 : Int32) (M : Mem), k4 a1 a2 M = some q → V S X 3 M 4 [(0, .ref (S.2.1 0)), (1, .int a1), (2, .int a2)] []) (h : f_U_spareBits_b64 k4 a1 a2 M = some q) : V S X 3 M 64 [(0, .ref (S.2.1 0)), (1, .int a1), (2, .int a2)] [] := by
  unfold f_U_spareBits_b64 at h
  refine v_iinc C [(2, .int (a2 + 1)), (0, .ref (S.2.1 0)), (1, .int a1)] 2 (a2 + 1) dX11_spareBits_64 rfl rfl (by decide) rfl ?_
  refine v_goto C 4 dX11_spareBits_67 (by decide) ?_
  refine v_sub [1, 2, 0] rfl ?_
  exact hk4 _ _ _ h
def f_U_spareBits_l4B (k4 : Int32 → Int32 → Mem → Option (Int32 × Mem)) (a1 : Int32) (a2 : Int32) (M : Mem) : Option (Int32 × Mem) :=
  if (M 10 2) ≤ a2 then
    some (a1, M)
  else
    (f_Run_askRowByRow 79 M (M 0 6) a2).bind fun q1 =>
    (f_Report_isLike 87 63 q1 (f_U_hosts q1)).bind fun q2 =>
    if q2 = 0 then
      f_U_spareBits_b64 k4 a1 a2 q1
    else
      bnd (a1 ||| (1 <<< (a2 &&& 31))) fun x3 =>
      f_U_spareBits_b64 k4 x3 a2 q1
set_option maxRecDepth 20000 in
theorem v_U_spareBits_l4B {S : SE} {X : MX} {q : (Int32 × Mem)} {k4 : Int32 → Int32 → Mem → Option (Int32 × Mem)} {a1 : Int32} {a2 : Int32} {M : Mem} (C : CX S X cX11_spareBits 3 RX11 6) (K : RT S X (some .int) (some (.int q.1)) q.2) (hk4 : ∀ (a1 : Int32) (a2 : Int32) (M : Mem), k4 a1 a2 M = some q → V S X 3 M 4 [(0, .ref (S.2.1 0)), (1, .int a1), (2, .int a2)] []) (h : f_U_spareBits_l4B k4 a1 a2 M = some q) : V S X 3 M 4 [(0, .ref (S.2.1 0)), (1, .int a1), (2, .int a2)] [] := by
  unfold f_U_spareBits_l4B at h
  refine v_iload_n C 2 dX11_spareBits_4 rfl ?_
  refine v_aload_n C 0 dX11_spareBits_5 rfl ?_
  refine g_U_question C kk0 fl_X11_24 dX11_spareBits_6 ?_
  refine g_Question_steps C kk3 fl_X11_78 dX11_spareBits_9 ?_
  refine g_Steps_size C kk10 fl_X11_102 dX11_spareBits_12 ?_
  refine v_icmp_ge C 70 dX11_spareBits_15 (by decide) (fun c5 => ?_) (fun c5 => ?_)
  · replace h := (ite_h h).1 c5
    refine v_iload_n C 1 dX11_spareBits_70 rfl ?_
    obtain rfl := Option.some.inj h
    exact v_iret C K dX11_spareBits_71
  · replace h := (ite_h h).2 c5
    refine v_aload_n C 0 dX11_spareBits_18 rfl ?_
    refine g_U_tried C kk0 fl_X11_58 dX11_spareBits_19 ?_
    refine v_aload_n C 0 dX11_spareBits_22 rfl ?_
    refine g_U_question C kk0 fl_X11_24 dX11_spareBits_23 ?_
    refine v_aload_n C 0 dX11_spareBits_26 rfl ?_
    refine g_U_end C kk0 fl_X11_28 dX11_spareBits_27 ?_
    refine v_iload_n C 2 dX11_spareBits_30 rfl ?_
    obtain ⟨q1, hq1, h⟩ := Option.bind_eq_some_iff.mp h
    refine cv5v C [] kk79 (m_Run_askRowByRow C.inj 79 kk79 M (M 0 6) a2 q1 hq1) ci_Run_askRowByRow rfl lk_X11_258 (by decide) rfl rfl (Nat.le_of_ble_eq_true rfl) dX11_spareBits_31 ?_
    refine v_aload_n C 0 dX11_spareBits_34 rfl ?_
    refine g_U_tried C kk0 fl_X11_58 dX11_spareBits_35 ?_
    refine g_Run_report C kk79 fl_X11_119 dX11_spareBits_38 ?_
    refine v_aload_n C 0 dX11_spareBits_41 rfl ?_
    refine g_U_byRow C kk0 fl_X11_51 dX11_spareBits_42 ?_
    refine g_Run_report C kk55 fl_X11_119 dX11_spareBits_45 ?_
    refine v_aload_n C 0 dX11_spareBits_48 rfl ?_
    refine cv11 C [.ref (S.2.1 63), .ref (S.2.1 87)] kk0 (m_U_hosts C.inj q1 _ rfl) ci_U_hosts rfl lk_X11_128 (by decide) rfl rfl (Nat.le_of_ble_eq_true rfl) dX11_spareBits_49 ?_
    obtain ⟨q2, hq2, h⟩ := Option.bind_eq_some_iff.mp h
    refine cv4 C [] kk87 (m_Report_isLike C.inj 87 63 kk87 kk63 q1 (f_U_hosts q1) q2 hq2) ci_Report_isLike rfl lk_X11_266 (by decide) rfl rfl (Nat.le_of_ble_eq_true rfl) dX11_spareBits_52 ?_
    refine v_if_eq C 64 dX11_spareBits_55 (by decide) (fun c4 => ?_) (fun c4 => ?_)
    · replace h := (ite_h h).1 c4
      exact v_U_spareBits_b64 C K hk4 h
    · replace h := (ite_h h).2 c4
      refine v_iload_n C 1 dX11_spareBits_58 rfl ?_
      refine v_iconst C 1 dX11_spareBits_59 rfl ?_
      refine v_iload_n C 2 dX11_spareBits_60 rfl ?_
      refine v_ishl C dX11_spareBits_61 ?_
      refine v_ior C dX11_spareBits_62 ?_
      refine v_nmi h (fun x3 h => ?_)
      refine v_istore_n C [(1, .int x3), (0, .ref (S.2.1 0)), (2, .int a2)] dX11_spareBits_63 (by decide) rfl ?_
      refine v_sub [1, 0, 2] rfl ?_
      exact v_U_spareBits_b64 C K hk4 h
def f_U_spareBits_l4 : Nat → Int32 → Int32 → Mem → Option (Int32 × Mem)
  | 0, _, _, _ => none
  | n + 1, a1, a2, M => f_U_spareBits_l4B (f_U_spareBits_l4 n) a1 a2 M
theorem v_U_spareBits_l4 {S : SE} {X : MX} {q : (Int32 × Mem)} (C : CX S X cX11_spareBits 3 RX11 6) (K : RT S X (some .int) (some (.int q.1)) q.2) : ∀ (n : Nat) (a1 : Int32) (a2 : Int32) (M : Mem), f_U_spareBits_l4 n a1 a2 M = some q → V S X 3 M 4 [(0, .ref (S.2.1 0)), (1, .int a1), (2, .int a2)] [] := by
  intro n
  induction n with
  | zero => intro a1 a2 M h; cases h
  | succ n ih => intro a1 a2 M h; exact v_U_spareBits_l4B C K ih h
def f_U_spareBits (M : Mem) : Option (Int32 × Mem) :=
  f_U_spareBits_l4 FU 0 0 M
set_option maxRecDepth 20000 in
theorem v_U_spareBits {S : SE} {X : MX} {q : (Int32 × Mem)} {M : Mem} (C : CX S X cX11_spareBits 3 RX11 6) (K : RT S X (some .int) (some (.int q.1)) q.2) (h : f_U_spareBits M = some q) : V S X 3 M 0 [(0, .ref (S.2.1 0))] [] := by
  unfold f_U_spareBits at h
  refine v_iconst C 0 dX11_spareBits_0 rfl ?_
  refine v_istore_n C [(1, .int 0), (0, .ref (S.2.1 0))] dX11_spareBits_1 (by decide) rfl ?_
  refine v_iconst C 0 dX11_spareBits_2 rfl ?_
  refine v_istore_n C [(2, .int 0), (1, .int 0), (0, .ref (S.2.1 0))] dX11_spareBits_3 (by decide) rfl ?_
  refine v_sub [2, 1, 0] rfl ?_
  exact v_U_spareBits_l4 C K FU _ _ _ h
theorem m_U_spareBits {S : SE} (hI : Inj S) (M : Mem) (q : (Int32 × Mem)) (h : f_U_spareBits M = some q) : CM S yX11_spareBits cX11_spareBits 3 (some .int) 6 [.ref (S.2.1 0)] M (some (.int q.1)) q.2 :=
  CM.of [(0, .ref (S.2.1 0))] hI (by decide) rfl (Nat.le_of_ble_eq_true rfl) (fun X C K => v_U_spareBits C K  h)
def f_U_spare (M : Mem) : Option (Int32 × Mem) :=
  (f_U_refresh M).bind fun q1 =>
  (f_U_spareBits q1).bind fun q2 =>
  some (q2.1, q2.2)
set_option maxRecDepth 20000 in
theorem v_U_spare {S : SE} {X : MX} {q : (Int32 × Mem)} {M : Mem} (C : CX S X cX11_spare 1 RX11 7) (K : RT S X (some .int) (some (.int q.1)) q.2) (h : f_U_spare M = some q) : V S X 1 M 0 [(0, .ref (S.2.1 0))] [] := by
  unfold f_U_spare at h
  refine v_aload_n C 0 dX11_spare_0 rfl ?_
  obtain ⟨q1, hq1, h⟩ := Option.bind_eq_some_iff.mp h
  refine cv11v C [] kk0 (m_U_refresh C.inj M q1 hq1) ci_U_refresh rfl lk_X11_112 (by decide) rfl rfl (Nat.le_of_ble_eq_true rfl) dX11_spare_1 ?_
  refine v_aload_n C 0 dX11_spare_4 rfl ?_
  obtain ⟨q2, hq2, h⟩ := Option.bind_eq_some_iff.mp h
  refine cv11 C [] kk0 (m_U_spareBits C.inj q1 q2 hq2) ci_U_spareBits rfl lk_X11_174 (by decide) rfl rfl (Nat.le_of_ble_eq_true rfl) dX11_spare_5 ?_
  obtain rfl := Option.some.inj h
  exact v_iret C K dX11_spare_8
theorem m_U_spare {S : SE} (hI : Inj S) (M : Mem) (q : (Int32 × Mem)) (h : f_U_spare M = some q) : CM S yX11_spare cX11_spare 1 (some .int) 7 [.ref (S.2.1 0)] M (some (.int q.1)) q.2 :=
  CM.of [(0, .ref (S.2.1 0))] hI (by decide) rfl (Nat.le_of_ble_eq_true rfl) (fun X C K => v_U_spare C K  h)
def f_U_found (M : Mem) (a1 : Int32) : (Int32 × Mem) :=
  bnd (mset M 0 7 a1) fun M1 =>
  (((-10) - a1), M1)
set_option maxRecDepth 20000 in
theorem v_U_found {S : SE} {X : MX} {q : (Int32 × Mem)} {M : Mem} {a1 : Int32} (C : CX S X cX11_found 2 RX11 0) (K : RT S X (some .int) (some (.int q.1)) q.2) (h : f_U_found M a1 = q) : V S X 2 M 0 [(0, .ref (S.2.1 0)), (1, .int a1)] [] := by
  unfold f_U_found at h
  refine v_aload_n C 0 dX11_found_0 rfl ?_
  refine v_iload_n C 1 dX11_found_1 rfl ?_
  refine p_U_finding C kk0 fl_X11_32 dX11_found_2 ?_
  refine v_nmm h (fun M1 h => ?_)
  refine v_bipush C (-10) dX11_found_5 rfl ?_
  refine v_iload_n C 1 dX11_found_7 rfl ?_
  refine v_isub C dX11_found_8 ?_
  subst h
  exact v_iret C K dX11_found_9
theorem m_U_found {S : SE} (hI : Inj S) (M : Mem) (a1 : Int32) (q : (Int32 × Mem)) (h : f_U_found M a1 = q) : CM S yX11_found cX11_found 2 (some .int) 0 [.ref (S.2.1 0), .int a1] M (some (.int q.1)) q.2 :=
  CM.of [(0, .ref (S.2.1 0)), (1, .int a1)] hI (by decide) rfl (Nat.le_of_ble_eq_true rfl) (fun X C K => v_U_found C K  h)
def f_U_sheet_b22 (M : Mem) : Option (Int32 × Mem) :=
  some ((-2), M)
set_option maxRecDepth 20000 in
theorem v_U_sheet_b22 {S : SE} {X : MX} {q : (Int32 × Mem)} {M : Mem} (C : CX S X cX11_sheet 4 RX11 2) (K : RT S X (some .int) (some (.int q.1)) q.2) (h : f_U_sheet_b22 M = some q) : V S X 4 M 22 [] [] := by
  unfold f_U_sheet_b22 at h
  refine v_bipush C (-2) dX11_sheet_22 rfl ?_
  obtain rfl := Option.some.inj h
  exact v_iret C K dX11_sheet_24
def f_U_sheet (M : Mem) (a1 : Int32) (a2 : Int32) (a3 : Int32) : Option (Int32 × Mem) :=
  if (f_U_within a1 4) = 0 then
    f_U_sheet_b22 M
  else
    if (f_U_within a2 3) = 0 then
      f_U_sheet_b22 M
    else
      if a3 ≤ 60 then
        if 0 ≤ a3 then
          if gin a1 4 then
            (f_Sheet_renew (19 + 2 * a1.toNatClampNeg) M a2 a3).bind fun q2 =>
            some (a3, q2)
          else none
        else
          bnd (f_U_found M 5) fun q3 =>
          some (q3.1, q3.2)
      else
        f_U_sheet_b22 M
set_option maxRecDepth 20000 in
theorem v_U_sheet {S : SE} {X : MX} {q : (Int32 × Mem)} {M : Mem} {a1 : Int32} {a2 : Int32} {a3 : Int32} (C : CX S X cX11_sheet 4 RX11 2) (K : RT S X (some .int) (some (.int q.1)) q.2) (h : f_U_sheet M a1 a2 a3 = some q) : V S X 4 M 0 [(0, .ref (S.2.1 0)), (1, .int a1), (2, .int a2), (3, .int a3)] [] := by
  unfold f_U_sheet at h
  refine v_iload_n C 1 dX11_sheet_0 rfl ?_
  refine v_iconst C 4 dX11_sheet_1 rfl ?_
  refine cs C [] (m_U_within C.inj M a1 4 _ rfl) ci_U_within lk_X11_61 (by decide) rfl rfl (Nat.le_of_ble_eq_true rfl) dX11_sheet_2 ?_
  refine v_if_eq C 22 dX11_sheet_5 (by decide) (fun c7 => ?_) (fun c7 => ?_)
  · replace h := (ite_h h).1 c7
    refine v_sub [] rfl ?_
    exact v_U_sheet_b22 C K h
  · replace h := (ite_h h).2 c7
    refine v_iload_n C 2 dX11_sheet_8 rfl ?_
    refine v_iconst C 3 dX11_sheet_9 rfl ?_
    refine cs C [] (m_U_within C.inj M a2 3 _ rfl) ci_U_within lk_X11_61 (by decide) rfl rfl (Nat.le_of_ble_eq_true rfl) dX11_sheet_10 ?_
    refine v_if_eq C 22 dX11_sheet_13 (by decide) (fun c6 => ?_) (fun c6 => ?_)
    · replace h := (ite_h h).1 c6
      refine v_sub [] rfl ?_
      exact v_U_sheet_b22 C K h
    · replace h := (ite_h h).2 c6
      refine v_iload_n C 3 dX11_sheet_16 rfl ?_
      refine v_bipush C 60 dX11_sheet_17 rfl ?_
      refine v_icmp_le C 25 dX11_sheet_19 (by decide) (fun c5 => ?_) (fun c5 => ?_)
      · replace h := (ite_h h).1 c5
        refine v_iload_n C 3 dX11_sheet_25 rfl ?_
        refine v_if_ge C 35 dX11_sheet_26 (by decide) (fun c4 => ?_) (fun c4 => ?_)
        · replace h := (ite_h h).1 c4
          refine v_aload_n C 0 dX11_sheet_35 rfl ?_
          refine g_U_sheets C kk0 fl_X11_17 dX11_sheet_36 ?_
          refine v_iload_n C 1 dX11_sheet_39 rfl ?_
          obtain ⟨g1, h⟩ := gd_h h
          refine v_aaldS C g1 dX11_sheet_40 ?_
          refine v_iload_n C 2 dX11_sheet_41 rfl ?_
          refine v_iload_n C 3 dX11_sheet_42 rfl ?_
          obtain ⟨q2, hq2, h⟩ := Option.bind_eq_some_iff.mp h
          refine cv6v C [] (kd_S (i := a1) g1) (m_Sheet_renew C.inj (19 + 2 * a1.toNatClampNeg) (kd_S (i := a1) g1) M a2 a3 q2 hq2) ci_Sheet_renew rfl lk_X11_180 (by decide) rfl rfl (Nat.le_of_ble_eq_true rfl) dX11_sheet_43 ?_
          refine v_iload_n C 3 dX11_sheet_46 rfl ?_
          obtain rfl := Option.some.inj h
          exact v_iret C K dX11_sheet_47
        · replace h := (ite_h h).2 c4
          refine v_aload_n C 0 dX11_sheet_29 rfl ?_
          refine v_iconst C 5 dX11_sheet_30 rfl ?_
          obtain ⟨q3, hq3, h⟩ := bnd_ex h
          refine cv11 C [] kk0 (m_U_found C.inj M 5 q3 hq3) ci_U_found rfl lk_X11_177 (by decide) rfl rfl (Nat.le_of_ble_eq_true rfl) dX11_sheet_31 ?_
          obtain rfl := Option.some.inj h
          exact v_iret C K dX11_sheet_34
      · replace h := (ite_h h).2 c5
        refine v_sub [] rfl ?_
        exact v_U_sheet_b22 C K h
theorem m_U_sheet {S : SE} (hI : Inj S) (M : Mem) (a1 : Int32) (a2 : Int32) (a3 : Int32) (q : (Int32 × Mem)) (h : f_U_sheet M a1 a2 a3 = some q) : CM S yX11_sheet cX11_sheet 4 (some .int) 2 [.ref (S.2.1 0), .int a1, .int a2, .int a3] M (some (.int q.1)) q.2 :=
  CM.of [(0, .ref (S.2.1 0)), (1, .int a1), (2, .int a2), (3, .int a3)] hI (by decide) rfl (Nat.le_of_ble_eq_true rfl) (fun X C K => v_U_sheet C K  h)
def f_U_lose (M : Mem) (a1 : Int32) : Option (Int32 × Mem) :=
  if (f_U_within a1 4) = 0 then
    some ((-2), M)
  else
    if gin a1 4 then
      if (f_Sheet_isLost (19 + 2 * a1.toNatClampNeg) M) = 0 then
        if gin a1 4 then
          bnd (M (19 + 2 * a1.toNatClampNeg) 2) fun x3 =>
          if gin a1 4 then
            bnd (f_Sheet_forget (19 + 2 * a1.toNatClampNeg) M) fun q5 =>
            some (x3, q5)
          else none
        else none
      else
        bnd (f_U_found M 1) fun q6 =>
        some (q6.1, q6.2)
    else none
set_option maxRecDepth 20000 in
theorem v_U_lose {S : SE} {X : MX} {q : (Int32 × Mem)} {M : Mem} {a1 : Int32} (C : CX S X cX11_lose 3 RX11 1) (K : RT S X (some .int) (some (.int q.1)) q.2) (h : f_U_lose M a1 = some q) : V S X 3 M 0 [(0, .ref (S.2.1 0)), (1, .int a1)] [] := by
  unfold f_U_lose at h
  refine v_iload_n C 1 dX11_lose_0 rfl ?_
  refine v_iconst C 4 dX11_lose_1 rfl ?_
  refine cs C [] (m_U_within C.inj M a1 4 _ rfl) ci_U_within lk_X11_61 (by decide) rfl rfl (Nat.le_of_ble_eq_true rfl) dX11_lose_2 ?_
  refine v_if_ne C 11 dX11_lose_5 (by decide) (fun c8 => ?_) (fun c8 => ?_)
  · replace h := (ite_h h).2 c8
    refine v_aload_n C 0 dX11_lose_11 rfl ?_
    refine g_U_sheets C kk0 fl_X11_17 dX11_lose_12 ?_
    refine v_iload_n C 1 dX11_lose_15 rfl ?_
    obtain ⟨g1, h⟩ := gd_h h
    refine v_aaldS C g1 dX11_lose_16 ?_
    refine cv6 C [] (kd_S (i := a1) g1) (m_Sheet_isLost C.inj (19 + 2 * a1.toNatClampNeg) (kd_S (i := a1) g1) M _ rfl) ci_Sheet_isLost rfl lk_X11_184 (by decide) rfl rfl (Nat.le_of_ble_eq_true rfl) dX11_lose_17 ?_
    refine v_if_eq C 29 dX11_lose_20 (by decide) (fun c7 => ?_) (fun c7 => ?_)
    · replace h := (ite_h h).1 c7
      refine v_aload_n C 0 dX11_lose_29 rfl ?_
      refine g_U_sheets C kk0 fl_X11_17 dX11_lose_30 ?_
      refine v_iload_n C 1 dX11_lose_33 rfl ?_
      obtain ⟨g2, h⟩ := gd_h h
      refine v_aaldS C g2 dX11_lose_34 ?_
      refine g_Sheet_size C (kd_S (i := a1) g2) fl_X11_188 dX11_lose_35 ?_
      refine v_nmi h (fun x3 h => ?_)
      refine v_istore_n C [(2, .int x3), (0, .ref (S.2.1 0)), (1, .int a1)] dX11_lose_38 (by decide) rfl ?_
      refine v_aload_n C 1 dX11_lose_39 rfl ?_
      refine g_U_sheets C kk0 fl_X11_17 dX11_lose_40 ?_
      refine v_iload_n C 2 dX11_lose_43 rfl ?_
      obtain ⟨g4, h⟩ := gd_h h
      refine v_aaldS C g4 dX11_lose_44 ?_
      obtain ⟨q5, hq5, h⟩ := bnd_ex h
      refine cv6v C [] (kd_S (i := a1) g4) (m_Sheet_forget C.inj (19 + 2 * a1.toNatClampNeg) (kd_S (i := a1) g4) M q5 hq5) ci_Sheet_forget rfl lk_X11_189 (by decide) rfl rfl (Nat.le_of_ble_eq_true rfl) dX11_lose_45 ?_
      refine v_iload_n C 0 dX11_lose_48 rfl ?_
      obtain rfl := Option.some.inj h
      exact v_iret C K dX11_lose_49
    · replace h := (ite_h h).2 c7
      refine v_aload_n C 0 dX11_lose_23 rfl ?_
      refine v_iconst C 1 dX11_lose_24 rfl ?_
      obtain ⟨q6, hq6, h⟩ := bnd_ex h
      refine cv11 C [] kk0 (m_U_found C.inj M 1 q6 hq6) ci_U_found rfl lk_X11_177 (by decide) rfl rfl (Nat.le_of_ble_eq_true rfl) dX11_lose_25 ?_
      obtain rfl := Option.some.inj h
      exact v_iret C K dX11_lose_28
  · replace h := (ite_h h).1 c8
    refine v_bipush C (-2) dX11_lose_8 rfl ?_
    obtain rfl := Option.some.inj h
    exact v_iret C K dX11_lose_10
theorem m_U_lose {S : SE} (hI : Inj S) (M : Mem) (a1 : Int32) (q : (Int32 × Mem)) (h : f_U_lose M a1 = some q) : CM S yX11_lose cX11_lose 3 (some .int) 1 [.ref (S.2.1 0), .int a1] M (some (.int q.1)) q.2 :=
  CM.of [(0, .ref (S.2.1 0)), (1, .int a1)] hI (by decide) rfl (Nat.le_of_ble_eq_true rfl) (fun X C K => v_U_lose C K  h)
def f_U_put_b16 (M : Mem) : Option (Int32 × Mem) :=
  some ((-2), M)
set_option maxRecDepth 20000 in
theorem v_U_put_b16 {S : SE} {X : MX} {q : (Int32 × Mem)} {M : Mem} (C : CX S X cX11_put 6 RX11 2) (K : RT S X (some .int) (some (.int q.1)) q.2) (h : f_U_put_b16 M = some q) : V S X 6 M 16 [] [] := by
  unfold f_U_put_b16 at h
  refine v_bipush C (-2) dX11_put_16 rfl ?_
  obtain rfl := Option.some.inj h
  exact v_iret C K dX11_put_18
def f_U_put (M : Mem) (a1 : Int32) (a2 : Int32) (a3 : Int32) (a4 : Int32) : Option (Int32 × Mem) :=
  if (f_U_within a1 4) = 0 then
    f_U_put_b16 M
  else
    if (f_U_within a2 3) = 0 then
      f_U_put_b16 M
    else
      if gin a1 4 then
        bnd (f_Sheet_findingAt (19 + 2 * a1.toNatClampNeg) M a2 a3) fun x2 =>
        if x2 = 0 then
          if gin a1 4 then
            (f_Sheet_assign (19 + 2 * a1.toNatClampNeg) M a3 a4).bind fun q4 =>
            some (1, q4)
          else none
        else
          bnd (f_U_found M x2) fun q5 =>
          some (q5.1, q5.2)
      else none
set_option maxRecDepth 20000 in
theorem v_U_put {S : SE} {X : MX} {q : (Int32 × Mem)} {M : Mem} {a1 : Int32} {a2 : Int32} {a3 : Int32} {a4 : Int32} (C : CX S X cX11_put 6 RX11 2) (K : RT S X (some .int) (some (.int q.1)) q.2) (h : f_U_put M a1 a2 a3 a4 = some q) : V S X 6 M 0 [(0, .ref (S.2.1 0)), (1, .int a1), (2, .int a2), (3, .int a3), (4, .int a4)] [] := by
  unfold f_U_put at h
  refine v_iload_n C 1 dX11_put_0 rfl ?_
  refine v_iconst C 4 dX11_put_1 rfl ?_
  refine cs C [] (m_U_within C.inj M a1 4 _ rfl) ci_U_within lk_X11_61 (by decide) rfl rfl (Nat.le_of_ble_eq_true rfl) dX11_put_2 ?_
  refine v_if_eq C 16 dX11_put_5 (by decide) (fun c8 => ?_) (fun c8 => ?_)
  · replace h := (ite_h h).1 c8
    refine v_sub [] rfl ?_
    exact v_U_put_b16 C K h
  · replace h := (ite_h h).2 c8
    refine v_iload_n C 2 dX11_put_8 rfl ?_
    refine v_iconst C 3 dX11_put_9 rfl ?_
    refine cs C [] (m_U_within C.inj M a2 3 _ rfl) ci_U_within lk_X11_61 (by decide) rfl rfl (Nat.le_of_ble_eq_true rfl) dX11_put_10 ?_
    refine v_if_ne C 19 dX11_put_13 (by decide) (fun c7 => ?_) (fun c7 => ?_)
    · replace h := (ite_h h).2 c7
      refine v_aload_n C 0 dX11_put_19 rfl ?_
      refine g_U_sheets C kk0 fl_X11_17 dX11_put_20 ?_
      refine v_iload_n C 1 dX11_put_23 rfl ?_
      obtain ⟨g1, h⟩ := gd_h h
      refine v_aaldS C g1 dX11_put_24 ?_
      refine v_iload_n C 2 dX11_put_25 rfl ?_
      refine v_iload_n C 3 dX11_put_26 rfl ?_
      refine cv6 C [] (kd_S (i := a1) g1) (m_Sheet_findingAt C.inj (19 + 2 * a1.toNatClampNeg) (kd_S (i := a1) g1) M a2 a3 _ rfl) ci_Sheet_findingAt rfl lk_X11_192 (by decide) rfl rfl (Nat.le_of_ble_eq_true rfl) dX11_put_27 ?_
      refine v_nmi h (fun x2 h => ?_)
      refine v_istore C [(5, .int x2), (0, .ref (S.2.1 0)), (1, .int a1), (2, .int a2), (3, .int a3), (4, .int a4)] dX11_put_30 (by decide) rfl ?_
      refine v_iload C 0 dX11_put_32 rfl ?_
      refine v_if_eq C 44 dX11_put_34 (by decide) (fun c6 => ?_) (fun c6 => ?_)
      · replace h := (ite_h h).1 c6
        refine v_aload_n C 1 dX11_put_44 rfl ?_
        refine g_U_sheets C kk0 fl_X11_17 dX11_put_45 ?_
        refine v_iload_n C 2 dX11_put_48 rfl ?_
        obtain ⟨g3, h⟩ := gd_h h
        refine v_aaldS C g3 dX11_put_49 ?_
        refine v_iload_n C 4 dX11_put_50 rfl ?_
        refine v_iload C 5 dX11_put_51 rfl ?_
        obtain ⟨q4, hq4, h⟩ := Option.bind_eq_some_iff.mp h
        refine cv6v C [] (kd_S (i := a1) g3) (m_Sheet_assign C.inj (19 + 2 * a1.toNatClampNeg) (kd_S (i := a1) g3) M a3 a4 q4 hq4) ci_Sheet_assign rfl lk_X11_195 (by decide) rfl rfl (Nat.le_of_ble_eq_true rfl) dX11_put_53 ?_
        refine v_iconst C 1 dX11_put_56 rfl ?_
        obtain rfl := Option.some.inj h
        exact v_iret C K dX11_put_57
      · replace h := (ite_h h).2 c6
        refine v_aload_n C 1 dX11_put_37 rfl ?_
        refine v_iload C 0 dX11_put_38 rfl ?_
        obtain ⟨q5, hq5, h⟩ := bnd_ex h
        refine cv11 C [] kk0 (m_U_found C.inj M x2 q5 hq5) ci_U_found rfl lk_X11_177 (by decide) rfl rfl (Nat.le_of_ble_eq_true rfl) dX11_put_40 ?_
        obtain rfl := Option.some.inj h
        exact v_iret C K dX11_put_43
    · replace h := (ite_h h).1 c7
      refine v_sub [] rfl ?_
      exact v_U_put_b16 C K h
theorem m_U_put {S : SE} (hI : Inj S) (M : Mem) (a1 : Int32) (a2 : Int32) (a3 : Int32) (a4 : Int32) (q : (Int32 × Mem)) (h : f_U_put M a1 a2 a3 a4 = some q) : CM S yX11_put cX11_put 6 (some .int) 2 [.ref (S.2.1 0), .int a1, .int a2, .int a3, .int a4] M (some (.int q.1)) q.2 :=
  CM.of [(0, .ref (S.2.1 0)), (1, .int a1), (2, .int a2), (3, .int a3), (4, .int a4)] hI (by decide) rfl (Nat.le_of_ble_eq_true rfl) (fun X C K => v_U_put C K  h)
def f_U_get_b16 (M : Mem) : Option (Int32 × Mem) :=
  some ((-2147483648), M)
set_option maxRecDepth 20000 in
theorem v_U_get_b16 {S : SE} {X : MX} {q : (Int32 × Mem)} {M : Mem} (C : CX S X cX11_get 5 RX11 2) (K : RT S X (some .int) (some (.int q.1)) q.2) (h : f_U_get_b16 M = some q) : V S X 5 M 16 [] [] := by
  unfold f_U_get_b16 at h
  refine v_ldc C kc_X11_198 dX11_get_16 ?_
  obtain rfl := Option.some.inj h
  exact v_iret C K dX11_get_18
def f_U_get (M : Mem) (a1 : Int32) (a2 : Int32) (a3 : Int32) : Option (Int32 × Mem) :=
  if (f_U_within a1 4) = 0 then
    f_U_get_b16 M
  else
    if (f_U_within a2 3) = 0 then
      f_U_get_b16 M
    else
      if gin a1 4 then
        bnd (f_Sheet_findingAt (19 + 2 * a1.toNatClampNeg) M a2 a3) fun x2 =>
        if x2 = 0 then
          if gin a1 4 then
            if gin a3 60 then
              some ((M ((19 + 2 * a1.toNatClampNeg) + 1) a3.toNatClampNeg), M)
            else none
          else none
        else
          bnd (mset M 0 7 x2) fun M5 =>
          some ((-2147483648), M5)
      else none
set_option maxRecDepth 20000 in
theorem v_U_get {S : SE} {X : MX} {q : (Int32 × Mem)} {M : Mem} {a1 : Int32} {a2 : Int32} {a3 : Int32} (C : CX S X cX11_get 5 RX11 2) (K : RT S X (some .int) (some (.int q.1)) q.2) (h : f_U_get M a1 a2 a3 = some q) : V S X 5 M 0 [(0, .ref (S.2.1 0)), (1, .int a1), (2, .int a2), (3, .int a3)] [] := by
  unfold f_U_get at h
  refine v_iload_n C 1 dX11_get_0 rfl ?_
  refine v_iconst C 4 dX11_get_1 rfl ?_
  refine cs C [] (m_U_within C.inj M a1 4 _ rfl) ci_U_within lk_X11_61 (by decide) rfl rfl (Nat.le_of_ble_eq_true rfl) dX11_get_2 ?_
  refine v_if_eq C 16 dX11_get_5 (by decide) (fun c8 => ?_) (fun c8 => ?_)
  · replace h := (ite_h h).1 c8
    refine v_sub [] rfl ?_
    exact v_U_get_b16 C K h
  · replace h := (ite_h h).2 c8
    refine v_iload_n C 2 dX11_get_8 rfl ?_
    refine v_iconst C 3 dX11_get_9 rfl ?_
    refine cs C [] (m_U_within C.inj M a2 3 _ rfl) ci_U_within lk_X11_61 (by decide) rfl rfl (Nat.le_of_ble_eq_true rfl) dX11_get_10 ?_
    refine v_if_ne C 19 dX11_get_13 (by decide) (fun c7 => ?_) (fun c7 => ?_)
    · replace h := (ite_h h).2 c7
      refine v_aload_n C 0 dX11_get_19 rfl ?_
      refine g_U_sheets C kk0 fl_X11_17 dX11_get_20 ?_
      refine v_iload_n C 1 dX11_get_23 rfl ?_
      obtain ⟨g1, h⟩ := gd_h h
      refine v_aaldS C g1 dX11_get_24 ?_
      refine v_iload_n C 2 dX11_get_25 rfl ?_
      refine v_iload_n C 3 dX11_get_26 rfl ?_
      refine cv6 C [] (kd_S (i := a1) g1) (m_Sheet_findingAt C.inj (19 + 2 * a1.toNatClampNeg) (kd_S (i := a1) g1) M a2 a3 _ rfl) ci_Sheet_findingAt rfl lk_X11_192 (by decide) rfl rfl (Nat.le_of_ble_eq_true rfl) dX11_get_27 ?_
      refine v_nmi h (fun x2 h => ?_)
      refine v_istore C [(4, .int x2), (0, .ref (S.2.1 0)), (1, .int a1), (2, .int a2), (3, .int a3)] dX11_get_30 (by decide) rfl ?_
      refine v_iload C 0 dX11_get_32 rfl ?_
      refine v_if_eq C 46 dX11_get_34 (by decide) (fun c6 => ?_) (fun c6 => ?_)
      · replace h := (ite_h h).1 c6
        refine v_aload_n C 1 dX11_get_46 rfl ?_
        refine g_U_sheets C kk0 fl_X11_17 dX11_get_47 ?_
        refine v_iload_n C 2 dX11_get_50 rfl ?_
        obtain ⟨g3, h⟩ := gd_h h
        refine v_aaldS C g3 dX11_get_51 ?_
        refine g_Sheet_items C (kd_S (i := a1) g3) fl_X11_199 dX11_get_52 ?_
        refine v_iload_n C 4 dX11_get_55 rfl ?_
        obtain ⟨g4, h⟩ := gd_h h
        refine v_iald C (kd_Sheet_items (kd_S (i := a1) g3)) (ln_Sheet_items (kd_S (i := a1) g3)) g4 dX11_get_56 ?_
        obtain rfl := Option.some.inj h
        exact v_iret C K dX11_get_57
      · replace h := (ite_h h).2 c6
        refine v_aload_n C 1 dX11_get_37 rfl ?_
        refine v_iload C 0 dX11_get_38 rfl ?_
        refine p_U_finding C kk0 fl_X11_32 dX11_get_40 ?_
        refine v_nmm h (fun M5 h => ?_)
        refine v_ldc C kc_X11_198 dX11_get_43 ?_
        obtain rfl := Option.some.inj h
        exact v_iret C K dX11_get_45
    · replace h := (ite_h h).1 c7
      refine v_sub [] rfl ?_
      exact v_U_get_b16 C K h
theorem m_U_get {S : SE} (hI : Inj S) (M : Mem) (a1 : Int32) (a2 : Int32) (a3 : Int32) (q : (Int32 × Mem)) (h : f_U_get M a1 a2 a3 = some q) : CM S yX11_get cX11_get 5 (some .int) 2 [.ref (S.2.1 0), .int a1, .int a2, .int a3] M (some (.int q.1)) q.2 :=
  CM.of [(0, .ref (S.2.1 0)), (1, .int a1), (2, .int a2), (3, .int a3)] hI (by decide) rfl (Nat.le_of_ble_eq_true rfl) (fun X C K => v_U_get C K  h)
def f_U_copy_b16 (M : Mem) : Option (Int32 × Mem) :=
  some ((-2), M)
set_option maxRecDepth 20000 in
theorem v_U_copy_b16 {S : SE} {X : MX} {q : (Int32 × Mem)} {M : Mem} (C : CX S X cX11_copy 6 RX11 1) (K : RT S X (some .int) (some (.int q.1)) q.2) (h : f_U_copy_b16 M = some q) : V S X 6 M 16 [] [] := by
  unfold f_U_copy_b16 at h
  refine v_bipush C (-2) dX11_copy_16 rfl ?_
  obtain rfl := Option.some.inj h
  exact v_iret C K dX11_copy_18
def f_U_copy_b43 (M : Mem) : Option (Int32 × Mem) :=
  bnd (f_U_found M 1) fun q2 =>
  some (q2.1, q2.2)
set_option maxRecDepth 20000 in
theorem v_U_copy_b43 {S : SE} {X : MX} {q : (Int32 × Mem)} {M : Mem} (C : CX S X cX11_copy 6 RX11 1) (K : RT S X (some .int) (some (.int q.1)) q.2) (h : f_U_copy_b43 M = some q) : V S X 6 M 43 [(0, .ref (S.2.1 0))] [] := by
  unfold f_U_copy_b43 at h
  refine v_aload_n C 0 dX11_copy_43 rfl ?_
  refine v_iconst C 1 dX11_copy_44 rfl ?_
  obtain ⟨q2, hq2, h⟩ := bnd_ex h
  refine cv11 C [] kk0 (m_U_found C.inj M 1 q2 hq2) ci_U_found rfl lk_X11_177 (by decide) rfl rfl (Nat.le_of_ble_eq_true rfl) dX11_copy_45 ?_
  obtain rfl := Option.some.inj h
  exact v_iret C K dX11_copy_48
def f_U_copy_b107 (M : Mem) : Option (Int32 × Mem) :=
  bnd (f_U_found M 2) fun q7 =>
  some (q7.1, q7.2)
set_option maxRecDepth 20000 in
theorem v_U_copy_b107 {S : SE} {X : MX} {q : (Int32 × Mem)} {M : Mem} (C : CX S X cX11_copy 6 RX11 1) (K : RT S X (some .int) (some (.int q.1)) q.2) (h : f_U_copy_b107 M = some q) : V S X 6 M 107 [(0, .ref (S.2.1 0))] [] := by
  unfold f_U_copy_b107 at h
  refine v_aload_n C 0 dX11_copy_107 rfl ?_
  refine v_iconst C 2 dX11_copy_108 rfl ?_
  obtain ⟨q7, hq7, h⟩ := bnd_ex h
  refine cv11 C [] kk0 (m_U_found C.inj M 2 q7 hq7) ci_U_found rfl lk_X11_177 (by decide) rfl rfl (Nat.le_of_ble_eq_true rfl) dX11_copy_109 ?_
  obtain rfl := Option.some.inj h
  exact v_iret C K dX11_copy_112
def f_U_copy (M : Mem) (a1 : Int32) (a2 : Int32) (a3 : Int32) (a4 : Int32) (a5 : Int32) : Option (Int32 × Mem) :=
  if (f_U_within a1 4) = 0 then
    f_U_copy_b16 M
  else
    if (f_U_within a3 4) = 0 then
      f_U_copy_b16 M
    else
      if gin a1 4 then
        if (f_Sheet_isLost (19 + 2 * a1.toNatClampNeg) M) = 0 then
          if gin a3 4 then
            if (f_Sheet_isLost (19 + 2 * a3.toNatClampNeg) M) = 0 then
              if gin a1 4 then
                if gin a3 4 then
                  if (M (19 + 2 * a1.toNatClampNeg) 1) = (M (19 + 2 * a3.toNatClampNeg) 1) then
                    if gin a1 4 then
                      if (f_Sheet_hasRange (19 + 2 * a1.toNatClampNeg) M a2 a5) = 0 then
                        f_U_copy_b107 M
                      else
                        if gin a3 4 then
                          if (f_Sheet_hasRange (19 + 2 * a3.toNatClampNeg) M a4 a5) = 0 then
                            f_U_copy_b107 M
                          else
                            if gin a1 4 then
                              if gin a3 4 then
                                if (¬ a2 < 0 ∧ ¬ a4 < 0 ∧ ¬ a5 < 0 ∧ a2.toNatClampNeg + a5.toNatClampNeg ≤ 60 ∧ a4.toNatClampNeg + a5.toNatClampNeg ≤ 60) then
                                  bnd (mcpy M ((19 + 2 * a1.toNatClampNeg) + 1) a2.toNatClampNeg ((19 + 2 * a3.toNatClampNeg) + 1) a4.toNatClampNeg a5.toNatClampNeg) fun M12 =>
                                  some (1, M12)
                                else none
                              else none
                            else none
                        else none
                    else none
                  else
                    bnd (f_U_found M 4) fun q15 =>
                    some (q15.1, q15.2)
                else none
              else none
            else
              f_U_copy_b43 M
          else none
        else
          f_U_copy_b43 M
      else none
set_option maxRecDepth 20000 in
theorem v_U_copy {S : SE} {X : MX} {q : (Int32 × Mem)} {M : Mem} {a1 : Int32} {a2 : Int32} {a3 : Int32} {a4 : Int32} {a5 : Int32} (C : CX S X cX11_copy 6 RX11 1) (K : RT S X (some .int) (some (.int q.1)) q.2) (h : f_U_copy M a1 a2 a3 a4 a5 = some q) : V S X 6 M 0 [(0, .ref (S.2.1 0)), (1, .int a1), (2, .int a2), (3, .int a3), (4, .int a4), (5, .int a5)] [] := by
  unfold f_U_copy at h
  refine v_iload_n C 1 dX11_copy_0 rfl ?_
  refine v_iconst C 4 dX11_copy_1 rfl ?_
  refine cs C [] (m_U_within C.inj M a1 4 _ rfl) ci_U_within lk_X11_61 (by decide) rfl rfl (Nat.le_of_ble_eq_true rfl) dX11_copy_2 ?_
  refine v_if_eq C 16 dX11_copy_5 (by decide) (fun c20 => ?_) (fun c20 => ?_)
  · replace h := (ite_h h).1 c20
    refine v_sub [] rfl ?_
    exact v_U_copy_b16 C K h
  · replace h := (ite_h h).2 c20
    refine v_iload_n C 3 dX11_copy_8 rfl ?_
    refine v_iconst C 4 dX11_copy_9 rfl ?_
    refine cs C [] (m_U_within C.inj M a3 4 _ rfl) ci_U_within lk_X11_61 (by decide) rfl rfl (Nat.le_of_ble_eq_true rfl) dX11_copy_10 ?_
    refine v_if_ne C 19 dX11_copy_13 (by decide) (fun c19 => ?_) (fun c19 => ?_)
    · replace h := (ite_h h).2 c19
      refine v_aload_n C 0 dX11_copy_19 rfl ?_
      refine g_U_sheets C kk0 fl_X11_17 dX11_copy_20 ?_
      refine v_iload_n C 1 dX11_copy_23 rfl ?_
      obtain ⟨g1, h⟩ := gd_h h
      refine v_aaldS C g1 dX11_copy_24 ?_
      refine cv6 C [] (kd_S (i := a1) g1) (m_Sheet_isLost C.inj (19 + 2 * a1.toNatClampNeg) (kd_S (i := a1) g1) M _ rfl) ci_Sheet_isLost rfl lk_X11_184 (by decide) rfl rfl (Nat.le_of_ble_eq_true rfl) dX11_copy_25 ?_
      refine v_if_ne C 43 dX11_copy_28 (by decide) (fun c18 => ?_) (fun c18 => ?_)
      · replace h := (ite_h h).2 c18
        refine v_sub [0] rfl ?_
        exact v_U_copy_b43 C K h
      · replace h := (ite_h h).1 c18
        refine v_aload_n C 0 dX11_copy_31 rfl ?_
        refine g_U_sheets C kk0 fl_X11_17 dX11_copy_32 ?_
        refine v_iload_n C 3 dX11_copy_35 rfl ?_
        obtain ⟨g3, h⟩ := gd_h h
        refine v_aaldS C g3 dX11_copy_36 ?_
        refine cv6 C [] (kd_S (i := a3) g3) (m_Sheet_isLost C.inj (19 + 2 * a3.toNatClampNeg) (kd_S (i := a3) g3) M _ rfl) ci_Sheet_isLost rfl lk_X11_184 (by decide) rfl rfl (Nat.le_of_ble_eq_true rfl) dX11_copy_37 ?_
        refine v_if_eq C 49 dX11_copy_40 (by decide) (fun c17 => ?_) (fun c17 => ?_)
        · replace h := (ite_h h).1 c17
          refine v_aload_n C 0 dX11_copy_49 rfl ?_
          refine g_U_sheets C kk0 fl_X11_17 dX11_copy_50 ?_
          refine v_iload_n C 1 dX11_copy_53 rfl ?_
          obtain ⟨g4, h⟩ := gd_h h
          refine v_aaldS C g4 dX11_copy_54 ?_
          refine g_Sheet_form C (kd_S (i := a1) g4) fl_X11_202 dX11_copy_55 ?_
          refine v_aload_n C 0 dX11_copy_58 rfl ?_
          refine g_U_sheets C kk0 fl_X11_17 dX11_copy_59 ?_
          refine v_iload_n C 3 dX11_copy_62 rfl ?_
          obtain ⟨g5, h⟩ := gd_h h
          refine v_aaldS C g5 dX11_copy_63 ?_
          refine g_Sheet_form C (kd_S (i := a3) g5) fl_X11_202 dX11_copy_64 ?_
          refine v_icmp_eq C 76 dX11_copy_67 (by decide) (fun c16 => ?_) (fun c16 => ?_)
          · replace h := (ite_h h).1 c16
            refine v_aload_n C 0 dX11_copy_76 rfl ?_
            refine g_U_sheets C kk0 fl_X11_17 dX11_copy_77 ?_
            refine v_iload_n C 1 dX11_copy_80 rfl ?_
            obtain ⟨g6, h⟩ := gd_h h
            refine v_aaldS C g6 dX11_copy_81 ?_
            refine v_iload_n C 2 dX11_copy_82 rfl ?_
            refine v_iload C 5 dX11_copy_83 rfl ?_
            refine cv6 C [] (kd_S (i := a1) g6) (m_Sheet_hasRange C.inj (19 + 2 * a1.toNatClampNeg) (kd_S (i := a1) g6) M a2 a5 _ rfl) ci_Sheet_hasRange rfl lk_X11_205 (by decide) rfl rfl (Nat.le_of_ble_eq_true rfl) dX11_copy_85 ?_
            refine v_if_eq C 107 dX11_copy_88 (by decide) (fun c14 => ?_) (fun c14 => ?_)
            · replace h := (ite_h h).1 c14
              refine v_sub [0] rfl ?_
              exact v_U_copy_b107 C K h
            · replace h := (ite_h h).2 c14
              refine v_aload_n C 0 dX11_copy_91 rfl ?_
              refine g_U_sheets C kk0 fl_X11_17 dX11_copy_92 ?_
              refine v_iload_n C 3 dX11_copy_95 rfl ?_
              obtain ⟨g8, h⟩ := gd_h h
              refine v_aaldS C g8 dX11_copy_96 ?_
              refine v_iload C 4 dX11_copy_97 rfl ?_
              refine v_iload C 5 dX11_copy_99 rfl ?_
              refine cv6 C [] (kd_S (i := a3) g8) (m_Sheet_hasRange C.inj (19 + 2 * a3.toNatClampNeg) (kd_S (i := a3) g8) M a4 a5 _ rfl) ci_Sheet_hasRange rfl lk_X11_205 (by decide) rfl rfl (Nat.le_of_ble_eq_true rfl) dX11_copy_101 ?_
              refine v_if_ne C 113 dX11_copy_104 (by decide) (fun c13 => ?_) (fun c13 => ?_)
              · replace h := (ite_h h).2 c13
                refine v_aload_n C 0 dX11_copy_113 rfl ?_
                refine g_U_sheets C kk0 fl_X11_17 dX11_copy_114 ?_
                refine v_iload_n C 1 dX11_copy_117 rfl ?_
                obtain ⟨g9, h⟩ := gd_h h
                refine v_aaldS C g9 dX11_copy_118 ?_
                refine g_Sheet_items C (kd_S (i := a1) g9) fl_X11_199 dX11_copy_119 ?_
                refine v_iload_n C 2 dX11_copy_122 rfl ?_
                refine v_aload_n C 0 dX11_copy_123 rfl ?_
                refine g_U_sheets C kk0 fl_X11_17 dX11_copy_124 ?_
                refine v_iload_n C 3 dX11_copy_127 rfl ?_
                obtain ⟨g10, h⟩ := gd_h h
                refine v_aaldS C g10 dX11_copy_128 ?_
                refine g_Sheet_items C (kd_S (i := a3) g10) fl_X11_199 dX11_copy_129 ?_
                refine v_iload C 4 dX11_copy_132 rfl ?_
                refine v_iload C 5 dX11_copy_134 rfl ?_
                obtain ⟨g11, h⟩ := gd_h h
                refine v_acopy C (kd_Sheet_items (kd_S (i := a1) g9)) (ln_Sheet_items (kd_S (i := a1) g9)) (kd_Sheet_items (kd_S (i := a3) g10)) (ln_Sheet_items (kd_S (i := a3) g10)) g11 lk_X11_208 (by decide) rfl dX11_copy_136 ?_
                refine v_nmm h (fun M12 h => ?_)
                refine v_iconst C 1 dX11_copy_139 rfl ?_
                obtain rfl := Option.some.inj h
                exact v_iret C K dX11_copy_140
              · replace h := (ite_h h).1 c13
                refine v_sub [0] rfl ?_
                exact v_U_copy_b107 C K h
          · replace h := (ite_h h).2 c16
            refine v_aload_n C 0 dX11_copy_70 rfl ?_
            refine v_iconst C 4 dX11_copy_71 rfl ?_
            obtain ⟨q15, hq15, h⟩ := bnd_ex h
            refine cv11 C [] kk0 (m_U_found C.inj M 4 q15 hq15) ci_U_found rfl lk_X11_177 (by decide) rfl rfl (Nat.le_of_ble_eq_true rfl) dX11_copy_72 ?_
            obtain rfl := Option.some.inj h
            exact v_iret C K dX11_copy_75
        · replace h := (ite_h h).2 c17
          refine v_sub [0] rfl ?_
          exact v_U_copy_b43 C K h
    · replace h := (ite_h h).1 c19
      refine v_sub [] rfl ?_
      exact v_U_copy_b16 C K h
theorem m_U_copy {S : SE} (hI : Inj S) (M : Mem) (a1 : Int32) (a2 : Int32) (a3 : Int32) (a4 : Int32) (a5 : Int32) (q : (Int32 × Mem)) (h : f_U_copy M a1 a2 a3 a4 a5 = some q) : CM S yX11_copy cX11_copy 6 (some .int) 1 [.ref (S.2.1 0), .int a1, .int a2, .int a3, .int a4, .int a5] M (some (.int q.1)) q.2 :=
  CM.of [(0, .ref (S.2.1 0)), (1, .int a1), (2, .int a2), (3, .int a3), (4, .int a4), (5, .int a5)] hI (by decide) rfl (Nat.le_of_ble_eq_true rfl) (fun X C K => v_U_copy C K  h)
def f_U_write_b15 (M : Mem) : Option (Int32 × Mem) :=
  some ((-2), M)
set_option maxRecDepth 20000 in
theorem v_U_write_b15 {S : SE} {X : MX} {q : (Int32 × Mem)} {M : Mem} (C : CX S X cX11_write 6 RX11 7) (K : RT S X (some .int) (some (.int q.1)) q.2) (h : f_U_write_b15 M = some q) : V S X 6 M 15 [] [] := by
  unfold f_U_write_b15 at h
  refine v_bipush C (-2) dX11_write_15 rfl ?_
  obtain rfl := Option.some.inj h
  exact v_iret C K dX11_write_17
def f_U_write_l81B (k81 : Int32 → Nat → Int32 → Int32 → Mem → Option (Int32 × Mem)) (a2 : Int32) (r3 : Nat) (a4 : Int32) (a5 : Int32) (M : Mem) : Option (Int32 × Mem) :=
  if a4 ≤ a5 then
    some (a4, M)
  else
    if gin a2 4 then
      (f_Report_answerOf r3 M a5).bind fun q7 =>
      (f_Sheet_assign (19 + 2 * a2.toNatClampNeg) M a5 q7).bind fun q8 =>
      k81 a2 r3 a4 (a5 + 1) q8
    else none
set_option maxRecDepth 20000 in
theorem v_U_write_l81B {S : SE} {X : MX} {q : (Int32 × Mem)} {k81 : Int32 → Nat → Int32 → Int32 → Mem → Option (Int32 × Mem)} {a2 : Int32} {r3 : Nat} {a4 : Int32} {a5 : Int32} {M : Mem} (C : CX S X cX11_write 6 RX11 7) (K : RT S X (some .int) (some (.int q.1)) q.2) (hk81 : ∀ (a2 : Int32) (r3 : Nat) (a4 : Int32) (a5 : Int32) (M : Mem), kd r3 = 4 → k81 a2 r3 a4 a5 M = some q → V S X 6 M 81 [(0, .ref (S.2.1 0)), (2, .int a2), (3, .ref (S.2.1 r3)), (4, .int a4), (5, .int a5)] []) (hr3 : kd r3 = 4) (h : f_U_write_l81B k81 a2 r3 a4 a5 M = some q) : V S X 6 M 81 [(0, .ref (S.2.1 0)), (2, .int a2), (3, .ref (S.2.1 r3)), (4, .int a4), (5, .int a5)] [] := by
  unfold f_U_write_l81B at h
  refine v_iload C 4 dX11_write_81 rfl ?_
  refine v_iload C 3 dX11_write_83 rfl ?_
  refine v_icmp_ge C 111 dX11_write_85 (by decide) (fun c9 => ?_) (fun c9 => ?_)
  · replace h := (ite_h h).1 c9
    refine v_iload C 3 dX11_write_111 rfl ?_
    obtain rfl := Option.some.inj h
    exact v_iret C K dX11_write_113
  · replace h := (ite_h h).2 c9
    refine v_aload_n C 0 dX11_write_88 rfl ?_
    refine g_U_sheets C kk0 fl_X11_17 dX11_write_89 ?_
    refine v_iload_n C 1 dX11_write_92 rfl ?_
    obtain ⟨g6, h⟩ := gd_h h
    refine v_aaldS C g6 dX11_write_93 ?_
    refine v_iload C 4 dX11_write_94 rfl ?_
    refine v_aload_n C 2 dX11_write_96 rfl ?_
    refine v_iload C 4 dX11_write_97 rfl ?_
    obtain ⟨q7, hq7, h⟩ := Option.bind_eq_some_iff.mp h
    refine cv4 C [.int a5, .ref (S.2.1 (19 + 2 * a2.toNatClampNeg))] hr3 (m_Report_answerOf C.inj r3 hr3 M a5 q7 hq7) ci_Report_answerOf rfl lk_X11_132 (by decide) rfl rfl (Nat.le_of_ble_eq_true rfl) dX11_write_99 ?_
    obtain ⟨q8, hq8, h⟩ := Option.bind_eq_some_iff.mp h
    refine cv6v C [] (kd_S (i := a2) g6) (m_Sheet_assign C.inj (19 + 2 * a2.toNatClampNeg) (kd_S (i := a2) g6) M a5 q7 q8 hq8) ci_Sheet_assign rfl lk_X11_195 (by decide) rfl rfl (Nat.le_of_ble_eq_true rfl) dX11_write_102 ?_
    refine v_iinc C [(5, .int (a5 + 1)), (0, .ref (S.2.1 0)), (2, .int a2), (3, .ref (S.2.1 r3)), (4, .int a4)] 4 (a5 + 1) dX11_write_105 rfl rfl (by decide) rfl ?_
    refine v_goto C 81 dX11_write_108 (by decide) ?_
    refine v_sub [1, 2, 3, 4, 0] rfl ?_
    exact hk81 _ _ _ _ _ hr3 h
def f_U_write_l81 : Nat → Int32 → Nat → Int32 → Int32 → Mem → Option (Int32 × Mem)
  | 0, _, _, _, _, _ => none
  | n + 1, a2, r3, a4, a5, M => f_U_write_l81B (f_U_write_l81 n) a2 r3 a4 a5 M
theorem v_U_write_l81 {S : SE} {X : MX} {q : (Int32 × Mem)} (C : CX S X cX11_write 6 RX11 7) (K : RT S X (some .int) (some (.int q.1)) q.2) : ∀ (n : Nat) (a2 : Int32) (r3 : Nat) (a4 : Int32) (a5 : Int32) (M : Mem), kd r3 = 4 → f_U_write_l81 n a2 r3 a4 a5 M = some q → V S X 6 M 81 [(0, .ref (S.2.1 0)), (2, .int a2), (3, .ref (S.2.1 r3)), (4, .int a4), (5, .int a5)] [] := by
  intro n
  induction n with
  | zero => intro a2 r3 a4 a5 M hr3 h; cases h
  | succ n ih => intro a2 r3 a4 a5 M hr3 h; exact v_U_write_l81B C K ih hr3 h
def f_U_write (M : Mem) (a1 : Int32) (a2 : Int32) : Option (Int32 × Mem) :=
  if (f_U_isPlan a1) = 0 then
    f_U_write_b15 M
  else
    if (f_U_within a2 4) = 0 then
      f_U_write_b15 M
    else
      if gin a2 4 then
        if (f_Sheet_isLost (19 + 2 * a2.toNatClampNeg) M) = 0 then
          (f_U_refresh M).bind fun q2 =>
          bnd ((f_U_runOf q2 a1) + 8) fun c3 =>
          if (q2 c3 4) = (-1) then
            if gin a2 4 then
              bnd (f_J_min (q2 (19 + 2 * a2.toNatClampNeg) 2) (f_U_hosts q2)) fun x5 =>
              f_U_write_l81 FU a2 c3 x5 0 q2
            else none
          else
            some ((-3), q2)
        else
          bnd (f_U_found M 1) fun q11 =>
          some (q11.1, q11.2)
      else none
set_option maxRecDepth 20000 in
theorem v_U_write {S : SE} {X : MX} {q : (Int32 × Mem)} {M : Mem} {a1 : Int32} {a2 : Int32} (C : CX S X cX11_write 6 RX11 7) (K : RT S X (some .int) (some (.int q.1)) q.2) (h : f_U_write M a1 a2 = some q) : V S X 6 M 0 [(0, .ref (S.2.1 0)), (1, .int a1), (2, .int a2)] [] := by
  unfold f_U_write at h
  refine v_iload_n C 1 dX11_write_0 rfl ?_
  refine cs C [] (m_U_isPlan C.inj M a1 _ rfl) ci_U_isPlan lk_X11_109 (by decide) rfl rfl (Nat.le_of_ble_eq_true rfl) dX11_write_1 ?_
  refine v_if_eq C 15 dX11_write_4 (by decide) (fun c14 => ?_) (fun c14 => ?_)
  · replace h := (ite_h h).1 c14
    refine v_sub [] rfl ?_
    exact v_U_write_b15 C K h
  · replace h := (ite_h h).2 c14
    refine v_iload_n C 2 dX11_write_7 rfl ?_
    refine v_iconst C 4 dX11_write_8 rfl ?_
    refine cs C [] (m_U_within C.inj M a2 4 _ rfl) ci_U_within lk_X11_61 (by decide) rfl rfl (Nat.le_of_ble_eq_true rfl) dX11_write_9 ?_
    refine v_if_ne C 18 dX11_write_12 (by decide) (fun c13 => ?_) (fun c13 => ?_)
    · replace h := (ite_h h).2 c13
      refine v_aload_n C 0 dX11_write_18 rfl ?_
      refine g_U_sheets C kk0 fl_X11_17 dX11_write_19 ?_
      refine v_iload_n C 2 dX11_write_22 rfl ?_
      obtain ⟨g1, h⟩ := gd_h h
      refine v_aaldS C g1 dX11_write_23 ?_
      refine cv6 C [] (kd_S (i := a2) g1) (m_Sheet_isLost C.inj (19 + 2 * a2.toNatClampNeg) (kd_S (i := a2) g1) M _ rfl) ci_Sheet_isLost rfl lk_X11_184 (by decide) rfl rfl (Nat.le_of_ble_eq_true rfl) dX11_write_24 ?_
      refine v_if_eq C 36 dX11_write_27 (by decide) (fun c12 => ?_) (fun c12 => ?_)
      · replace h := (ite_h h).1 c12
        refine v_aload_n C 0 dX11_write_36 rfl ?_
        obtain ⟨q2, hq2, h⟩ := Option.bind_eq_some_iff.mp h
        refine cv11v C [] kk0 (m_U_refresh C.inj M q2 hq2) ci_U_refresh rfl lk_X11_112 (by decide) rfl rfl (Nat.le_of_ble_eq_true rfl) dX11_write_37 ?_
        refine v_aload_n C 0 dX11_write_40 rfl ?_
        refine v_iload_n C 1 dX11_write_41 rfl ?_
        refine cv11 C [] kk0 (m_U_runOf C.inj q2 a1 _ rfl) ci_U_runOf rfl lk_X11_115 (by decide) rfl rfl (Nat.le_of_ble_eq_true rfl) dX11_write_42 ?_
        refine g_Run_report C (kdr_U_runOf q2 a1) fl_X11_119 dX11_write_45 ?_
        refine v_nmr h (kd_Run_report (kdr_U_runOf q2 a1)) (fun c3 hc3 h => ?_)
        refine v_astore_n C [(3, .ref (S.2.1 c3)), (0, .ref (S.2.1 0)), (1, .int a1), (2, .int a2)] dX11_write_48 (by decide) rfl ?_
        refine v_aload_n C 0 dX11_write_49 rfl ?_
        refine g_Report_error C hc3 fl_X11_123 dX11_write_50 ?_
        refine v_iconst C (-1) dX11_write_53 rfl ?_
        refine v_icmp_eq C 60 dX11_write_54 (by decide) (fun c10 => ?_) (fun c10 => ?_)
        · replace h := (ite_h h).1 c10
          refine v_aload_n C 1 dX11_write_60 rfl ?_
          refine g_U_sheets C kk0 fl_X11_17 dX11_write_61 ?_
          refine v_iload_n C 3 dX11_write_64 rfl ?_
          obtain ⟨g4, h⟩ := gd_h h
          refine v_aaldS C g4 dX11_write_65 ?_
          refine g_Sheet_size C (kd_S (i := a2) g4) fl_X11_188 dX11_write_66 ?_
          refine v_aload_n C 1 dX11_write_69 rfl ?_
          refine cv11 C [.int (q2 (19 + 2 * a2.toNatClampNeg) 2)] kk0 (m_U_hosts C.inj q2 _ rfl) ci_U_hosts rfl lk_X11_128 (by decide) rfl rfl (Nat.le_of_ble_eq_true rfl) dX11_write_70 ?_
          refine v_mmin C [] lk_X11_214 (by decide) (Nat.le_of_ble_eq_true rfl) dX11_write_73 ?_
          refine v_nmi h (fun x5 h => ?_)
          refine v_istore C [(4, .int x5), (3, .ref (S.2.1 c3)), (0, .ref (S.2.1 0)), (1, .int a1), (2, .int a2)] dX11_write_76 (by decide) rfl ?_
          refine v_iconst C 0 dX11_write_78 rfl ?_
          refine v_istore C [(5, .int 0), (4, .int x5), (3, .ref (S.2.1 c3)), (0, .ref (S.2.1 0)), (1, .int a1), (2, .int a2)] dX11_write_79 (by decide) rfl ?_
          refine v_sub [3, 5, 2, 1, 0] rfl ?_
          exact v_U_write_l81 C K FU _ _ _ _ _ hc3 h
        · replace h := (ite_h h).2 c10
          refine v_bipush C (-3) dX11_write_57 rfl ?_
          obtain rfl := Option.some.inj h
          exact v_iret C K dX11_write_59
      · replace h := (ite_h h).2 c12
        refine v_aload_n C 0 dX11_write_30 rfl ?_
        refine v_iconst C 1 dX11_write_31 rfl ?_
        obtain ⟨q11, hq11, h⟩ := bnd_ex h
        refine cv11 C [] kk0 (m_U_found C.inj M 1 q11 hq11) ci_U_found rfl lk_X11_177 (by decide) rfl rfl (Nat.le_of_ble_eq_true rfl) dX11_write_32 ?_
        obtain rfl := Option.some.inj h
        exact v_iret C K dX11_write_35
    · replace h := (ite_h h).1 c13
      refine v_sub [] rfl ?_
      exact v_U_write_b15 C K h
theorem m_U_write {S : SE} (hI : Inj S) (M : Mem) (a1 : Int32) (a2 : Int32) (q : (Int32 × Mem)) (h : f_U_write M a1 a2 = some q) : CM S yX11_write cX11_write 6 (some .int) 7 [.ref (S.2.1 0), .int a1, .int a2] M (some (.int q.1)) q.2 :=
  CM.of [(0, .ref (S.2.1 0)), (1, .int a1), (2, .int a2)] hI (by decide) rfl (Nat.le_of_ble_eq_true rfl) (fun X C K => v_U_write C K  h)
def f_U_read_b16 (M : Mem) : Option (Int32 × Mem) :=
  some ((-2), M)
set_option maxRecDepth 20000 in
theorem v_U_read_b16 {S : SE} {X : MX} {q : (Int32 × Mem)} {M : Mem} (C : CX S X cX11_read 4 RX11 4) (K : RT S X (some .int) (some (.int q.1)) q.2) (h : f_U_read_b16 M = some q) : V S X 4 M 16 [] [] := by
  unfold f_U_read_b16 at h
  refine v_bipush C (-2) dX11_read_16 rfl ?_
  obtain rfl := Option.some.inj h
  exact v_iret C K dX11_read_18
def f_U_read (M : Mem) (a1 : Int32) (a2 : Int32) : Option (Int32 × Mem) :=
  if (f_U_within a1 3) = 0 then
    f_U_read_b16 M
  else
    if (f_U_within a2 4) = 0 then
      f_U_read_b16 M
    else
      if gin a2 4 then
        if (f_Sheet_isLost (19 + 2 * a2.toNatClampNeg) M) = 0 then
          if gin a1 3 then
            if gin a2 4 then
              (f_Text_appendFrom (13 + 2 * a1.toNatClampNeg) (19 + 2 * a2.toNatClampNeg) M).bind fun q4 =>
              (f_U_understand q4.2 a1).bind fun q5 =>
              some (q4.1, q5)
            else none
          else none
        else
          bnd (f_U_found M 1) fun q6 =>
          some (q6.1, q6.2)
      else none
set_option maxRecDepth 20000 in
theorem v_U_read {S : SE} {X : MX} {q : (Int32 × Mem)} {M : Mem} {a1 : Int32} {a2 : Int32} (C : CX S X cX11_read 4 RX11 4) (K : RT S X (some .int) (some (.int q.1)) q.2) (h : f_U_read M a1 a2 = some q) : V S X 4 M 0 [(0, .ref (S.2.1 0)), (1, .int a1), (2, .int a2)] [] := by
  unfold f_U_read at h
  refine v_iload_n C 1 dX11_read_0 rfl ?_
  refine v_iconst C 3 dX11_read_1 rfl ?_
  refine cs C [] (m_U_within C.inj M a1 3 _ rfl) ci_U_within lk_X11_61 (by decide) rfl rfl (Nat.le_of_ble_eq_true rfl) dX11_read_2 ?_
  refine v_if_eq C 16 dX11_read_5 (by decide) (fun c9 => ?_) (fun c9 => ?_)
  · replace h := (ite_h h).1 c9
    refine v_sub [] rfl ?_
    exact v_U_read_b16 C K h
  · replace h := (ite_h h).2 c9
    refine v_iload_n C 2 dX11_read_8 rfl ?_
    refine v_iconst C 4 dX11_read_9 rfl ?_
    refine cs C [] (m_U_within C.inj M a2 4 _ rfl) ci_U_within lk_X11_61 (by decide) rfl rfl (Nat.le_of_ble_eq_true rfl) dX11_read_10 ?_
    refine v_if_ne C 19 dX11_read_13 (by decide) (fun c8 => ?_) (fun c8 => ?_)
    · replace h := (ite_h h).2 c8
      refine v_aload_n C 0 dX11_read_19 rfl ?_
      refine g_U_sheets C kk0 fl_X11_17 dX11_read_20 ?_
      refine v_iload_n C 2 dX11_read_23 rfl ?_
      obtain ⟨g1, h⟩ := gd_h h
      refine v_aaldS C g1 dX11_read_24 ?_
      refine cv6 C [] (kd_S (i := a2) g1) (m_Sheet_isLost C.inj (19 + 2 * a2.toNatClampNeg) (kd_S (i := a2) g1) M _ rfl) ci_Sheet_isLost rfl lk_X11_184 (by decide) rfl rfl (Nat.le_of_ble_eq_true rfl) dX11_read_25 ?_
      refine v_if_eq C 37 dX11_read_28 (by decide) (fun c7 => ?_) (fun c7 => ?_)
      · replace h := (ite_h h).1 c7
        refine v_aload_n C 0 dX11_read_37 rfl ?_
        refine g_U_texts C kk0 fl_X11_11 dX11_read_38 ?_
        refine v_iload_n C 1 dX11_read_41 rfl ?_
        obtain ⟨g2, h⟩ := gd_h h
        refine v_aaldT C g2 dX11_read_42 ?_
        refine v_aload_n C 0 dX11_read_43 rfl ?_
        refine g_U_sheets C kk0 fl_X11_17 dX11_read_44 ?_
        refine v_iload_n C 2 dX11_read_47 rfl ?_
        obtain ⟨g3, h⟩ := gd_h h
        refine v_aaldS C g3 dX11_read_48 ?_
        obtain ⟨q4, hq4, h⟩ := Option.bind_eq_some_iff.mp h
        refine cv10 C [] (kd_T (i := a1) g2) (m_Text_appendFrom C.inj (13 + 2 * a1.toNatClampNeg) (19 + 2 * a2.toNatClampNeg) (kd_T (i := a1) g2) (kd_S (i := a2) g3) M q4 hq4) ci_Text_appendFrom rfl lk_X11_219 (by decide) rfl rfl (Nat.le_of_ble_eq_true rfl) dX11_read_49 ?_
        refine v_istore_n C [(3, .int q4.1), (0, .ref (S.2.1 0)), (1, .int a1), (2, .int a2)] dX11_read_52 (by decide) rfl ?_
        refine v_aload_n C 1 dX11_read_53 rfl ?_
        refine v_iload_n C 2 dX11_read_54 rfl ?_
        obtain ⟨q5, hq5, h⟩ := Option.bind_eq_some_iff.mp h
        refine cv11v C [] kk0 (m_U_understand C.inj q4.2 a1 q5 hq5) ci_U_understand rfl lk_X11_72 (by decide) rfl rfl (Nat.le_of_ble_eq_true rfl) dX11_read_55 ?_
        refine v_iload_n C 0 dX11_read_58 rfl ?_
        obtain rfl := Option.some.inj h
        exact v_iret C K dX11_read_59
      · replace h := (ite_h h).2 c7
        refine v_aload_n C 0 dX11_read_31 rfl ?_
        refine v_iconst C 1 dX11_read_32 rfl ?_
        obtain ⟨q6, hq6, h⟩ := bnd_ex h
        refine cv11 C [] kk0 (m_U_found C.inj M 1 q6 hq6) ci_U_found rfl lk_X11_177 (by decide) rfl rfl (Nat.le_of_ble_eq_true rfl) dX11_read_33 ?_
        obtain rfl := Option.some.inj h
        exact v_iret C K dX11_read_36
    · replace h := (ite_h h).1 c8
      refine v_sub [] rfl ?_
      exact v_U_read_b16 C K h
theorem m_U_read {S : SE} (hI : Inj S) (M : Mem) (a1 : Int32) (a2 : Int32) (q : (Int32 × Mem)) (h : f_U_read M a1 a2 = some q) : CM S yX11_read cX11_read 4 (some .int) 4 [.ref (S.2.1 0), .int a1, .int a2] M (some (.int q.1)) q.2 :=
  CM.of [(0, .ref (S.2.1 0)), (1, .int a1), (2, .int a2)] hI (by decide) rfl (Nat.le_of_ble_eq_true rfl) (fun X C K => v_U_read C K  h)
def f_U_counted (M : Mem) (a1 : Int32) : Int32 :=
  if a1 = 0 then
    (M 4 2)
  else
  if a1 = 1 then
    (M 7 2)
  else
  if a1 = 2 then
    (M 10 2)
  else
  if a1 = 3 then
    (M 0 6)
  else
  if a1 = 4 then
    (((M (13 + 2 * (0 : Int32).toNatClampNeg) 1) + (M (13 + 2 * (1 : Int32).toNatClampNeg) 1)) + (M (13 + 2 * (2 : Int32).toNatClampNeg) 1))
  else
  if a1 = 5 then
    (M 71 3)
  else
  if a1 = 6 then
    (M 68 2)
  else
  (M 63 5)
set_option maxRecDepth 20000 in
theorem v_U_counted {S : SE} {X : MX} {q : Int32} {M : Mem} {a1 : Int32} (C : CX S X cX11_counted 2 RX11 0) (K : RT S X (some .int) (some (.int q)) M) (h : f_U_counted M a1 = q) : V S X 2 M 0 [(0, .ref (S.2.1 0)), (1, .int a1)] [] := by
  unfold f_U_counted at h
  refine v_iload_n C 1 dX11_counted_0 rfl ?_
  by_cases c1 : a1 = 0
  · replace h := (ite_h h).1 c1
    refine v_tableIn C 44 dX11_counted_1 (by rw [c1]; decide) (by rw [c1]; decide) (by rw [c1]; rfl) (by decide) ?_
    refine v_aload_n C 0 dX11_counted_44 rfl ?_
    refine g_U_question C kk0 fl_X11_24 dX11_counted_45 ?_
    refine g_Question_outer C kk3 fl_X11_246 dX11_counted_48 ?_
    refine g_Table_size C kk4 fl_X11_94 dX11_counted_51 ?_
    subst h
    exact v_iret C K dX11_counted_54
  replace h := (ite_h h).2 c1
  by_cases c2 : a1 = 1
  · replace h := (ite_h h).1 c2
    refine v_tableIn C 55 dX11_counted_1 (by rw [c2]; decide) (by rw [c2]; decide) (by rw [c2]; rfl) (by decide) ?_
    refine v_aload_n C 0 dX11_counted_55 rfl ?_
    refine g_U_question C kk0 fl_X11_24 dX11_counted_56 ?_
    refine g_Question_inner C kk3 fl_X11_250 dX11_counted_59 ?_
    refine g_Table_size C kk7 fl_X11_94 dX11_counted_62 ?_
    subst h
    exact v_iret C K dX11_counted_65
  replace h := (ite_h h).2 c2
  by_cases c3 : a1 = 2
  · replace h := (ite_h h).1 c3
    refine v_tableIn C 66 dX11_counted_1 (by rw [c3]; decide) (by rw [c3]; decide) (by rw [c3]; rfl) (by decide) ?_
    refine v_aload_n C 0 dX11_counted_66 rfl ?_
    refine g_U_question C kk0 fl_X11_24 dX11_counted_67 ?_
    refine g_Question_steps C kk3 fl_X11_78 dX11_counted_70 ?_
    refine g_Steps_size C kk10 fl_X11_102 dX11_counted_73 ?_
    subst h
    exact v_iret C K dX11_counted_76
  replace h := (ite_h h).2 c3
  by_cases c4 : a1 = 3
  · replace h := (ite_h h).1 c4
    refine v_tableIn C 77 dX11_counted_1 (by rw [c4]; decide) (by rw [c4]; decide) (by rw [c4]; rfl) (by decide) ?_
    refine v_aload_n C 0 dX11_counted_77 rfl ?_
    refine g_U_end C kk0 fl_X11_28 dX11_counted_78 ?_
    subst h
    exact v_iret C K dX11_counted_81
  replace h := (ite_h h).2 c4
  by_cases c5 : a1 = 4
  · replace h := (ite_h h).1 c5
    refine v_tableIn C 82 dX11_counted_1 (by rw [c5]; decide) (by rw [c5]; decide) (by rw [c5]; rfl) (by decide) ?_
    refine v_aload_n C 0 dX11_counted_82 rfl ?_
    refine g_U_texts C kk0 fl_X11_11 dX11_counted_83 ?_
    refine v_iconst C 0 dX11_counted_86 rfl ?_
    refine v_aaldT C (by decide) dX11_counted_87 ?_
    refine g_Text_size C (kd_T (i := 0) (by decide)) fl_X11_75 dX11_counted_88 ?_
    refine v_aload_n C 0 dX11_counted_91 rfl ?_
    refine g_U_texts C kk0 fl_X11_11 dX11_counted_92 ?_
    refine v_iconst C 1 dX11_counted_95 rfl ?_
    refine v_aaldT C (by decide) dX11_counted_96 ?_
    refine g_Text_size C (kd_T (i := 1) (by decide)) fl_X11_75 dX11_counted_97 ?_
    refine v_iadd C dX11_counted_100 ?_
    refine v_aload_n C 0 dX11_counted_101 rfl ?_
    refine g_U_texts C kk0 fl_X11_11 dX11_counted_102 ?_
    refine v_iconst C 2 dX11_counted_105 rfl ?_
    refine v_aaldT C (by decide) dX11_counted_106 ?_
    refine g_Text_size C (kd_T (i := 2) (by decide)) fl_X11_75 dX11_counted_107 ?_
    refine v_iadd C dX11_counted_110 ?_
    subst h
    exact v_iret C K dX11_counted_111
  replace h := (ite_h h).2 c5
  by_cases c6 : a1 = 5
  · replace h := (ite_h h).1 c6
    refine v_tableIn C 112 dX11_counted_1 (by rw [c6]; decide) (by rw [c6]; decide) (by rw [c6]; rfl) (by decide) ?_
    refine v_aload_n C 0 dX11_counted_112 rfl ?_
    refine g_U_byFree C kk0 fl_X11_55 dX11_counted_113 ?_
    refine g_Run_pairs C kk67 fl_X11_149 dX11_counted_116 ?_
    refine g_Pairs_size C kk71 fl_X11_153 dX11_counted_119 ?_
    subst h
    exact v_iret C K dX11_counted_122
  replace h := (ite_h h).2 c6
  by_cases c7 : a1 = 6
  · replace h := (ite_h h).1 c7
    refine v_tableIn C 123 dX11_counted_1 (by rw [c7]; decide) (by rw [c7]; decide) (by rw [c7]; rfl) (by decide) ?_
    refine v_aload_n C 0 dX11_counted_123 rfl ?_
    refine g_U_byFree C kk0 fl_X11_55 dX11_counted_124 ?_
    refine g_Run_course C kk67 fl_X11_159 dX11_counted_127 ?_
    refine g_Course_size C kk68 fl_X11_272 dX11_counted_130 ?_
    subst h
    exact v_iret C K dX11_counted_133
  replace h := (ite_h h).2 c7
  refine v_tableOut C 134 dX11_counted_1 (by
      have := ne_toInt c1 (0 : Int) rfl
      have := ne_toInt c2 (1 : Int) rfl
      have := ne_toInt c3 (2 : Int) rfl
      have := ne_toInt c4 (3 : Int) rfl
      have := ne_toInt c5 (4 : Int) rfl
      have := ne_toInt c6 (5 : Int) rfl
      have := ne_toInt c7 (6 : Int) rfl
      omega) (by decide) ?_
  refine v_aload_n C 0 dX11_counted_134 rfl ?_
  refine g_U_byRow C kk0 fl_X11_51 dX11_counted_135 ?_
  refine g_Run_report C kk55 fl_X11_119 dX11_counted_138 ?_
  refine g_Report_read C kk63 fl_X11_273 dX11_counted_141 ?_
  subst h
  exact v_iret C K dX11_counted_144
theorem m_U_counted {S : SE} (hI : Inj S) (M : Mem) (a1 : Int32) (q : Int32) (h : f_U_counted M a1 = q) : CM S yX11_counted cX11_counted 2 (some .int) 0 [.ref (S.2.1 0), .int a1] M (some (.int q)) M :=
  CM.of [(0, .ref (S.2.1 0)), (1, .int a1)] hI (by decide) rfl (Nat.le_of_ble_eq_true rfl) (fun X C K => v_U_counted C K  h)
def f_U_count (M : Mem) (a1 : Int32) : Option (Int32 × Mem) :=
  if a1 = 8 then
    some ((M 0 7), M)
  else
    if (f_U_within a1 8) = 0 then
      some ((-2), M)
    else
      (f_U_refresh M).bind fun q1 =>
      some ((f_U_counted q1 a1), q1)
set_option maxRecDepth 20000 in
theorem v_U_count {S : SE} {X : MX} {q : (Int32 × Mem)} {M : Mem} {a1 : Int32} (C : CX S X cX11_count 2 RX11 7) (K : RT S X (some .int) (some (.int q.1)) q.2) (h : f_U_count M a1 = some q) : V S X 2 M 0 [(0, .ref (S.2.1 0)), (1, .int a1)] [] := by
  unfold f_U_count at h
  refine v_iload_n C 1 dX11_count_0 rfl ?_
  refine v_bipush C 8 dX11_count_1 rfl ?_
  refine v_icmp_ne C 11 dX11_count_3 (by decide) (fun c3 => ?_) (fun c3 => ?_)
  · replace h := (ite_h h).2 c3
    refine v_iload_n C 1 dX11_count_11 rfl ?_
    refine v_bipush C 8 dX11_count_12 rfl ?_
    refine cs C [] (m_U_within C.inj M a1 8 _ rfl) ci_U_within lk_X11_61 (by decide) rfl rfl (Nat.le_of_ble_eq_true rfl) dX11_count_14 ?_
    refine v_if_ne C 23 dX11_count_17 (by decide) (fun c2 => ?_) (fun c2 => ?_)
    · replace h := (ite_h h).2 c2
      refine v_aload_n C 0 dX11_count_23 rfl ?_
      obtain ⟨q1, hq1, h⟩ := Option.bind_eq_some_iff.mp h
      refine cv11v C [] kk0 (m_U_refresh C.inj M q1 hq1) ci_U_refresh rfl lk_X11_112 (by decide) rfl rfl (Nat.le_of_ble_eq_true rfl) dX11_count_24 ?_
      refine v_aload_n C 0 dX11_count_27 rfl ?_
      refine v_iload_n C 1 dX11_count_28 rfl ?_
      refine cv11 C [] kk0 (m_U_counted C.inj q1 a1 _ rfl) ci_U_counted rfl lk_X11_223 (by decide) rfl rfl (Nat.le_of_ble_eq_true rfl) dX11_count_29 ?_
      obtain rfl := Option.some.inj h
      exact v_iret C K dX11_count_32
    · replace h := (ite_h h).1 c2
      refine v_bipush C (-2) dX11_count_20 rfl ?_
      obtain rfl := Option.some.inj h
      exact v_iret C K dX11_count_22
  · replace h := (ite_h h).1 c3
    refine v_aload_n C 0 dX11_count_6 rfl ?_
    refine g_U_finding C kk0 fl_X11_32 dX11_count_7 ?_
    obtain rfl := Option.some.inj h
    exact v_iret C K dX11_count_10
theorem m_U_count {S : SE} (hI : Inj S) (M : Mem) (a1 : Int32) (q : (Int32 × Mem)) (h : f_U_count M a1 = some q) : CM S yX11_count cX11_count 2 (some .int) 7 [.ref (S.2.1 0), .int a1] M (some (.int q.1)) q.2 :=
  CM.of [(0, .ref (S.2.1 0)), (1, .int a1)] hI (by decide) rfl (Nat.le_of_ble_eq_true rfl) (fun X C K => v_U_count C K  h)
def f_U_mixTexts_l95B (k95 : Int64 → Int32 → Mem → Option Int64) (a3 : Int64) (a5 : Int32) (M : Mem) : Option Int64 :=
  if 12 ≤ a5 then
    some a3
  else
    (f_U_step M a5 0).bind fun q1 =>
    (f_U_step M a5 1).bind fun q2 =>
    bnd (f_U_mix (f_U_mix a3 q1) q2) fun y3 =>
    (f_Course_codeAt 68 M a5).bind fun q4 =>
    bnd (f_U_mix y3 q4) fun y5 =>
    k95 y5 (a5 + 1) M
set_option maxRecDepth 20000 in
theorem v_U_mixTexts_l95B {S : SE} {X : MX} {q : Int64} {k95 : Int64 → Int32 → Mem → Option Int64} {a3 : Int64} {a5 : Int32} {M : Mem} (C : CX S X cX11_mixTexts 6 RX11 2) (K : RT S X (some .long) (some (.long q)) M) (hk95 : ∀ (a3 : Int64) (a5 : Int32), k95 a3 a5 M = some q → V S X 6 M 95 [(0, .ref (S.2.1 0)), (3, .long a3), (5, .int a5)] []) (h : f_U_mixTexts_l95B k95 a3 a5 M = some q) : V S X 6 M 95 [(0, .ref (S.2.1 0)), (3, .long a3), (5, .int a5)] [] := by
  unfold f_U_mixTexts_l95B at h
  refine v_iload C 2 dX11_mixTexts_95 rfl ?_
  refine v_bipush C 12 dX11_mixTexts_97 rfl ?_
  refine v_icmp_ge C 147 dX11_mixTexts_99 (by decide) (fun c6 => ?_) (fun c6 => ?_)
  · replace h := (ite_h h).1 c6
    refine v_lload_n C 1 dX11_mixTexts_147 rfl ?_
    obtain rfl := Option.some.inj h
    exact v_lret C K dX11_mixTexts_148
  · replace h := (ite_h h).2 c6
    refine v_lload_n C 1 dX11_mixTexts_102 rfl ?_
    refine v_aload_n C 0 dX11_mixTexts_103 rfl ?_
    refine v_iload C 2 dX11_mixTexts_104 rfl ?_
    refine v_iconst C 0 dX11_mixTexts_106 rfl ?_
    obtain ⟨q1, hq1, h⟩ := Option.bind_eq_some_iff.mp h
    refine cv11 C [.long a3] kk0 (m_U_step C.inj M a5 0 q1 hq1) ci_U_step rfl lk_X11_284 (by decide) rfl rfl (Nat.le_of_ble_eq_true rfl) dX11_mixTexts_107 ?_
    refine cs C [] (m_U_mix C.inj M a3 q1 _ rfl) ci_U_mix lk_X11_228 (by decide) rfl rfl (Nat.le_of_ble_eq_true rfl) dX11_mixTexts_110 ?_
    refine v_aload_n C 0 dX11_mixTexts_113 rfl ?_
    refine v_iload C 2 dX11_mixTexts_114 rfl ?_
    refine v_iconst C 1 dX11_mixTexts_116 rfl ?_
    obtain ⟨q2, hq2, h⟩ := Option.bind_eq_some_iff.mp h
    refine cv11 C [.long (f_U_mix a3 q1)] kk0 (m_U_step C.inj M a5 1 q2 hq2) ci_U_step rfl lk_X11_284 (by decide) rfl rfl (Nat.le_of_ble_eq_true rfl) dX11_mixTexts_117 ?_
    refine cs C [] (m_U_mix C.inj M (f_U_mix a3 q1) q2 _ rfl) ci_U_mix lk_X11_228 (by decide) rfl rfl (Nat.le_of_ble_eq_true rfl) dX11_mixTexts_120 ?_
    refine v_nml h (fun y3 h => ?_)
    refine v_lstore_n C [(3, .long y3), (0, .ref (S.2.1 0)), (5, .int a5)] dX11_mixTexts_123 (by decide) rfl ?_
    refine v_lload_n C 0 dX11_mixTexts_124 rfl ?_
    refine v_aload_n C 1 dX11_mixTexts_125 rfl ?_
    refine g_U_byFree C kk0 fl_X11_55 dX11_mixTexts_126 ?_
    refine g_Run_course C kk67 fl_X11_159 dX11_mixTexts_129 ?_
    refine v_iload C 2 dX11_mixTexts_132 rfl ?_
    obtain ⟨q4, hq4, h⟩ := Option.bind_eq_some_iff.mp h
    refine cv0 C [.long y3] kk68 (m_Course_codeAt C.inj 68 kk68 M a5 q4 hq4) ci_Course_codeAt rfl lk_X11_163 (by decide) rfl rfl (Nat.le_of_ble_eq_true rfl) dX11_mixTexts_134 ?_
    refine cs C [] (m_U_mix C.inj M y3 q4 _ rfl) ci_U_mix lk_X11_228 (by decide) rfl rfl (Nat.le_of_ble_eq_true rfl) dX11_mixTexts_137 ?_
    refine v_nml h (fun y5 h => ?_)
    refine v_lstore_n C [(3, .long y5), (0, .ref (S.2.1 0)), (5, .int a5)] dX11_mixTexts_140 (by decide) rfl ?_
    refine v_iinc C [(5, .int (a5 + 1)), (3, .long y5), (0, .ref (S.2.1 0))] 2 (a5 + 1) dX11_mixTexts_141 rfl rfl (by decide) rfl ?_
    refine v_goto C 95 dX11_mixTexts_144 (by decide) ?_
    refine v_sub [2, 1, 0] rfl ?_
    exact hk95 _ _ h
def f_U_mixTexts_l95 : Nat → Int64 → Int32 → Mem → Option Int64
  | 0, _, _, _ => none
  | n + 1, a3, a5, M => f_U_mixTexts_l95B (f_U_mixTexts_l95 n) a3 a5 M
theorem v_U_mixTexts_l95 {S : SE} {X : MX} {q : Int64} {M : Mem} (C : CX S X cX11_mixTexts 6 RX11 2) (K : RT S X (some .long) (some (.long q)) M) : ∀ (n : Nat) (a3 : Int64) (a5 : Int32), f_U_mixTexts_l95 n a3 a5 M = some q → V S X 6 M 95 [(0, .ref (S.2.1 0)), (3, .long a3), (5, .int a5)] [] := by
  intro n
  induction n with
  | zero => intro a3 a5 h; cases h
  | succ n ih => intro a3 a5 h; exact v_U_mixTexts_l95B C K ih h
def f_U_mixTexts_l31B (k31 : Int64 → Int32 → Mem → Option Int64) (a3 : Int64) (a5 : Int32) (M : Mem) : Option Int64 :=
  if 10 ≤ a5 then
    f_U_mixTexts_l95 FU a3 0 M
  else
    (f_U_row M 0 a5 0).bind fun q7 =>
    (f_U_row M 0 a5 1).bind fun q8 =>
    bnd (f_U_mix (f_U_mix a3 q7) q8) fun y9 =>
    (f_U_row M 1 a5 0).bind fun q10 =>
    (f_U_row M 1 a5 1).bind fun q11 =>
    bnd (f_U_mix (f_U_mix y9 q10) q11) fun y12 =>
    k31 y12 (a5 + 1) M
set_option maxRecDepth 20000 in
theorem v_U_mixTexts_l31B {S : SE} {X : MX} {q : Int64} {k31 : Int64 → Int32 → Mem → Option Int64} {a3 : Int64} {a5 : Int32} {M : Mem} (C : CX S X cX11_mixTexts 6 RX11 2) (K : RT S X (some .long) (some (.long q)) M) (hk31 : ∀ (a3 : Int64) (a5 : Int32), k31 a3 a5 M = some q → V S X 6 M 31 [(0, .ref (S.2.1 0)), (3, .long a3), (5, .int a5)] []) (h : f_U_mixTexts_l31B k31 a3 a5 M = some q) : V S X 6 M 31 [(0, .ref (S.2.1 0)), (3, .long a3), (5, .int a5)] [] := by
  unfold f_U_mixTexts_l31B at h
  refine v_iload C 2 dX11_mixTexts_31 rfl ?_
  refine v_bipush C 10 dX11_mixTexts_33 rfl ?_
  refine v_icmp_ge C 92 dX11_mixTexts_35 (by decide) (fun c13 => ?_) (fun c13 => ?_)
  · replace h := (ite_h h).1 c13
    refine v_iconst C 0 dX11_mixTexts_92 rfl ?_
    refine v_istore C [(5, .int 0), (0, .ref (S.2.1 0)), (3, .long a3)] dX11_mixTexts_93 (by decide) rfl ?_
    refine v_sub [1, 2, 0] rfl ?_
    exact v_U_mixTexts_l95 C K FU _ _ h
  · replace h := (ite_h h).2 c13
    refine v_lload_n C 1 dX11_mixTexts_38 rfl ?_
    refine v_aload_n C 0 dX11_mixTexts_39 rfl ?_
    refine v_iconst C 0 dX11_mixTexts_40 rfl ?_
    refine v_iload C 2 dX11_mixTexts_41 rfl ?_
    refine v_iconst C 0 dX11_mixTexts_43 rfl ?_
    obtain ⟨q7, hq7, h⟩ := Option.bind_eq_some_iff.mp h
    refine cv11 C [.long a3] kk0 (m_U_row C.inj M 0 a5 0 q7 hq7) ci_U_row rfl lk_X11_280 (by decide) rfl rfl (Nat.le_of_ble_eq_true rfl) dX11_mixTexts_44 ?_
    refine cs C [] (m_U_mix C.inj M a3 q7 _ rfl) ci_U_mix lk_X11_228 (by decide) rfl rfl (Nat.le_of_ble_eq_true rfl) dX11_mixTexts_47 ?_
    refine v_aload_n C 0 dX11_mixTexts_50 rfl ?_
    refine v_iconst C 0 dX11_mixTexts_51 rfl ?_
    refine v_iload C 2 dX11_mixTexts_52 rfl ?_
    refine v_iconst C 1 dX11_mixTexts_54 rfl ?_
    obtain ⟨q8, hq8, h⟩ := Option.bind_eq_some_iff.mp h
    refine cv11 C [.long (f_U_mix a3 q7)] kk0 (m_U_row C.inj M 0 a5 1 q8 hq8) ci_U_row rfl lk_X11_280 (by decide) rfl rfl (Nat.le_of_ble_eq_true rfl) dX11_mixTexts_55 ?_
    refine cs C [] (m_U_mix C.inj M (f_U_mix a3 q7) q8 _ rfl) ci_U_mix lk_X11_228 (by decide) rfl rfl (Nat.le_of_ble_eq_true rfl) dX11_mixTexts_58 ?_
    refine v_nml h (fun y9 h => ?_)
    refine v_lstore_n C [(3, .long y9), (0, .ref (S.2.1 0)), (5, .int a5)] dX11_mixTexts_61 (by decide) rfl ?_
    refine v_lload_n C 0 dX11_mixTexts_62 rfl ?_
    refine v_aload_n C 1 dX11_mixTexts_63 rfl ?_
    refine v_iconst C 1 dX11_mixTexts_64 rfl ?_
    refine v_iload C 2 dX11_mixTexts_65 rfl ?_
    refine v_iconst C 0 dX11_mixTexts_67 rfl ?_
    obtain ⟨q10, hq10, h⟩ := Option.bind_eq_some_iff.mp h
    refine cv11 C [.long y9] kk0 (m_U_row C.inj M 1 a5 0 q10 hq10) ci_U_row rfl lk_X11_280 (by decide) rfl rfl (Nat.le_of_ble_eq_true rfl) dX11_mixTexts_68 ?_
    refine cs C [] (m_U_mix C.inj M y9 q10 _ rfl) ci_U_mix lk_X11_228 (by decide) rfl rfl (Nat.le_of_ble_eq_true rfl) dX11_mixTexts_71 ?_
    refine v_aload_n C 1 dX11_mixTexts_74 rfl ?_
    refine v_iconst C 1 dX11_mixTexts_75 rfl ?_
    refine v_iload C 2 dX11_mixTexts_76 rfl ?_
    refine v_iconst C 1 dX11_mixTexts_78 rfl ?_
    obtain ⟨q11, hq11, h⟩ := Option.bind_eq_some_iff.mp h
    refine cv11 C [.long (f_U_mix y9 q10)] kk0 (m_U_row C.inj M 1 a5 1 q11 hq11) ci_U_row rfl lk_X11_280 (by decide) rfl rfl (Nat.le_of_ble_eq_true rfl) dX11_mixTexts_79 ?_
    refine cs C [] (m_U_mix C.inj M (f_U_mix y9 q10) q11 _ rfl) ci_U_mix lk_X11_228 (by decide) rfl rfl (Nat.le_of_ble_eq_true rfl) dX11_mixTexts_82 ?_
    refine v_nml h (fun y12 h => ?_)
    refine v_lstore_n C [(3, .long y12), (0, .ref (S.2.1 0)), (5, .int a5)] dX11_mixTexts_85 (by decide) rfl ?_
    refine v_iinc C [(5, .int (a5 + 1)), (3, .long y12), (0, .ref (S.2.1 0))] 2 (a5 + 1) dX11_mixTexts_86 rfl rfl (by decide) rfl ?_
    refine v_goto C 31 dX11_mixTexts_89 (by decide) ?_
    refine v_sub [2, 1, 0] rfl ?_
    exact hk31 _ _ h
def f_U_mixTexts_l31 : Nat → Int64 → Int32 → Mem → Option Int64
  | 0, _, _, _ => none
  | n + 1, a3, a5, M => f_U_mixTexts_l31B (f_U_mixTexts_l31 n) a3 a5 M
theorem v_U_mixTexts_l31 {S : SE} {X : MX} {q : Int64} {M : Mem} (C : CX S X cX11_mixTexts 6 RX11 2) (K : RT S X (some .long) (some (.long q)) M) : ∀ (n : Nat) (a3 : Int64) (a5 : Int32), f_U_mixTexts_l31 n a3 a5 M = some q → V S X 6 M 31 [(0, .ref (S.2.1 0)), (3, .long a3), (5, .int a5)] [] := by
  intro n
  induction n with
  | zero => intro a3 a5 h; cases h
  | succ n ih => intro a3 a5 h; exact v_U_mixTexts_l31B C K ih h
def f_U_mixTexts_l5B (k5 : Int64 → Int32 → Mem → Option Int64) (a3 : Int64) (a5 : Int32) (M : Mem) : Option Int64 :=
  if 3 ≤ a5 then
    f_U_mixTexts_l31 FU a3 0 M
  else
    bnd (f_U_mix a3 (f_U_fault M a5)) fun y14 =>
    k5 y14 (a5 + 1) M
set_option maxRecDepth 20000 in
theorem v_U_mixTexts_l5B {S : SE} {X : MX} {q : Int64} {k5 : Int64 → Int32 → Mem → Option Int64} {a3 : Int64} {a5 : Int32} {M : Mem} (C : CX S X cX11_mixTexts 6 RX11 2) (K : RT S X (some .long) (some (.long q)) M) (hk5 : ∀ (a3 : Int64) (a5 : Int32), k5 a3 a5 M = some q → V S X 6 M 5 [(0, .ref (S.2.1 0)), (3, .long a3), (5, .int a5)] []) (h : f_U_mixTexts_l5B k5 a3 a5 M = some q) : V S X 6 M 5 [(0, .ref (S.2.1 0)), (3, .long a3), (5, .int a5)] [] := by
  unfold f_U_mixTexts_l5B at h
  refine v_iload C 2 dX11_mixTexts_5 rfl ?_
  refine v_iconst C 3 dX11_mixTexts_7 rfl ?_
  refine v_icmp_ge C 28 dX11_mixTexts_8 (by decide) (fun c15 => ?_) (fun c15 => ?_)
  · replace h := (ite_h h).1 c15
    refine v_iconst C 0 dX11_mixTexts_28 rfl ?_
    refine v_istore C [(5, .int 0), (0, .ref (S.2.1 0)), (3, .long a3)] dX11_mixTexts_29 (by decide) rfl ?_
    refine v_sub [1, 2, 0] rfl ?_
    exact v_U_mixTexts_l31 C K FU _ _ h
  · replace h := (ite_h h).2 c15
    refine v_lload_n C 1 dX11_mixTexts_11 rfl ?_
    refine v_aload_n C 0 dX11_mixTexts_12 rfl ?_
    refine v_iload C 2 dX11_mixTexts_13 rfl ?_
    refine cv11 C [.long a3] kk0 (m_U_fault C.inj M a5 _ rfl) ci_U_fault rfl lk_X11_278 (by decide) rfl rfl (Nat.le_of_ble_eq_true rfl) dX11_mixTexts_15 ?_
    refine cs C [] (m_U_mix C.inj M a3 (f_U_fault M a5) _ rfl) ci_U_mix lk_X11_228 (by decide) rfl rfl (Nat.le_of_ble_eq_true rfl) dX11_mixTexts_18 ?_
    refine v_nml h (fun y14 h => ?_)
    refine v_lstore_n C [(3, .long y14), (0, .ref (S.2.1 0)), (5, .int a5)] dX11_mixTexts_21 (by decide) rfl ?_
    refine v_iinc C [(5, .int (a5 + 1)), (3, .long y14), (0, .ref (S.2.1 0))] 2 (a5 + 1) dX11_mixTexts_22 rfl rfl (by decide) rfl ?_
    refine v_goto C 5 dX11_mixTexts_25 (by decide) ?_
    refine v_sub [2, 1, 0] rfl ?_
    exact hk5 _ _ h
def f_U_mixTexts_l5 : Nat → Int64 → Int32 → Mem → Option Int64
  | 0, _, _, _ => none
  | n + 1, a3, a5, M => f_U_mixTexts_l5B (f_U_mixTexts_l5 n) a3 a5 M
theorem v_U_mixTexts_l5 {S : SE} {X : MX} {q : Int64} {M : Mem} (C : CX S X cX11_mixTexts 6 RX11 2) (K : RT S X (some .long) (some (.long q)) M) : ∀ (n : Nat) (a3 : Int64) (a5 : Int32), f_U_mixTexts_l5 n a3 a5 M = some q → V S X 6 M 5 [(0, .ref (S.2.1 0)), (3, .long a3), (5, .int a5)] [] := by
  intro n
  induction n with
  | zero => intro a3 a5 h; cases h
  | succ n ih => intro a3 a5 h; exact v_U_mixTexts_l5B C K ih h
def f_U_mixTexts (M : Mem) (a1 : Int64) : Option Int64 :=
  f_U_mixTexts_l5 FU a1 0 M
set_option maxRecDepth 20000 in
theorem v_U_mixTexts {S : SE} {X : MX} {q : Int64} {M : Mem} {a1 : Int64} (C : CX S X cX11_mixTexts 6 RX11 2) (K : RT S X (some .long) (some (.long q)) M) (h : f_U_mixTexts M a1 = some q) : V S X 6 M 0 [(0, .ref (S.2.1 0)), (1, .long a1)] [] := by
  unfold f_U_mixTexts at h
  refine v_lload_n C 1 dX11_mixTexts_0 rfl ?_
  refine v_lstore_n C [(3, .long a1), (0, .ref (S.2.1 0)), (1, .long a1)] dX11_mixTexts_1 (by decide) rfl ?_
  refine v_iconst C 0 dX11_mixTexts_2 rfl ?_
  refine v_istore C [(5, .int 0), (3, .long a1), (0, .ref (S.2.1 0)), (1, .long a1)] dX11_mixTexts_3 (by decide) rfl ?_
  refine v_sub [2, 1, 0] rfl ?_
  exact v_U_mixTexts_l5 C K FU _ _ h
theorem m_U_mixTexts {S : SE} (hI : Inj S) (M : Mem) (a1 : Int64) (q : Int64) (h : f_U_mixTexts M a1 = some q) : CM S yX11_mixTexts cX11_mixTexts 6 (some .long) 2 [.ref (S.2.1 0), .long a1] M (some (.long q)) M :=
  CM.of [(0, .ref (S.2.1 0)), (1, .long a1)] hI (by decide) rfl (Nat.le_of_ble_eq_true rfl) (fun X C K => v_U_mixTexts C K  h)
def f_U_mixAnswers_l13B (a3 : Nat) (k13 : Int64 → Int32 → Mem → Option Int64) (a4 : Int64) (a6 : Int32) (M : Mem) : Option Int64 :=
  if (f_U_hosts M) ≤ a6 then
    some a4
  else
    (f_Report_answerOf a3 M a6).bind fun q2 =>
    bnd (f_U_mix a4 q2) fun y3 =>
    k13 y3 (a6 + 1) M
set_option maxRecDepth 20000 in
theorem v_U_mixAnswers_l13B {S : SE} {X : MX} {q : Int64} {a3 : Nat} {k13 : Int64 → Int32 → Mem → Option Int64} {a4 : Int64} {a6 : Int32} {M : Mem} (C : CX S X cX11_mixAnswers 7 RX11 1) (K : RT S X (some .long) (some (.long q)) M) (ha3 : kd a3 = 4) (hk13 : ∀ (a4 : Int64) (a6 : Int32), k13 a4 a6 M = some q → V S X 7 M 13 [(0, .ref (S.2.1 0)), (3, .ref (S.2.1 a3)), (4, .long a4), (6, .int a6)] []) (h : f_U_mixAnswers_l13B a3 k13 a4 a6 M = some q) : V S X 7 M 13 [(0, .ref (S.2.1 0)), (3, .ref (S.2.1 a3)), (4, .long a4), (6, .int a6)] [] := by
  unfold f_U_mixAnswers_l13B at h
  refine v_iload C 3 dX11_mixAnswers_13 rfl ?_
  refine v_aload_n C 0 dX11_mixAnswers_15 rfl ?_
  refine cv11 C [.int a6] kk0 (m_U_hosts C.inj M _ rfl) ci_U_hosts rfl lk_X11_128 (by decide) rfl rfl (Nat.le_of_ble_eq_true rfl) dX11_mixAnswers_16 ?_
  refine v_icmp_ge C 41 dX11_mixAnswers_19 (by decide) (fun c4 => ?_) (fun c4 => ?_)
  · replace h := (ite_h h).1 c4
    refine v_lload C 2 dX11_mixAnswers_41 rfl ?_
    obtain rfl := Option.some.inj h
    exact v_lret C K dX11_mixAnswers_43
  · replace h := (ite_h h).2 c4
    refine v_lload C 2 dX11_mixAnswers_22 rfl ?_
    refine v_aload_n C 1 dX11_mixAnswers_24 rfl ?_
    refine v_iload C 3 dX11_mixAnswers_25 rfl ?_
    obtain ⟨q2, hq2, h⟩ := Option.bind_eq_some_iff.mp h
    refine cv4 C [.long a4] ha3 (m_Report_answerOf C.inj a3 ha3 M a6 q2 hq2) ci_Report_answerOf rfl lk_X11_132 (by decide) rfl rfl (Nat.le_of_ble_eq_true rfl) dX11_mixAnswers_27 ?_
    refine cs C [] (m_U_mix C.inj M a4 q2 _ rfl) ci_U_mix lk_X11_228 (by decide) rfl rfl (Nat.le_of_ble_eq_true rfl) dX11_mixAnswers_30 ?_
    refine v_nml h (fun y3 h => ?_)
    refine v_lstore C [(4, .long y3), (0, .ref (S.2.1 0)), (3, .ref (S.2.1 a3)), (6, .int a6)] dX11_mixAnswers_33 (by decide) rfl ?_
    refine v_iinc C [(6, .int (a6 + 1)), (4, .long y3), (0, .ref (S.2.1 0)), (3, .ref (S.2.1 a3))] 3 (a6 + 1) dX11_mixAnswers_35 rfl rfl (by decide) rfl ?_
    refine v_goto C 13 dX11_mixAnswers_38 (by decide) ?_
    refine v_sub [2, 3, 1, 0] rfl ?_
    exact hk13 _ _ h
def f_U_mixAnswers_l13 (a3 : Nat) : Nat → Int64 → Int32 → Mem → Option Int64
  | 0, _, _, _ => none
  | n + 1, a4, a6, M => f_U_mixAnswers_l13B a3 (f_U_mixAnswers_l13 a3 n) a4 a6 M
theorem v_U_mixAnswers_l13 {S : SE} {X : MX} {q : Int64} {a3 : Nat} {M : Mem} (C : CX S X cX11_mixAnswers 7 RX11 1) (K : RT S X (some .long) (some (.long q)) M) (ha3 : kd a3 = 4) : ∀ (n : Nat) (a4 : Int64) (a6 : Int32), f_U_mixAnswers_l13 a3 n a4 a6 M = some q → V S X 7 M 13 [(0, .ref (S.2.1 0)), (3, .ref (S.2.1 a3)), (4, .long a4), (6, .int a6)] [] := by
  intro n
  induction n with
  | zero => intro a4 a6 h; cases h
  | succ n ih => intro a4 a6 h; exact v_U_mixAnswers_l13B C K ha3 ih h
def f_U_mixAnswers (a3 : Nat) (M : Mem) (a1 : Int64) : Option Int64 :=
  bnd (f_U_mix a1 (M a3 4)) fun y1 =>
  f_U_mixAnswers_l13 a3 FU y1 0 M
set_option maxRecDepth 20000 in
theorem v_U_mixAnswers {S : SE} {X : MX} {q : Int64} {a3 : Nat} {M : Mem} {a1 : Int64} (C : CX S X cX11_mixAnswers 7 RX11 1) (K : RT S X (some .long) (some (.long q)) M) (ha3 : kd a3 = 4) (h : f_U_mixAnswers a3 M a1 = some q) : V S X 7 M 0 [(0, .ref (S.2.1 0)), (1, .long a1), (3, .ref (S.2.1 a3))] [] := by
  unfold f_U_mixAnswers at h
  refine v_lload_n C 1 dX11_mixAnswers_0 rfl ?_
  refine v_aload_n C 2 dX11_mixAnswers_1 rfl ?_
  refine g_Report_error C ha3 fl_X11_123 dX11_mixAnswers_2 ?_
  refine cs C [] (m_U_mix C.inj M a1 (M a3 4) _ rfl) ci_U_mix lk_X11_228 (by decide) rfl rfl (Nat.le_of_ble_eq_true rfl) dX11_mixAnswers_5 ?_
  refine v_nml h (fun y1 h => ?_)
  refine v_lstore C [(4, .long y1), (0, .ref (S.2.1 0)), (1, .long a1), (3, .ref (S.2.1 a3))] dX11_mixAnswers_8 (by decide) rfl ?_
  refine v_iconst C 0 dX11_mixAnswers_10 rfl ?_
  refine v_istore C [(6, .int 0), (4, .long y1), (0, .ref (S.2.1 0)), (1, .long a1), (3, .ref (S.2.1 a3))] dX11_mixAnswers_11 (by decide) rfl ?_
  refine v_sub [2, 4, 1, 0] rfl ?_
  exact v_U_mixAnswers_l13 C K ha3 FU _ _ h
theorem m_U_mixAnswers {S : SE} (hI : Inj S) (a3 : Nat) (ha3 : kd a3 = 4) (M : Mem) (a1 : Int64) (q : Int64) (h : f_U_mixAnswers a3 M a1 = some q) : CM S yX11_mixAnswers cX11_mixAnswers 7 (some .long) 1 [.ref (S.2.1 0), .long a1, .ref (S.2.1 a3)] M (some (.long q)) M :=
  CM.of [(0, .ref (S.2.1 0)), (1, .long a1), (3, .ref (S.2.1 a3))] hI (by decide) rfl (Nat.le_of_ble_eq_true rfl) (fun X C K => v_U_mixAnswers C K ha3 h)
def f_U_mixReport_l39B (a3 : Nat) (k39 : Int64 → Int32 → Mem → Option Int64) (a4 : Int64) (a6 : Int32) (M : Mem) : Option Int64 :=
  if 60 ≤ a6 then
    some a4
  else
    (f_Report_loggedAt a3 M a6).bind fun q2 =>
    bnd (f_U_mix a4 q2) fun y3 =>
    k39 y3 (a6 + 1) M
set_option maxRecDepth 20000 in
theorem v_U_mixReport_l39B {S : SE} {X : MX} {q : Int64} {a3 : Nat} {k39 : Int64 → Int32 → Mem → Option Int64} {a4 : Int64} {a6 : Int32} {M : Mem} (C : CX S X cX11_mixReport 7 RX11 2) (K : RT S X (some .long) (some (.long q)) M) (ha3 : kd a3 = 4) (hk39 : ∀ (a4 : Int64) (a6 : Int32), k39 a4 a6 M = some q → V S X 7 M 39 [(3, .ref (S.2.1 a3)), (4, .long a4), (6, .int a6)] []) (h : f_U_mixReport_l39B a3 k39 a4 a6 M = some q) : V S X 7 M 39 [(3, .ref (S.2.1 a3)), (4, .long a4), (6, .int a6)] [] := by
  unfold f_U_mixReport_l39B at h
  refine v_iload C 2 dX11_mixReport_39 rfl ?_
  refine v_bipush C 60 dX11_mixReport_41 rfl ?_
  refine v_icmp_ge C 65 dX11_mixReport_43 (by decide) (fun c4 => ?_) (fun c4 => ?_)
  · replace h := (ite_h h).1 c4
    refine v_lload C 1 dX11_mixReport_65 rfl ?_
    obtain rfl := Option.some.inj h
    exact v_lret C K dX11_mixReport_67
  · replace h := (ite_h h).2 c4
    refine v_lload C 1 dX11_mixReport_46 rfl ?_
    refine v_aload_n C 0 dX11_mixReport_48 rfl ?_
    refine v_iload C 2 dX11_mixReport_49 rfl ?_
    obtain ⟨q2, hq2, h⟩ := Option.bind_eq_some_iff.mp h
    refine cv4 C [.long a4] ha3 (m_Report_loggedAt C.inj a3 ha3 M a6 q2 hq2) ci_Report_loggedAt rfl lk_X11_171 (by decide) rfl rfl (Nat.le_of_ble_eq_true rfl) dX11_mixReport_51 ?_
    refine cs C [] (m_U_mix C.inj M a4 q2 _ rfl) ci_U_mix lk_X11_228 (by decide) rfl rfl (Nat.le_of_ble_eq_true rfl) dX11_mixReport_54 ?_
    refine v_nml h (fun y3 h => ?_)
    refine v_lstore C [(4, .long y3), (3, .ref (S.2.1 a3)), (6, .int a6)] dX11_mixReport_57 (by decide) rfl ?_
    refine v_iinc C [(6, .int (a6 + 1)), (4, .long y3), (3, .ref (S.2.1 a3))] 2 (a6 + 1) dX11_mixReport_59 rfl rfl (by decide) rfl ?_
    refine v_goto C 39 dX11_mixReport_62 (by decide) ?_
    refine v_sub [2, 1, 0] rfl ?_
    exact hk39 _ _ h
def f_U_mixReport_l39 (a3 : Nat) : Nat → Int64 → Int32 → Mem → Option Int64
  | 0, _, _, _ => none
  | n + 1, a4, a6, M => f_U_mixReport_l39B a3 (f_U_mixReport_l39 a3 n) a4 a6 M
theorem v_U_mixReport_l39 {S : SE} {X : MX} {q : Int64} {a3 : Nat} {M : Mem} (C : CX S X cX11_mixReport 7 RX11 2) (K : RT S X (some .long) (some (.long q)) M) (ha3 : kd a3 = 4) : ∀ (n : Nat) (a4 : Int64) (a6 : Int32), f_U_mixReport_l39 a3 n a4 a6 M = some q → V S X 7 M 39 [(3, .ref (S.2.1 a3)), (4, .long a4), (6, .int a6)] [] := by
  intro n
  induction n with
  | zero => intro a4 a6 h; cases h
  | succ n ih => intro a4 a6 h; exact v_U_mixReport_l39B C K ha3 ih h
def f_U_mixReport_l11B (a3 : Nat) (k11 : Int64 → Int32 → Mem → Option Int64) (a4 : Int64) (a6 : Int32) (M : Mem) : Option Int64 :=
  if 5 ≤ a6 then
    f_U_mixReport_l39 a3 FU a4 0 M
  else
    bnd (f_U_mix a4 (f_Report_costOf a3 M a6)) fun y5 =>
    k11 y5 (a6 + 1) M
set_option maxRecDepth 20000 in
theorem v_U_mixReport_l11B {S : SE} {X : MX} {q : Int64} {a3 : Nat} {k11 : Int64 → Int32 → Mem → Option Int64} {a4 : Int64} {a6 : Int32} {M : Mem} (C : CX S X cX11_mixReport 7 RX11 2) (K : RT S X (some .long) (some (.long q)) M) (ha3 : kd a3 = 4) (hk11 : ∀ (a4 : Int64) (a6 : Int32), k11 a4 a6 M = some q → V S X 7 M 11 [(3, .ref (S.2.1 a3)), (4, .long a4), (6, .int a6)] []) (h : f_U_mixReport_l11B a3 k11 a4 a6 M = some q) : V S X 7 M 11 [(3, .ref (S.2.1 a3)), (4, .long a4), (6, .int a6)] [] := by
  unfold f_U_mixReport_l11B at h
  refine v_iload C 2 dX11_mixReport_11 rfl ?_
  refine v_iconst C 5 dX11_mixReport_13 rfl ?_
  refine v_icmp_ge C 36 dX11_mixReport_14 (by decide) (fun c6 => ?_) (fun c6 => ?_)
  · replace h := (ite_h h).1 c6
    refine v_iconst C 0 dX11_mixReport_36 rfl ?_
    refine v_istore C [(6, .int 0), (3, .ref (S.2.1 a3)), (4, .long a4)] dX11_mixReport_37 (by decide) rfl ?_
    refine v_sub [1, 2, 0] rfl ?_
    exact v_U_mixReport_l39 C K ha3 FU _ _ h
  · replace h := (ite_h h).2 c6
    refine v_lload C 1 dX11_mixReport_17 rfl ?_
    refine v_aload_n C 0 dX11_mixReport_19 rfl ?_
    refine v_iload C 2 dX11_mixReport_20 rfl ?_
    refine cv4 C [.long a4] ha3 (m_Report_costOf C.inj a3 ha3 M a6 _ rfl) ci_Report_costOf rfl lk_X11_168 (by decide) rfl rfl (Nat.le_of_ble_eq_true rfl) dX11_mixReport_22 ?_
    refine cs C [] (m_U_mix C.inj M a4 (f_Report_costOf a3 M a6) _ rfl) ci_U_mix lk_X11_228 (by decide) rfl rfl (Nat.le_of_ble_eq_true rfl) dX11_mixReport_25 ?_
    refine v_nml h (fun y5 h => ?_)
    refine v_lstore C [(4, .long y5), (3, .ref (S.2.1 a3)), (6, .int a6)] dX11_mixReport_28 (by decide) rfl ?_
    refine v_iinc C [(6, .int (a6 + 1)), (4, .long y5), (3, .ref (S.2.1 a3))] 2 (a6 + 1) dX11_mixReport_30 rfl rfl (by decide) rfl ?_
    refine v_goto C 11 dX11_mixReport_33 (by decide) ?_
    refine v_sub [2, 1, 0] rfl ?_
    exact hk11 _ _ h
def f_U_mixReport_l11 (a3 : Nat) : Nat → Int64 → Int32 → Mem → Option Int64
  | 0, _, _, _ => none
  | n + 1, a4, a6, M => f_U_mixReport_l11B a3 (f_U_mixReport_l11 a3 n) a4 a6 M
theorem v_U_mixReport_l11 {S : SE} {X : MX} {q : Int64} {a3 : Nat} {M : Mem} (C : CX S X cX11_mixReport 7 RX11 2) (K : RT S X (some .long) (some (.long q)) M) (ha3 : kd a3 = 4) : ∀ (n : Nat) (a4 : Int64) (a6 : Int32), f_U_mixReport_l11 a3 n a4 a6 M = some q → V S X 7 M 11 [(3, .ref (S.2.1 a3)), (4, .long a4), (6, .int a6)] [] := by
  intro n
  induction n with
  | zero => intro a4 a6 h; cases h
  | succ n ih => intro a4 a6 h; exact v_U_mixReport_l11B C K ha3 ih h
def f_U_mixReport (a3 : Nat) (M : Mem) (a1 : Int64) : Option Int64 :=
  (f_U_mixAnswers a3 M a1).bind fun q1 =>
  f_U_mixReport_l11 a3 FU q1 0 M
set_option maxRecDepth 20000 in
theorem v_U_mixReport {S : SE} {X : MX} {q : Int64} {a3 : Nat} {M : Mem} {a1 : Int64} (C : CX S X cX11_mixReport 7 RX11 2) (K : RT S X (some .long) (some (.long q)) M) (ha3 : kd a3 = 4) (h : f_U_mixReport a3 M a1 = some q) : V S X 7 M 0 [(0, .ref (S.2.1 0)), (1, .long a1), (3, .ref (S.2.1 a3))] [] := by
  unfold f_U_mixReport at h
  refine v_aload_n C 0 dX11_mixReport_0 rfl ?_
  refine v_lload_n C 1 dX11_mixReport_1 rfl ?_
  refine v_aload_n C 2 dX11_mixReport_2 rfl ?_
  obtain ⟨q1, hq1, h⟩ := Option.bind_eq_some_iff.mp h
  refine cv11 C [] kk0 (m_U_mixAnswers C.inj a3 ha3 M a1 q1 hq1) ci_U_mixAnswers rfl lk_X11_287 (by decide) rfl rfl (Nat.le_of_ble_eq_true rfl) dX11_mixReport_3 ?_
  refine v_lstore C [(4, .long q1), (0, .ref (S.2.1 0)), (1, .long a1), (3, .ref (S.2.1 a3))] dX11_mixReport_6 (by decide) rfl ?_
  refine v_iconst C 0 dX11_mixReport_8 rfl ?_
  refine v_istore C [(6, .int 0), (4, .long q1), (0, .ref (S.2.1 0)), (1, .long a1), (3, .ref (S.2.1 a3))] dX11_mixReport_9 (by decide) rfl ?_
  refine v_sub [4, 1, 0] rfl ?_
  exact v_U_mixReport_l11 C K ha3 FU _ _ h
theorem m_U_mixReport {S : SE} (hI : Inj S) (a3 : Nat) (ha3 : kd a3 = 4) (M : Mem) (a1 : Int64) (q : Int64) (h : f_U_mixReport a3 M a1 = some q) : CM S yX11_mixReport cX11_mixReport 7 (some .long) 2 [.ref (S.2.1 0), .long a1, .ref (S.2.1 a3)] M (some (.long q)) M :=
  CM.of [(0, .ref (S.2.1 0)), (1, .long a1), (3, .ref (S.2.1 a3))] hI (by decide) rfl (Nat.le_of_ble_eq_true rfl) (fun X C K => v_U_mixReport C K ha3 h)
def f_U_mixEnds_l5B (k5 : Int64 → Int32 → Mem → Option (Int64 × Mem)) (a3 : Int64) (a5 : Int32) (M : Mem) : Option (Int64 × Mem) :=
  if 9 ≤ a5 then
    some (a3, M)
  else
    (f_Run_askRowByRow 79 M a5 (-1)).bind fun q1 =>
    (f_U_mixAnswers 87 q1 a3).bind fun q2 =>
    (f_Run_askFree 79 q1 a5).bind fun q3 =>
    (f_U_mixAnswers 87 q3 q2).bind fun q4 =>
    k5 q4 (a5 + 1) q3
set_option maxRecDepth 20000 in
theorem v_U_mixEnds_l5B {S : SE} {X : MX} {q : (Int64 × Mem)} {k5 : Int64 → Int32 → Mem → Option (Int64 × Mem)} {a3 : Int64} {a5 : Int32} {M : Mem} (C : CX S X cX11_mixEnds 6 RX11 6) (K : RT S X (some .long) (some (.long q.1)) q.2) (hk5 : ∀ (a3 : Int64) (a5 : Int32) (M : Mem), k5 a3 a5 M = some q → V S X 6 M 5 [(0, .ref (S.2.1 0)), (3, .long a3), (5, .int a5)] []) (h : f_U_mixEnds_l5B k5 a3 a5 M = some q) : V S X 6 M 5 [(0, .ref (S.2.1 0)), (3, .long a3), (5, .int a5)] [] := by
  unfold f_U_mixEnds_l5B at h
  refine v_iload C 2 dX11_mixEnds_5 rfl ?_
  refine v_bipush C 9 dX11_mixEnds_7 rfl ?_
  refine v_icmp_ge C 71 dX11_mixEnds_9 (by decide) (fun c5 => ?_) (fun c5 => ?_)
  · replace h := (ite_h h).1 c5
    refine v_lload_n C 1 dX11_mixEnds_71 rfl ?_
    obtain rfl := Option.some.inj h
    exact v_lret C K dX11_mixEnds_72
  · replace h := (ite_h h).2 c5
    refine v_aload_n C 0 dX11_mixEnds_12 rfl ?_
    refine g_U_tried C kk0 fl_X11_58 dX11_mixEnds_13 ?_
    refine v_aload_n C 0 dX11_mixEnds_16 rfl ?_
    refine g_U_question C kk0 fl_X11_24 dX11_mixEnds_17 ?_
    refine v_iload C 2 dX11_mixEnds_20 rfl ?_
    refine v_iconst C (-1) dX11_mixEnds_22 rfl ?_
    obtain ⟨q1, hq1, h⟩ := Option.bind_eq_some_iff.mp h
    refine cv5v C [] kk79 (m_Run_askRowByRow C.inj 79 kk79 M a5 (-1) q1 hq1) ci_Run_askRowByRow rfl lk_X11_258 (by decide) rfl rfl (Nat.le_of_ble_eq_true rfl) dX11_mixEnds_23 ?_
    refine v_aload_n C 0 dX11_mixEnds_26 rfl ?_
    refine v_lload_n C 1 dX11_mixEnds_27 rfl ?_
    refine v_aload_n C 0 dX11_mixEnds_28 rfl ?_
    refine g_U_tried C kk0 fl_X11_58 dX11_mixEnds_29 ?_
    refine g_Run_report C kk79 fl_X11_119 dX11_mixEnds_32 ?_
    obtain ⟨q2, hq2, h⟩ := Option.bind_eq_some_iff.mp h
    refine cv11 C [] kk0 (m_U_mixAnswers C.inj 87 kk87 q1 a3 q2 hq2) ci_U_mixAnswers rfl lk_X11_287 (by decide) rfl rfl (Nat.le_of_ble_eq_true rfl) dX11_mixEnds_35 ?_
    refine v_lstore_n C [(3, .long q2), (0, .ref (S.2.1 0)), (5, .int a5)] dX11_mixEnds_38 (by decide) rfl ?_
    refine v_aload_n C 1 dX11_mixEnds_39 rfl ?_
    refine g_U_tried C kk0 fl_X11_58 dX11_mixEnds_40 ?_
    refine v_aload_n C 1 dX11_mixEnds_43 rfl ?_
    refine g_U_question C kk0 fl_X11_24 dX11_mixEnds_44 ?_
    refine v_iload C 2 dX11_mixEnds_47 rfl ?_
    obtain ⟨q3, hq3, h⟩ := Option.bind_eq_some_iff.mp h
    refine cv5v C [] kk79 (m_Run_askFree C.inj 79 kk79 q1 a5 q3 hq3) ci_Run_askFree rfl lk_X11_262 (by decide) rfl rfl (Nat.le_of_ble_eq_true rfl) dX11_mixEnds_49 ?_
    refine v_aload_n C 1 dX11_mixEnds_52 rfl ?_
    refine v_lload_n C 0 dX11_mixEnds_53 rfl ?_
    refine v_aload_n C 1 dX11_mixEnds_54 rfl ?_
    refine g_U_tried C kk0 fl_X11_58 dX11_mixEnds_55 ?_
    refine g_Run_report C kk79 fl_X11_119 dX11_mixEnds_58 ?_
    obtain ⟨q4, hq4, h⟩ := Option.bind_eq_some_iff.mp h
    refine cv11 C [] kk0 (m_U_mixAnswers C.inj 87 kk87 q3 q2 q4 hq4) ci_U_mixAnswers rfl lk_X11_287 (by decide) rfl rfl (Nat.le_of_ble_eq_true rfl) dX11_mixEnds_61 ?_
    refine v_lstore_n C [(3, .long q4), (0, .ref (S.2.1 0)), (5, .int a5)] dX11_mixEnds_64 (by decide) rfl ?_
    refine v_iinc C [(5, .int (a5 + 1)), (3, .long q4), (0, .ref (S.2.1 0))] 2 (a5 + 1) dX11_mixEnds_65 rfl rfl (by decide) rfl ?_
    refine v_goto C 5 dX11_mixEnds_68 (by decide) ?_
    refine v_sub [2, 1, 0] rfl ?_
    exact hk5 _ _ _ h
def f_U_mixEnds_l5 : Nat → Int64 → Int32 → Mem → Option (Int64 × Mem)
  | 0, _, _, _ => none
  | n + 1, a3, a5, M => f_U_mixEnds_l5B (f_U_mixEnds_l5 n) a3 a5 M
theorem v_U_mixEnds_l5 {S : SE} {X : MX} {q : (Int64 × Mem)} (C : CX S X cX11_mixEnds 6 RX11 6) (K : RT S X (some .long) (some (.long q.1)) q.2) : ∀ (n : Nat) (a3 : Int64) (a5 : Int32) (M : Mem), f_U_mixEnds_l5 n a3 a5 M = some q → V S X 6 M 5 [(0, .ref (S.2.1 0)), (3, .long a3), (5, .int a5)] [] := by
  intro n
  induction n with
  | zero => intro a3 a5 M h; cases h
  | succ n ih => intro a3 a5 M h; exact v_U_mixEnds_l5B C K ih h
def f_U_mixEnds (M : Mem) (a1 : Int64) : Option (Int64 × Mem) :=
  f_U_mixEnds_l5 FU a1 0 M
set_option maxRecDepth 20000 in
theorem v_U_mixEnds {S : SE} {X : MX} {q : (Int64 × Mem)} {M : Mem} {a1 : Int64} (C : CX S X cX11_mixEnds 6 RX11 6) (K : RT S X (some .long) (some (.long q.1)) q.2) (h : f_U_mixEnds M a1 = some q) : V S X 6 M 0 [(0, .ref (S.2.1 0)), (1, .long a1)] [] := by
  unfold f_U_mixEnds at h
  refine v_lload_n C 1 dX11_mixEnds_0 rfl ?_
  refine v_lstore_n C [(3, .long a1), (0, .ref (S.2.1 0)), (1, .long a1)] dX11_mixEnds_1 (by decide) rfl ?_
  refine v_iconst C 0 dX11_mixEnds_2 rfl ?_
  refine v_istore C [(5, .int 0), (3, .long a1), (0, .ref (S.2.1 0)), (1, .long a1)] dX11_mixEnds_3 (by decide) rfl ?_
  refine v_sub [2, 1, 0] rfl ?_
  exact v_U_mixEnds_l5 C K FU _ _ _ h
theorem m_U_mixEnds {S : SE} (hI : Inj S) (M : Mem) (a1 : Int64) (q : (Int64 × Mem)) (h : f_U_mixEnds M a1 = some q) : CM S yX11_mixEnds cX11_mixEnds 6 (some .long) 6 [.ref (S.2.1 0), .long a1] M (some (.long q.1)) q.2 :=
  CM.of [(0, .ref (S.2.1 0)), (1, .long a1)] hI (by decide) rfl (Nat.le_of_ble_eq_true rfl) (fun X C K => v_U_mixEnds C K  h)
def f_U_digest_l131B (k131 : Int64 → Int32 → Mem → Option (Int64 × Mem)) (a1 : Int64) (a3 : Int32) (M : Mem) : Option (Int64 × Mem) :=
  if 10 ≤ a3 then
    (f_U_mixEnds M a1).bind fun q14 =>
    some (q14.1, q14.2)
  else
    (f_U_pairPart M a3 0).bind fun q15 =>
    bnd (f_U_mix a1 q15) fun y16 =>
    (f_U_pairPart M a3 1).bind fun q17 =>
    bnd (f_U_mix y16 q17) fun y18 =>
    k131 y18 (a3 + 1) M
set_option maxRecDepth 20000 in
theorem v_U_digest_l131B {S : SE} {X : MX} {q : (Int64 × Mem)} {k131 : Int64 → Int32 → Mem → Option (Int64 × Mem)} {a1 : Int64} {a3 : Int32} {M : Mem} (C : CX S X cX11_digest 4 RX11 7) (K : RT S X (some .long) (some (.long q.1)) q.2) (hk131 : ∀ (a1 : Int64) (a3 : Int32) (M : Mem), k131 a1 a3 M = some q → V S X 4 M 131 [(0, .ref (S.2.1 0)), (1, .long a1), (3, .int a3)] []) (h : f_U_digest_l131B k131 a1 a3 M = some q) : V S X 4 M 131 [(0, .ref (S.2.1 0)), (1, .long a1), (3, .int a3)] [] := by
  unfold f_U_digest_l131B at h
  refine v_iload_n C 2 dX11_digest_131 rfl ?_
  refine v_bipush C 10 dX11_digest_132 rfl ?_
  refine v_icmp_ge C 165 dX11_digest_134 (by decide) (fun c19 => ?_) (fun c19 => ?_)
  · replace h := (ite_h h).1 c19
    refine v_aload_n C 0 dX11_digest_165 rfl ?_
    refine v_lload_n C 1 dX11_digest_166 rfl ?_
    obtain ⟨q14, hq14, h⟩ := Option.bind_eq_some_iff.mp h
    refine cv11 C [] kk0 (m_U_mixEnds C.inj M a1 q14 hq14) ci_U_mixEnds rfl lk_X11_243 (by decide) rfl rfl (Nat.le_of_ble_eq_true rfl) dX11_digest_167 ?_
    obtain rfl := Option.some.inj h
    exact v_lret C K dX11_digest_170
  · replace h := (ite_h h).2 c19
    refine v_lload_n C 1 dX11_digest_137 rfl ?_
    refine v_aload_n C 0 dX11_digest_138 rfl ?_
    refine v_iload_n C 2 dX11_digest_139 rfl ?_
    refine v_iconst C 0 dX11_digest_140 rfl ?_
    obtain ⟨q15, hq15, h⟩ := Option.bind_eq_some_iff.mp h
    refine cv11 C [.long a1] kk0 (m_U_pairPart C.inj M a3 0 q15 hq15) ci_U_pairPart rfl lk_X11_156 (by decide) rfl rfl (Nat.le_of_ble_eq_true rfl) dX11_digest_141 ?_
    refine cs C [] (m_U_mix C.inj M a1 q15 _ rfl) ci_U_mix lk_X11_228 (by decide) rfl rfl (Nat.le_of_ble_eq_true rfl) dX11_digest_144 ?_
    refine v_nml h (fun y16 h => ?_)
    refine v_lstore_n C [(1, .long y16), (0, .ref (S.2.1 0)), (3, .int a3)] dX11_digest_147 (by decide) rfl ?_
    refine v_lload_n C 0 dX11_digest_148 rfl ?_
    refine v_aload_n C 1 dX11_digest_149 rfl ?_
    refine v_iload_n C 2 dX11_digest_150 rfl ?_
    refine v_iconst C 1 dX11_digest_151 rfl ?_
    obtain ⟨q17, hq17, h⟩ := Option.bind_eq_some_iff.mp h
    refine cv11 C [.long y16] kk0 (m_U_pairPart C.inj M a3 1 q17 hq17) ci_U_pairPart rfl lk_X11_156 (by decide) rfl rfl (Nat.le_of_ble_eq_true rfl) dX11_digest_152 ?_
    refine cs C [] (m_U_mix C.inj M y16 q17 _ rfl) ci_U_mix lk_X11_228 (by decide) rfl rfl (Nat.le_of_ble_eq_true rfl) dX11_digest_155 ?_
    refine v_nml h (fun y18 h => ?_)
    refine v_lstore_n C [(1, .long y18), (0, .ref (S.2.1 0)), (3, .int a3)] dX11_digest_158 (by decide) rfl ?_
    refine v_iinc C [(3, .int (a3 + 1)), (1, .long y18), (0, .ref (S.2.1 0))] 2 (a3 + 1) dX11_digest_159 rfl rfl (by decide) rfl ?_
    refine v_goto C 131 dX11_digest_162 (by decide) ?_
    refine v_sub [2, 1, 0] rfl ?_
    exact hk131 _ _ _ h
def f_U_digest_l131 : Nat → Int64 → Int32 → Mem → Option (Int64 × Mem)
  | 0, _, _, _ => none
  | n + 1, a1, a3, M => f_U_digest_l131B (f_U_digest_l131 n) a1 a3 M
theorem v_U_digest_l131 {S : SE} {X : MX} {q : (Int64 × Mem)} (C : CX S X cX11_digest 4 RX11 7) (K : RT S X (some .long) (some (.long q.1)) q.2) : ∀ (n : Nat) (a1 : Int64) (a3 : Int32) (M : Mem), f_U_digest_l131 n a1 a3 M = some q → V S X 4 M 131 [(0, .ref (S.2.1 0)), (1, .long a1), (3, .int a3)] [] := by
  intro n
  induction n with
  | zero => intro a1 a3 M h; cases h
  | succ n ih => intro a1 a3 M h; exact v_U_digest_l131B C K ih h
def f_U_digest_l10B (k10 : Int64 → Int32 → Mem → Option (Int64 × Mem)) (a1 : Int64) (a3 : Int32) (M : Mem) : Option (Int64 × Mem) :=
  if 8 ≤ a3 then
    (f_U_mixTexts M a1).bind fun q2 =>
    (f_U_speaks M).bind fun q3 =>
    bnd (f_U_mix q2 q3) fun y4 =>
    bnd (f_U_mix y4 (M 71 3)) fun y5 =>
    (f_U_sameBit M).bind fun q6 =>
    bnd (f_U_mix y5 q6) fun y7 =>
    (f_Report_together 63 M (M 0 6) (f_U_hosts M)).bind fun q8 =>
    bnd (f_U_mix y7 q8) fun y9 =>
    (f_U_spareBits M).bind fun q10 =>
    bnd (f_U_mix y9 q10.1) fun y11 =>
    (f_U_mixReport 63 q10.2 y11).bind fun q12 =>
    (f_U_mixReport 75 q10.2 q12).bind fun q13 =>
    f_U_digest_l131 FU q13 0 q10.2
  else
    bnd (f_U_mix a1 (f_U_counted M a3)) fun y20 =>
    k10 y20 (a3 + 1) M
set_option maxRecDepth 20000 in
theorem v_U_digest_l10B {S : SE} {X : MX} {q : (Int64 × Mem)} {k10 : Int64 → Int32 → Mem → Option (Int64 × Mem)} {a1 : Int64} {a3 : Int32} {M : Mem} (C : CX S X cX11_digest 4 RX11 7) (K : RT S X (some .long) (some (.long q.1)) q.2) (hk10 : ∀ (a1 : Int64) (a3 : Int32) (M : Mem), k10 a1 a3 M = some q → V S X 4 M 10 [(0, .ref (S.2.1 0)), (1, .long a1), (3, .int a3)] []) (h : f_U_digest_l10B k10 a1 a3 M = some q) : V S X 4 M 10 [(0, .ref (S.2.1 0)), (1, .long a1), (3, .int a3)] [] := by
  unfold f_U_digest_l10B at h
  refine v_iload_n C 2 dX11_digest_10 rfl ?_
  refine v_bipush C 8 dX11_digest_11 rfl ?_
  refine v_icmp_ge C 32 dX11_digest_13 (by decide) (fun c21 => ?_) (fun c21 => ?_)
  · replace h := (ite_h h).1 c21
    refine v_aload_n C 0 dX11_digest_32 rfl ?_
    refine v_lload_n C 1 dX11_digest_33 rfl ?_
    obtain ⟨q2, hq2, h⟩ := Option.bind_eq_some_iff.mp h
    refine cv11 C [] kk0 (m_U_mixTexts C.inj M a1 q2 hq2) ci_U_mixTexts rfl lk_X11_232 (by decide) rfl rfl (Nat.le_of_ble_eq_true rfl) dX11_digest_34 ?_
    refine v_lstore_n C [(1, .long q2), (0, .ref (S.2.1 0)), (3, .int a3)] dX11_digest_37 (by decide) rfl ?_
    refine v_lload_n C 0 dX11_digest_38 rfl ?_
    refine v_aload_n C 1 dX11_digest_39 rfl ?_
    obtain ⟨q3, hq3, h⟩ := Option.bind_eq_some_iff.mp h
    refine cv11 C [.long q2] kk0 (m_U_speaks C.inj M q3 hq3) ci_U_speaks rfl lk_X11_236 (by decide) rfl rfl (Nat.le_of_ble_eq_true rfl) dX11_digest_40 ?_
    refine cs C [] (m_U_mix C.inj M q2 q3 _ rfl) ci_U_mix lk_X11_228 (by decide) rfl rfl (Nat.le_of_ble_eq_true rfl) dX11_digest_43 ?_
    refine v_nml h (fun y4 h => ?_)
    refine v_lstore_n C [(1, .long y4), (0, .ref (S.2.1 0)), (3, .int a3)] dX11_digest_46 (by decide) rfl ?_
    refine v_lload_n C 0 dX11_digest_47 rfl ?_
    refine v_aload_n C 1 dX11_digest_48 rfl ?_
    refine g_U_byFree C kk0 fl_X11_55 dX11_digest_49 ?_
    refine g_Run_pairs C kk67 fl_X11_149 dX11_digest_52 ?_
    refine g_Pairs_size C kk71 fl_X11_153 dX11_digest_55 ?_
    refine cs C [] (m_U_mix C.inj M y4 (M 71 3) _ rfl) ci_U_mix lk_X11_228 (by decide) rfl rfl (Nat.le_of_ble_eq_true rfl) dX11_digest_58 ?_
    refine v_nml h (fun y5 h => ?_)
    refine v_lstore_n C [(1, .long y5), (0, .ref (S.2.1 0)), (3, .int a3)] dX11_digest_61 (by decide) rfl ?_
    refine v_lload_n C 0 dX11_digest_62 rfl ?_
    refine v_aload_n C 1 dX11_digest_63 rfl ?_
    obtain ⟨q6, hq6, h⟩ := Option.bind_eq_some_iff.mp h
    refine cv11 C [.long y5] kk0 (m_U_sameBit C.inj M q6 hq6) ci_U_sameBit rfl lk_X11_136 (by decide) rfl rfl (Nat.le_of_ble_eq_true rfl) dX11_digest_64 ?_
    refine cs C [] (m_U_mix C.inj M y5 q6 _ rfl) ci_U_mix lk_X11_228 (by decide) rfl rfl (Nat.le_of_ble_eq_true rfl) dX11_digest_67 ?_
    refine v_nml h (fun y7 h => ?_)
    refine v_lstore_n C [(1, .long y7), (0, .ref (S.2.1 0)), (3, .int a3)] dX11_digest_70 (by decide) rfl ?_
    refine v_lload_n C 0 dX11_digest_71 rfl ?_
    refine v_aload_n C 1 dX11_digest_72 rfl ?_
    refine g_U_byRow C kk0 fl_X11_51 dX11_digest_73 ?_
    refine g_Run_report C kk55 fl_X11_119 dX11_digest_76 ?_
    refine v_aload_n C 1 dX11_digest_79 rfl ?_
    refine g_U_end C kk0 fl_X11_28 dX11_digest_80 ?_
    refine v_aload_n C 1 dX11_digest_83 rfl ?_
    refine cv11 C [.int (M 0 6), .ref (S.2.1 63), .long y7] kk0 (m_U_hosts C.inj M _ rfl) ci_U_hosts rfl lk_X11_128 (by decide) rfl rfl (Nat.le_of_ble_eq_true rfl) dX11_digest_84 ?_
    obtain ⟨q8, hq8, h⟩ := Option.bind_eq_some_iff.mp h
    refine cv4 C [.long y7] kk63 (m_Report_together C.inj 63 kk63 M (M 0 6) (f_U_hosts M) q8 hq8) ci_Report_together rfl lk_X11_139 (by decide) rfl rfl (Nat.le_of_ble_eq_true rfl) dX11_digest_87 ?_
    refine cs C [] (m_U_mix C.inj M y7 q8 _ rfl) ci_U_mix lk_X11_228 (by decide) rfl rfl (Nat.le_of_ble_eq_true rfl) dX11_digest_90 ?_
    refine v_nml h (fun y9 h => ?_)
    refine v_lstore_n C [(1, .long y9), (0, .ref (S.2.1 0)), (3, .int a3)] dX11_digest_93 (by decide) rfl ?_
    refine v_lload_n C 0 dX11_digest_94 rfl ?_
    refine v_aload_n C 1 dX11_digest_95 rfl ?_
    obtain ⟨q10, hq10, h⟩ := Option.bind_eq_some_iff.mp h
    refine cv11 C [.long y9] kk0 (m_U_spareBits C.inj M q10 hq10) ci_U_spareBits rfl lk_X11_174 (by decide) rfl rfl (Nat.le_of_ble_eq_true rfl) dX11_digest_96 ?_
    refine cs C [] (m_U_mix C.inj q10.2 y9 q10.1 _ rfl) ci_U_mix lk_X11_228 (by decide) rfl rfl (Nat.le_of_ble_eq_true rfl) dX11_digest_99 ?_
    refine v_nml h (fun y11 h => ?_)
    refine v_lstore_n C [(1, .long y11), (0, .ref (S.2.1 0)), (3, .int a3)] dX11_digest_102 (by decide) rfl ?_
    refine v_aload_n C 1 dX11_digest_103 rfl ?_
    refine v_lload_n C 0 dX11_digest_104 rfl ?_
    refine v_aload_n C 1 dX11_digest_105 rfl ?_
    refine g_U_byRow C kk0 fl_X11_51 dX11_digest_106 ?_
    refine g_Run_report C kk55 fl_X11_119 dX11_digest_109 ?_
    obtain ⟨q12, hq12, h⟩ := Option.bind_eq_some_iff.mp h
    refine cv11 C [] kk0 (m_U_mixReport C.inj 63 kk63 q10.2 y11 q12 hq12) ci_U_mixReport rfl lk_X11_239 (by decide) rfl rfl (Nat.le_of_ble_eq_true rfl) dX11_digest_112 ?_
    refine v_lstore_n C [(1, .long q12), (0, .ref (S.2.1 0)), (3, .int a3)] dX11_digest_115 (by decide) rfl ?_
    refine v_aload_n C 1 dX11_digest_116 rfl ?_
    refine v_lload_n C 0 dX11_digest_117 rfl ?_
    refine v_aload_n C 1 dX11_digest_118 rfl ?_
    refine g_U_byFree C kk0 fl_X11_55 dX11_digest_119 ?_
    refine g_Run_report C kk67 fl_X11_119 dX11_digest_122 ?_
    obtain ⟨q13, hq13, h⟩ := Option.bind_eq_some_iff.mp h
    refine cv11 C [] kk0 (m_U_mixReport C.inj 75 kk75 q10.2 q12 q13 hq13) ci_U_mixReport rfl lk_X11_239 (by decide) rfl rfl (Nat.le_of_ble_eq_true rfl) dX11_digest_125 ?_
    refine v_lstore_n C [(1, .long q13), (0, .ref (S.2.1 0)), (3, .int a3)] dX11_digest_128 (by decide) rfl ?_
    refine v_iconst C 0 dX11_digest_129 rfl ?_
    refine v_istore_n C [(3, .int 0), (1, .long q13), (0, .ref (S.2.1 0))] dX11_digest_130 (by decide) rfl ?_
    refine v_sub [2, 1, 0] rfl ?_
    exact v_U_digest_l131 C K FU _ _ _ h
  · replace h := (ite_h h).2 c21
    refine v_lload_n C 1 dX11_digest_16 rfl ?_
    refine v_aload_n C 0 dX11_digest_17 rfl ?_
    refine v_iload_n C 2 dX11_digest_18 rfl ?_
    refine cv11 C [.long a1] kk0 (m_U_counted C.inj M a3 _ rfl) ci_U_counted rfl lk_X11_223 (by decide) rfl rfl (Nat.le_of_ble_eq_true rfl) dX11_digest_19 ?_
    refine cs C [] (m_U_mix C.inj M a1 (f_U_counted M a3) _ rfl) ci_U_mix lk_X11_228 (by decide) rfl rfl (Nat.le_of_ble_eq_true rfl) dX11_digest_22 ?_
    refine v_nml h (fun y20 h => ?_)
    refine v_lstore_n C [(1, .long y20), (0, .ref (S.2.1 0)), (3, .int a3)] dX11_digest_25 (by decide) rfl ?_
    refine v_iinc C [(3, .int (a3 + 1)), (1, .long y20), (0, .ref (S.2.1 0))] 2 (a3 + 1) dX11_digest_26 rfl rfl (by decide) rfl ?_
    refine v_goto C 10 dX11_digest_29 (by decide) ?_
    refine v_sub [2, 1, 0] rfl ?_
    exact hk10 _ _ _ h
def f_U_digest_l10 : Nat → Int64 → Int32 → Mem → Option (Int64 × Mem)
  | 0, _, _, _ => none
  | n + 1, a1, a3, M => f_U_digest_l10B (f_U_digest_l10 n) a1 a3 M
theorem v_U_digest_l10 {S : SE} {X : MX} {q : (Int64 × Mem)} (C : CX S X cX11_digest 4 RX11 7) (K : RT S X (some .long) (some (.long q.1)) q.2) : ∀ (n : Nat) (a1 : Int64) (a3 : Int32) (M : Mem), f_U_digest_l10 n a1 a3 M = some q → V S X 4 M 10 [(0, .ref (S.2.1 0)), (1, .long a1), (3, .int a3)] [] := by
  intro n
  induction n with
  | zero => intro a1 a3 M h; cases h
  | succ n ih => intro a1 a3 M h; exact v_U_digest_l10B C K ih h
def f_U_digest (M : Mem) : Option (Int64 × Mem) :=
  (f_U_refresh M).bind fun q1 =>
  f_U_digest_l10 FU 17 0 q1
set_option maxRecDepth 20000 in
theorem v_U_digest {S : SE} {X : MX} {q : (Int64 × Mem)} {M : Mem} (C : CX S X cX11_digest 4 RX11 7) (K : RT S X (some .long) (some (.long q.1)) q.2) (h : f_U_digest M = some q) : V S X 4 M 0 [(0, .ref (S.2.1 0))] [] := by
  unfold f_U_digest at h
  refine v_aload_n C 0 dX11_digest_0 rfl ?_
  obtain ⟨q1, hq1, h⟩ := Option.bind_eq_some_iff.mp h
  refine cv11v C [] kk0 (m_U_refresh C.inj M q1 hq1) ci_U_refresh rfl lk_X11_112 (by decide) rfl rfl (Nat.le_of_ble_eq_true rfl) dX11_digest_1 ?_
  refine v_ldc2 C kc_X11_226 dX11_digest_4 ?_
  refine v_lstore_n C [(1, .long 17), (0, .ref (S.2.1 0))] dX11_digest_7 (by decide) rfl ?_
  refine v_iconst C 0 dX11_digest_8 rfl ?_
  refine v_istore_n C [(3, .int 0), (1, .long 17), (0, .ref (S.2.1 0))] dX11_digest_9 (by decide) rfl ?_
  refine v_sub [2, 1, 0] rfl ?_
  exact v_U_digest_l10 C K FU _ _ _ h
theorem m_U_digest {S : SE} (hI : Inj S) (M : Mem) (q : (Int64 × Mem)) (h : f_U_digest M = some q) : CM S yX11_digest cX11_digest 4 (some .long) 7 [.ref (S.2.1 0)] M (some (.long q.1)) q.2 :=
  CM.of [(0, .ref (S.2.1 0))] hI (by decide) rfl (Nat.le_of_ble_eq_true rfl) (fun X C K => v_U_digest C K  h)
