def f_Course_add (o : Nat) (M : Mem) (a1 : Int32) (a2 : Int32) : Option Mem :=
  if 14 ≤ (M o 2) then
    some M
  else
    if gin (M o 2) 14 then
      bnd (mset M (o + 1) (M o 2).toNatClampNeg a1) fun M2 =>
      if gin (M2 o 2) 14 then
        bnd (mset M2 (o + 2) (M2 o 2).toNatClampNeg a2) fun M4 =>
        bnd (mset M4 o 2 ((M4 o 2) + 1)) fun M5 =>
        some M5
      else none
    else none
set_option maxRecDepth 20000 in
theorem v_Course_add {S : SE} {X : MX} {q : Mem} {o : Nat} {M : Mem} {a1 : Int32} {a2 : Int32} (C : CX S X cX0_add 3 RX0 0) (K : RT S X none none q) (ho : kd o = 0) (h : f_Course_add o M a1 a2 = some q) : V S X 3 M 0 [(0, .ref (S.2.1 o)), (1, .int a1), (2, .int a2)] [] := by
  unfold f_Course_add at h
  refine v_aload_n C 0 dX0_add_0 rfl ?_
  refine g_Course_size C ho fl_X0_18 dX0_add_1 ?_
  refine v_bipush C 14 dX0_add_4 rfl ?_
  refine v_icmp_ge C 39 dX0_add_6 (by decide) (fun c6 => ?_) (fun c6 => ?_)
  · replace h := (ite_h h).1 c6
    obtain rfl := Option.some.inj h
    exact v_vret C K dX0_add_39
  · replace h := (ite_h h).2 c6
    refine v_aload_n C 0 dX0_add_9 rfl ?_
    refine g_Course_codes C ho fl_X0_9 dX0_add_10 ?_
    refine v_aload_n C 0 dX0_add_13 rfl ?_
    refine g_Course_size C ho fl_X0_18 dX0_add_14 ?_
    refine v_iload_n C 1 dX0_add_17 rfl ?_
    obtain ⟨g1, h⟩ := gd_h h
    refine v_iast C (kd_Course_codes ho) (ln_Course_codes ho) g1 dX0_add_18 ?_
    refine v_nmm h (fun M2 h => ?_)
    refine v_aload_n C 0 dX0_add_19 rfl ?_
    refine g_Course_figures C ho fl_X0_15 dX0_add_20 ?_
    refine v_aload_n C 0 dX0_add_23 rfl ?_
    refine g_Course_size C ho fl_X0_18 dX0_add_24 ?_
    refine v_iload_n C 2 dX0_add_27 rfl ?_
    obtain ⟨g3, h⟩ := gd_h h
    refine v_iast C (kd_Course_figures ho) (ln_Course_figures ho) g3 dX0_add_28 ?_
    refine v_nmm h (fun M4 h => ?_)
    refine v_aload_n C 0 dX0_add_29 rfl ?_
    refine v_dup C dX0_add_30 rfl ?_
    refine g_Course_size C ho fl_X0_18 dX0_add_31 ?_
    refine v_iconst C 1 dX0_add_34 rfl ?_
    refine v_iadd C dX0_add_35 ?_
    refine p_Course_size C ho fl_X0_18 dX0_add_36 ?_
    refine v_nmm h (fun M5 h => ?_)
    obtain rfl := Option.some.inj h
    exact v_vret C K dX0_add_39
theorem m_Course_add {S : SE} (hI : Inj S) (o : Nat) (ho : kd o = 0) (M : Mem) (a1 : Int32) (a2 : Int32) (q : Mem) (h : f_Course_add o M a1 a2 = some q) : CM S yX0_add cX0_add 3 none 0 [.ref (S.2.1 o), .int a1, .int a2] M none q :=
  CM.of [(0, .ref (S.2.1 o)), (1, .int a1), (2, .int a2)] hI (by decide) rfl (Nat.le_of_ble_eq_true rfl) (fun X C K => v_Course_add C K ho h)
def f_Course_begin (o : Nat) (M : Mem) : Option Mem :=
  bnd (mset M o 2 0) fun M1 =>
  bnd (mset M1 o 3 (-1)) fun M2 =>
  (f_Course_add o M2 0 (-1)).bind fun q3 =>
  some q3
set_option maxRecDepth 20000 in
theorem v_Course_begin {S : SE} {X : MX} {q : Mem} {o : Nat} {M : Mem} (C : CX S X cX0_begin 1 RX0 1) (K : RT S X none none q) (ho : kd o = 0) (h : f_Course_begin o M = some q) : V S X 1 M 0 [(0, .ref (S.2.1 o))] [] := by
  unfold f_Course_begin at h
  refine v_aload_n C 0 dX0_begin_0 rfl ?_
  refine v_iconst C 0 dX0_begin_1 rfl ?_
  refine p_Course_size C ho fl_X0_18 dX0_begin_2 ?_
  refine v_nmm h (fun M1 h => ?_)
  refine v_aload_n C 0 dX0_begin_5 rfl ?_
  refine v_iconst C (-1) dX0_begin_6 rfl ?_
  refine p_Course_joinAt C ho fl_X0_22 dX0_begin_7 ?_
  refine v_nmm h (fun M2 h => ?_)
  refine v_aload_n C 0 dX0_begin_10 rfl ?_
  refine v_iconst C 0 dX0_begin_11 rfl ?_
  refine v_iconst C (-1) dX0_begin_12 rfl ?_
  obtain ⟨q3, hq3, h⟩ := Option.bind_eq_some_iff.mp h
  refine cv0v C [] ho (m_Course_add C.inj o ho M2 0 (-1) q3 hq3) ci_Course_add rfl lk_X0_33 (by decide) rfl rfl (Nat.le_of_ble_eq_true rfl) dX0_begin_13 ?_
  obtain rfl := Option.some.inj h
  exact v_vret C K dX0_begin_16
theorem m_Course_begin {S : SE} (hI : Inj S) (o : Nat) (ho : kd o = 0) (M : Mem) (q : Mem) (h : f_Course_begin o M = some q) : CM S yX0_begin cX0_begin 1 none 1 [.ref (S.2.1 o)] M none q :=
  CM.of [(0, .ref (S.2.1 o))] hI (by decide) rfl (Nat.le_of_ble_eq_true rfl) (fun X C K => v_Course_begin C K ho h)
def f_Course_layRowByRow_b35 (o : Nat) (k6 : Int32 → Int32 → Mem → Option Mem) (a2 : Int32) (a3 : Int32) (M : Mem) : Option Mem :=
  k6 a2 (a3 + 1) M
set_option maxRecDepth 20000 in
theorem v_Course_layRowByRow_b35 {S : SE} {X : MX} {q : Mem} {o : Nat} {k6 : Int32 → Int32 → Mem → Option Mem} {a2 : Int32} {a3 : Int32} {M : Mem} (C : CX S X cX0_layRowByRow 4 RX0 2) (K : RT S X none none q) (ho : kd o = 0) (hk6 : ∀ (a2 : Int32) (a3 : Int32) (M : Mem), k6 a2 a3 M = some q → V S X 4 M 6 [(0, .ref (S.2.1 o)), (1, .ref (S.2.1 10)), (2, .int a2), (3, .int a3)] []) (h : f_Course_layRowByRow_b35 o k6 a2 a3 M = some q) : V S X 4 M 35 [(0, .ref (S.2.1 o)), (1, .ref (S.2.1 10)), (2, .int a2), (3, .int a3)] [] := by
  unfold f_Course_layRowByRow_b35 at h
  refine v_iinc C [(3, .int (a3 + 1)), (0, .ref (S.2.1 o)), (1, .ref (S.2.1 10)), (2, .int a2)] 3 (a3 + 1) dX0_layRowByRow_35 rfl rfl (by decide) rfl ?_
  refine v_goto C 6 dX0_layRowByRow_38 (by decide) ?_
  refine v_sub [1, 2, 3, 0] rfl ?_
  exact hk6 _ _ _ h
def f_Course_layRowByRow_l6B (o : Nat) (k6 : Int32 → Int32 → Mem → Option Mem) (a2 : Int32) (a3 : Int32) (M : Mem) : Option Mem :=
  if (M 10 2) ≤ a3 then
    some M
  else
    if a3 = a2 then
      f_Course_layRowByRow_b35 o k6 a2 a3 M
    else
      if gin a3 12 then
        if gin a3 12 then
          (f_Course_add o M (M 11 a3.toNatClampNeg) (M 12 a3.toNatClampNeg)).bind fun q4 =>
          f_Course_layRowByRow_b35 o k6 a2 a3 q4
        else none
      else none
set_option maxRecDepth 20000 in
theorem v_Course_layRowByRow_l6B {S : SE} {X : MX} {q : Mem} {o : Nat} {k6 : Int32 → Int32 → Mem → Option Mem} {a2 : Int32} {a3 : Int32} {M : Mem} (C : CX S X cX0_layRowByRow 4 RX0 2) (K : RT S X none none q) (ho : kd o = 0) (hk6 : ∀ (a2 : Int32) (a3 : Int32) (M : Mem), k6 a2 a3 M = some q → V S X 4 M 6 [(0, .ref (S.2.1 o)), (1, .ref (S.2.1 10)), (2, .int a2), (3, .int a3)] []) (h : f_Course_layRowByRow_l6B o k6 a2 a3 M = some q) : V S X 4 M 6 [(0, .ref (S.2.1 o)), (1, .ref (S.2.1 10)), (2, .int a2), (3, .int a3)] [] := by
  unfold f_Course_layRowByRow_l6B at h
  refine v_iload_n C 3 dX0_layRowByRow_6 rfl ?_
  refine v_aload_n C 1 dX0_layRowByRow_7 rfl ?_
  refine g_Steps_size C kk10 fl_X0_28 dX0_layRowByRow_8 ?_
  refine v_icmp_ge C 41 dX0_layRowByRow_11 (by decide) (fun c6 => ?_) (fun c6 => ?_)
  · replace h := (ite_h h).1 c6
    obtain rfl := Option.some.inj h
    exact v_vret C K dX0_layRowByRow_41
  · replace h := (ite_h h).2 c6
    refine v_iload_n C 3 dX0_layRowByRow_14 rfl ?_
    refine v_iload_n C 2 dX0_layRowByRow_15 rfl ?_
    refine v_icmp_eq C 35 dX0_layRowByRow_16 (by decide) (fun c5 => ?_) (fun c5 => ?_)
    · replace h := (ite_h h).1 c5
      exact v_Course_layRowByRow_b35 C K ho hk6 h
    · replace h := (ite_h h).2 c5
      refine v_aload_n C 0 dX0_layRowByRow_19 rfl ?_
      refine v_aload_n C 1 dX0_layRowByRow_20 rfl ?_
      refine g_Steps_codes C kk10 fl_X0_31 dX0_layRowByRow_21 ?_
      refine v_iload_n C 3 dX0_layRowByRow_24 rfl ?_
      obtain ⟨g2, h⟩ := gd_h h
      refine v_iald C kk11 ll11 g2 dX0_layRowByRow_25 ?_
      refine v_aload_n C 1 dX0_layRowByRow_26 rfl ?_
      refine g_Steps_figures C kk10 fl_X0_32 dX0_layRowByRow_27 ?_
      refine v_iload_n C 3 dX0_layRowByRow_30 rfl ?_
      obtain ⟨g3, h⟩ := gd_h h
      refine v_iald C kk12 ll12 g3 dX0_layRowByRow_31 ?_
      obtain ⟨q4, hq4, h⟩ := Option.bind_eq_some_iff.mp h
      refine cv0v C [] ho (m_Course_add C.inj o ho M (M 11 a3.toNatClampNeg) (M 12 a3.toNatClampNeg) q4 hq4) ci_Course_add rfl lk_X0_33 (by decide) rfl rfl (Nat.le_of_ble_eq_true rfl) dX0_layRowByRow_32 ?_
      exact v_Course_layRowByRow_b35 C K ho hk6 h
def f_Course_layRowByRow_l6 (o : Nat) : Nat → Int32 → Int32 → Mem → Option Mem
  | 0, _, _, _ => none
  | n + 1, a2, a3, M => f_Course_layRowByRow_l6B o (f_Course_layRowByRow_l6 o n) a2 a3 M
theorem v_Course_layRowByRow_l6 {S : SE} {X : MX} {q : Mem} {o : Nat} (C : CX S X cX0_layRowByRow 4 RX0 2) (K : RT S X none none q) (ho : kd o = 0) : ∀ (n : Nat) (a2 : Int32) (a3 : Int32) (M : Mem), f_Course_layRowByRow_l6 o n a2 a3 M = some q → V S X 4 M 6 [(0, .ref (S.2.1 o)), (1, .ref (S.2.1 10)), (2, .int a2), (3, .int a3)] [] := by
  intro n
  induction n with
  | zero => intro a2 a3 M h; cases h
  | succ n ih => intro a2 a3 M h; exact v_Course_layRowByRow_l6B C K ho ih h
def f_Course_layRowByRow (o : Nat) (M : Mem) (a2 : Int32) : Option Mem :=
  (f_Course_begin o M).bind fun q1 =>
  f_Course_layRowByRow_l6 o FU a2 0 q1
set_option maxRecDepth 20000 in
theorem v_Course_layRowByRow {S : SE} {X : MX} {q : Mem} {o : Nat} {M : Mem} {a2 : Int32} (C : CX S X cX0_layRowByRow 4 RX0 2) (K : RT S X none none q) (ho : kd o = 0) (h : f_Course_layRowByRow o M a2 = some q) : V S X 4 M 0 [(0, .ref (S.2.1 o)), (1, .ref (S.2.1 10)), (2, .int a2)] [] := by
  unfold f_Course_layRowByRow at h
  refine v_aload_n C 0 dX0_layRowByRow_0 rfl ?_
  obtain ⟨q1, hq1, h⟩ := Option.bind_eq_some_iff.mp h
  refine cv0v C [] ho (m_Course_begin C.inj o ho M q1 hq1) ci_Course_begin rfl lk_X0_25 (by decide) rfl rfl (Nat.le_of_ble_eq_true rfl) dX0_layRowByRow_1 ?_
  refine v_iconst C 0 dX0_layRowByRow_4 rfl ?_
  refine v_istore_n C [(3, .int 0), (0, .ref (S.2.1 o)), (1, .ref (S.2.1 10)), (2, .int a2)] dX0_layRowByRow_5 (by decide) rfl ?_
  refine v_sub [1, 2, 3, 0] rfl ?_
  exact v_Course_layRowByRow_l6 C K ho FU _ _ _ h
theorem m_Course_layRowByRow {S : SE} (hI : Inj S) (o : Nat) (ho : kd o = 0) (M : Mem) (a2 : Int32) (q : Mem) (h : f_Course_layRowByRow o M a2 = some q) : CM S yX0_layRowByRow cX0_layRowByRow 4 none 2 [.ref (S.2.1 o), .ref (S.2.1 10), .int a2] M none q :=
  CM.of [(0, .ref (S.2.1 o)), (1, .ref (S.2.1 10)), (2, .int a2)] hI (by decide) rfl (Nat.le_of_ble_eq_true rfl) (fun X C K => v_Course_layRowByRow C K ho h)
def f_Steps_speaksAt (M : Mem) (a1 : Int32) : Option Int32 :=
  if gin a1 12 then
    if 4 < (M 11 a1.toNatClampNeg) then
      some 0
    else
      some 1
  else none
set_option maxRecDepth 20000 in
theorem v_Steps_speaksAt {S : SE} {X : MX} {q : Int32} {M : Mem} {a1 : Int32} (C : CX S X cX7_speaksAt 2 RX7 0) (K : RT S X (some .boolean) (some (.int q)) M) (h : f_Steps_speaksAt M a1 = some q) : V S X 2 M 0 [(0, .ref (S.2.1 10)), (1, .int a1)] [] := by
  unfold f_Steps_speaksAt at h
  refine v_aload_n C 0 dX7_speaksAt_0 rfl ?_
  refine g_Steps_codes C kk10 fl_X7_9 dX7_speaksAt_1 ?_
  refine v_iload_n C 1 dX7_speaksAt_4 rfl ?_
  obtain ⟨g1, h⟩ := gd_h h
  refine v_iald C kk11 ll11 g1 dX7_speaksAt_5 ?_
  refine v_iconst C 4 dX7_speaksAt_6 rfl ?_
  refine v_icmp_gt C 14 dX7_speaksAt_7 (by decide) (fun c2 => ?_) (fun c2 => ?_)
  · replace h := (ite_h h).1 c2
    refine v_iconst C 0 dX7_speaksAt_14 rfl ?_
    obtain rfl := Option.some.inj h
    exact v_zret C (Or.inl rfl) K dX7_speaksAt_15
  · replace h := (ite_h h).2 c2
    refine v_iconst C 1 dX7_speaksAt_10 rfl ?_
    refine v_goto C 15 dX7_speaksAt_11 (by decide) ?_
    obtain rfl := Option.some.inj h
    exact v_zret C (Or.inr rfl) K dX7_speaksAt_15
theorem m_Steps_speaksAt {S : SE} (hI : Inj S) (M : Mem) (a1 : Int32) (q : Int32) (h : f_Steps_speaksAt M a1 = some q) : CM S yX7_speaksAt cX7_speaksAt 2 (some .boolean) 0 [.ref (S.2.1 10), .int a1] M (some (.int q)) M :=
  CM.of [(0, .ref (S.2.1 10)), (1, .int a1)] hI (by decide) rfl (Nat.le_of_ble_eq_true rfl) (fun X C K => v_Steps_speaksAt C K  h)
def f_Steps_firstSpeaking_l2B (k2 : Int32 → Mem → Option Int32) (a1 : Int32) (M : Mem) : Option Int32 :=
  if (M 10 2) ≤ a1 then
    some (-1)
  else
    (f_Steps_speaksAt M a1).bind fun q1 =>
    if q1 = 0 then
      k2 (a1 + 1) M
    else
      some a1
set_option maxRecDepth 20000 in
theorem v_Steps_firstSpeaking_l2B {S : SE} {X : MX} {q : Int32} {k2 : Int32 → Mem → Option Int32} {a1 : Int32} {M : Mem} (C : CX S X cX7_firstSpeaking 2 RX7 1) (K : RT S X (some .int) (some (.int q)) M) (hk2 : ∀ (a1 : Int32), k2 a1 M = some q → V S X 2 M 2 [(0, .ref (S.2.1 10)), (1, .int a1)] []) (h : f_Steps_firstSpeaking_l2B k2 a1 M = some q) : V S X 2 M 2 [(0, .ref (S.2.1 10)), (1, .int a1)] [] := by
  unfold f_Steps_firstSpeaking_l2B at h
  refine v_iload_n C 1 dX7_firstSpeaking_2 rfl ?_
  refine v_aload_n C 0 dX7_firstSpeaking_3 rfl ?_
  refine g_Steps_size C kk10 fl_X7_18 dX7_firstSpeaking_4 ?_
  refine v_icmp_ge C 26 dX7_firstSpeaking_7 (by decide) (fun c3 => ?_) (fun c3 => ?_)
  · replace h := (ite_h h).1 c3
    refine v_iconst C (-1) dX7_firstSpeaking_26 rfl ?_
    obtain rfl := Option.some.inj h
    exact v_iret C K dX7_firstSpeaking_27
  · replace h := (ite_h h).2 c3
    refine v_aload_n C 0 dX7_firstSpeaking_10 rfl ?_
    refine v_iload_n C 1 dX7_firstSpeaking_11 rfl ?_
    obtain ⟨q1, hq1, h⟩ := Option.bind_eq_some_iff.mp h
    refine cv7 C [] kk10 (m_Steps_speaksAt C.inj M a1 q1 hq1) ci_Steps_speaksAt rfl lk_X7_43 (by decide) rfl rfl (Nat.le_of_ble_eq_true rfl) dX7_firstSpeaking_12 ?_
    refine v_if_eq C 20 dX7_firstSpeaking_15 (by decide) (fun c2 => ?_) (fun c2 => ?_)
    · replace h := (ite_h h).1 c2
      refine v_iinc C [(1, .int (a1 + 1)), (0, .ref (S.2.1 10))] 1 (a1 + 1) dX7_firstSpeaking_20 rfl rfl (by decide) rfl ?_
      refine v_goto C 2 dX7_firstSpeaking_23 (by decide) ?_
      refine v_sub [1, 0] rfl ?_
      exact hk2 _ h
    · replace h := (ite_h h).2 c2
      refine v_iload_n C 1 dX7_firstSpeaking_18 rfl ?_
      obtain rfl := Option.some.inj h
      exact v_iret C K dX7_firstSpeaking_19
def f_Steps_firstSpeaking_l2 : Nat → Int32 → Mem → Option Int32
  | 0, _, _ => none
  | n + 1, a1, M => f_Steps_firstSpeaking_l2B (f_Steps_firstSpeaking_l2 n) a1 M
theorem v_Steps_firstSpeaking_l2 {S : SE} {X : MX} {q : Int32} {M : Mem} (C : CX S X cX7_firstSpeaking 2 RX7 1) (K : RT S X (some .int) (some (.int q)) M) : ∀ (n : Nat) (a1 : Int32), f_Steps_firstSpeaking_l2 n a1 M = some q → V S X 2 M 2 [(0, .ref (S.2.1 10)), (1, .int a1)] [] := by
  intro n
  induction n with
  | zero => intro a1 h; cases h
  | succ n ih => intro a1 h; exact v_Steps_firstSpeaking_l2B C K ih h
def f_Steps_firstSpeaking (M : Mem) : Option Int32 :=
  f_Steps_firstSpeaking_l2 FU 0 M
set_option maxRecDepth 20000 in
theorem v_Steps_firstSpeaking {S : SE} {X : MX} {q : Int32} {M : Mem} (C : CX S X cX7_firstSpeaking 2 RX7 1) (K : RT S X (some .int) (some (.int q)) M) (h : f_Steps_firstSpeaking M = some q) : V S X 2 M 0 [(0, .ref (S.2.1 10))] [] := by
  unfold f_Steps_firstSpeaking at h
  refine v_iconst C 0 dX7_firstSpeaking_0 rfl ?_
  refine v_istore_n C [(1, .int 0), (0, .ref (S.2.1 10))] dX7_firstSpeaking_1 (by decide) rfl ?_
  refine v_sub [1, 0] rfl ?_
  exact v_Steps_firstSpeaking_l2 C K FU _ h
theorem m_Steps_firstSpeaking {S : SE} (hI : Inj S) (M : Mem) (q : Int32) (h : f_Steps_firstSpeaking M = some q) : CM S yX7_firstSpeaking cX7_firstSpeaking 2 (some .int) 1 [.ref (S.2.1 10)] M (some (.int q)) M :=
  CM.of [(0, .ref (S.2.1 10))] hI (by decide) rfl (Nat.le_of_ble_eq_true rfl) (fun X C K => v_Steps_firstSpeaking C K  h)
def f_Course_addJoin (o : Nat) (M : Mem) (a1 : Int32) : Option Mem :=
  bnd (mset M o 3 (M o 2)) fun M1 =>
  (f_Course_add o M1 a1 (-1)).bind fun q2 =>
  some q2
set_option maxRecDepth 20000 in
theorem v_Course_addJoin {S : SE} {X : MX} {q : Mem} {o : Nat} {M : Mem} {a1 : Int32} (C : CX S X cX0_addJoin 2 RX0 1) (K : RT S X none none q) (ho : kd o = 0) (h : f_Course_addJoin o M a1 = some q) : V S X 2 M 0 [(0, .ref (S.2.1 o)), (1, .int a1)] [] := by
  unfold f_Course_addJoin at h
  refine v_aload_n C 0 dX0_addJoin_0 rfl ?_
  refine v_aload_n C 0 dX0_addJoin_1 rfl ?_
  refine g_Course_size C ho fl_X0_18 dX0_addJoin_2 ?_
  refine p_Course_joinAt C ho fl_X0_22 dX0_addJoin_5 ?_
  refine v_nmm h (fun M1 h => ?_)
  refine v_aload_n C 0 dX0_addJoin_8 rfl ?_
  refine v_iload_n C 1 dX0_addJoin_9 rfl ?_
  refine v_iconst C (-1) dX0_addJoin_10 rfl ?_
  obtain ⟨q2, hq2, h⟩ := Option.bind_eq_some_iff.mp h
  refine cv0v C [] ho (m_Course_add C.inj o ho M1 a1 (-1) q2 hq2) ci_Course_add rfl lk_X0_33 (by decide) rfl rfl (Nat.le_of_ble_eq_true rfl) dX0_addJoin_11 ?_
  obtain rfl := Option.some.inj h
  exact v_vret C K dX0_addJoin_14
theorem m_Course_addJoin {S : SE} (hI : Inj S) (o : Nat) (ho : kd o = 0) (M : Mem) (a1 : Int32) (q : Mem) (h : f_Course_addJoin o M a1 = some q) : CM S yX0_addJoin cX0_addJoin 2 none 1 [.ref (S.2.1 o), .int a1] M none q :=
  CM.of [(0, .ref (S.2.1 o)), (1, .int a1)] hI (by decide) rfl (Nat.le_of_ble_eq_true rfl) (fun X C K => v_Course_addJoin C K ho h)
def f_U_endSpeaks_b12 : Int32 :=
  1
set_option maxRecDepth 20000 in
theorem v_U_endSpeaks_b12 {S : SE} {X : MX} {q : Int32} {M : Mem} (C : CX S X cX11_endSpeaks 1 RX11 0) (K : RT S X (some .boolean) (some (.int q)) M) (h : f_U_endSpeaks_b12 = q) : V S X 1 M 12 [] [] := by
  unfold f_U_endSpeaks_b12 at h
  refine v_iconst C 1 dX11_endSpeaks_12 rfl ?_
  refine v_goto C 17 dX11_endSpeaks_13 (by decide) ?_
  subst h
  exact v_zret C (Or.inr rfl) K dX11_endSpeaks_17
def f_U_endSpeaks (a0 : Int32) : Int32 :=
  if a0 = 7 then
    f_U_endSpeaks_b12
  else
    if a0 = 8 then
      f_U_endSpeaks_b12
    else
      0
set_option maxRecDepth 20000 in
theorem v_U_endSpeaks {S : SE} {X : MX} {q : Int32} {M : Mem} {a0 : Int32} (C : CX S X cX11_endSpeaks 1 RX11 0) (K : RT S X (some .boolean) (some (.int q)) M) (h : f_U_endSpeaks a0 = q) : V S X 1 M 0 [(0, .int a0)] [] := by
  unfold f_U_endSpeaks at h
  refine v_iload_n C 0 dX11_endSpeaks_0 rfl ?_
  refine v_bipush C 7 dX11_endSpeaks_1 rfl ?_
  refine v_icmp_eq C 12 dX11_endSpeaks_3 (by decide) (fun c2 => ?_) (fun c2 => ?_)
  · replace h := (ite_h h).1 c2
    refine v_sub [] rfl ?_
    exact v_U_endSpeaks_b12 C K h
  · replace h := (ite_h h).2 c2
    refine v_iload_n C 0 dX11_endSpeaks_6 rfl ?_
    refine v_bipush C 8 dX11_endSpeaks_7 rfl ?_
    refine v_icmp_ne C 16 dX11_endSpeaks_9 (by decide) (fun c1 => ?_) (fun c1 => ?_)
    · replace h := (ite_h h).2 c1
      refine v_iconst C 0 dX11_endSpeaks_16 rfl ?_
      subst h
      exact v_zret C (Or.inl rfl) K dX11_endSpeaks_17
    · replace h := (ite_h h).1 c1
      refine v_sub [] rfl ?_
      exact v_U_endSpeaks_b12 C K h
theorem m_U_endSpeaks {S : SE} (hI : Inj S) (M : Mem) (a0 : Int32) (q : Int32) (h : f_U_endSpeaks a0 = q) : CM S yX11_endSpeaks cX11_endSpeaks 1 (some .boolean) 0 [.int a0] M (some (.int q)) M :=
  CM.of [(0, .int a0)] hI (by decide) rfl (Nat.le_of_ble_eq_true rfl) (fun X C K => v_U_endSpeaks C K  h)
theorem bz_U_endSpeaks (a0 : Int32) : f_U_endSpeaks a0 = 0 ∨ f_U_endSpeaks a0 = 1 := by unfold f_U_endSpeaks f_U_endSpeaks_b12; (repeat' split) <;> first | exact Or.inl rfl | exact Or.inr rfl
def f_Course_layFree_b90 (o : Nat) (k12 : Int32 → Int32 → Int32 → Mem → Option Mem) (a2 : Int32) (a3 : Int32) (a4 : Int32) (M : Mem) : Option Mem :=
  k12 a2 a3 (a4 + 1) M
set_option maxRecDepth 20000 in
theorem v_Course_layFree_b90 {S : SE} {X : MX} {q : Mem} {o : Nat} {k12 : Int32 → Int32 → Int32 → Mem → Option Mem} {a2 : Int32} {a3 : Int32} {a4 : Int32} {M : Mem} (C : CX S X cX0_layFree 6 RX0 2) (K : RT S X none none q) (ho : kd o = 0) (hk12 : ∀ (a2 : Int32) (a3 : Int32) (a4 : Int32) (M : Mem), k12 a2 a3 a4 M = some q → V S X 6 M 12 [(0, .ref (S.2.1 o)), (1, .ref (S.2.1 10)), (2, .int a2), (3, .int a3), (4, .int a4)] []) (h : f_Course_layFree_b90 o k12 a2 a3 a4 M = some q) : V S X 6 M 90 [(0, .ref (S.2.1 o)), (1, .ref (S.2.1 10)), (2, .int a2), (3, .int a3), (4, .int a4)] [] := by
  unfold f_Course_layFree_b90 at h
  refine v_iinc C [(4, .int (a4 + 1)), (0, .ref (S.2.1 o)), (1, .ref (S.2.1 10)), (2, .int a2), (3, .int a3)] 4 (a4 + 1) dX0_layFree_90 rfl rfl (by decide) rfl ?_
  refine v_goto C 12 dX0_layFree_93 (by decide) ?_
  refine v_sub [1, 2, 3, 4, 0] rfl ?_
  exact hk12 _ _ _ _ h
def f_Course_layFree_b67 (o : Nat) (k12 : Int32 → Int32 → Int32 → Mem → Option Mem) (a2 : Int32) (a3 : Int32) (a4 : Int32) (a5 : Int32) (M : Mem) : Option Mem :=
  if a5 = 0 then
    if gin a4 12 then
      if gin a4 12 then
        (f_Course_add o M (M 11 a4.toNatClampNeg) (M 12 a4.toNatClampNeg)).bind fun q8 =>
        f_Course_layFree_b90 o k12 a2 a3 a4 q8
      else none
    else none
  else
    f_Course_layFree_b90 o k12 a2 a3 a4 M
set_option maxRecDepth 20000 in
theorem v_Course_layFree_b67 {S : SE} {X : MX} {q : Mem} {o : Nat} {k12 : Int32 → Int32 → Int32 → Mem → Option Mem} {a2 : Int32} {a3 : Int32} {a4 : Int32} {a5 : Int32} {M : Mem} (C : CX S X cX0_layFree 6 RX0 2) (K : RT S X none none q) (ho : kd o = 0) (hk12 : ∀ (a2 : Int32) (a3 : Int32) (a4 : Int32) (M : Mem), k12 a2 a3 a4 M = some q → V S X 6 M 12 [(0, .ref (S.2.1 o)), (1, .ref (S.2.1 10)), (2, .int a2), (3, .int a3), (4, .int a4)] []) (h : f_Course_layFree_b67 o k12 a2 a3 a4 a5 M = some q) : V S X 6 M 67 [(0, .ref (S.2.1 o)), (1, .ref (S.2.1 10)), (2, .int a2), (3, .int a3), (4, .int a4), (5, .int a5)] [] := by
  unfold f_Course_layFree_b67 at h
  refine v_iload C 5 dX0_layFree_67 rfl ?_
  refine v_if_ne C 90 dX0_layFree_69 (by decide) (fun c9 => ?_) (fun c9 => ?_)
  · replace h := (ite_h h).2 c9
    refine v_sub [0, 1, 2, 3, 4] rfl ?_
    exact v_Course_layFree_b90 C K ho hk12 h
  · replace h := (ite_h h).1 c9
    refine v_aload_n C 0 dX0_layFree_72 rfl ?_
    refine v_aload_n C 1 dX0_layFree_73 rfl ?_
    refine g_Steps_codes C kk10 fl_X0_31 dX0_layFree_74 ?_
    refine v_iload C 4 dX0_layFree_77 rfl ?_
    obtain ⟨g6, h⟩ := gd_h h
    refine v_iald C kk11 ll11 g6 dX0_layFree_79 ?_
    refine v_aload_n C 1 dX0_layFree_80 rfl ?_
    refine g_Steps_figures C kk10 fl_X0_32 dX0_layFree_81 ?_
    refine v_iload C 4 dX0_layFree_84 rfl ?_
    obtain ⟨g7, h⟩ := gd_h h
    refine v_iald C kk12 ll12 g7 dX0_layFree_86 ?_
    obtain ⟨q8, hq8, h⟩ := Option.bind_eq_some_iff.mp h
    refine cv0v C [] ho (m_Course_add C.inj o ho M (M 11 a4.toNatClampNeg) (M 12 a4.toNatClampNeg) q8 hq8) ci_Course_add rfl lk_X0_33 (by decide) rfl rfl (Nat.le_of_ble_eq_true rfl) dX0_layFree_87 ?_
    refine v_sub [0, 1, 2, 3, 4] rfl ?_
    exact v_Course_layFree_b90 C K ho hk12 h
def f_Course_layFree_b64 (o : Nat) (k12 : Int32 → Int32 → Int32 → Mem → Option Mem) (a2 : Int32) (a3 : Int32) (a4 : Int32) (a5 : Int32) (s0 : Int32) (M : Mem) : Option Mem :=
  (f_Course_addJoin o M s0).bind fun q10 =>
  f_Course_layFree_b67 o k12 a2 a3 a4 a5 q10
set_option maxRecDepth 20000 in
theorem v_Course_layFree_b64 {S : SE} {X : MX} {q : Mem} {o : Nat} {k12 : Int32 → Int32 → Int32 → Mem → Option Mem} {a2 : Int32} {a3 : Int32} {a4 : Int32} {a5 : Int32} {s0 : Int32} {M : Mem} (C : CX S X cX0_layFree 6 RX0 2) (K : RT S X none none q) (ho : kd o = 0) (hk12 : ∀ (a2 : Int32) (a3 : Int32) (a4 : Int32) (M : Mem), k12 a2 a3 a4 M = some q → V S X 6 M 12 [(0, .ref (S.2.1 o)), (1, .ref (S.2.1 10)), (2, .int a2), (3, .int a3), (4, .int a4)] []) (h : f_Course_layFree_b64 o k12 a2 a3 a4 a5 s0 M = some q) : V S X 6 M 64 [(0, .ref (S.2.1 o)), (1, .ref (S.2.1 10)), (2, .int a2), (3, .int a3), (4, .int a4), (5, .int a5)] [.int s0, .ref (S.2.1 o)] := by
  unfold f_Course_layFree_b64 at h
  obtain ⟨q10, hq10, h⟩ := Option.bind_eq_some_iff.mp h
  refine cv0v C [] ho (m_Course_addJoin C.inj o ho M s0 q10 hq10) ci_Course_addJoin rfl lk_X0_41 (by decide) rfl rfl (Nat.le_of_ble_eq_true rfl) dX0_layFree_64 ?_
  exact v_Course_layFree_b67 C K ho hk12 h
def f_Course_layFree_b43 (o : Nat) (k12 : Int32 → Int32 → Int32 → Mem → Option Mem) (a2 : Int32) (a3 : Int32) (a4 : Int32) (s0 : Int32) (M : Mem) : Option Mem :=
  if a4 = a3 then
    if s0 = 0 then
      f_Course_layFree_b64 o k12 a2 a3 a4 s0 8 M
    else
      f_Course_layFree_b64 o k12 a2 a3 a4 s0 9 M
  else
    f_Course_layFree_b67 o k12 a2 a3 a4 s0 M
set_option maxRecDepth 20000 in
theorem v_Course_layFree_b43 {S : SE} {X : MX} {q : Mem} {o : Nat} {k12 : Int32 → Int32 → Int32 → Mem → Option Mem} {a2 : Int32} {a3 : Int32} {a4 : Int32} {s0 : Int32} {M : Mem} (C : CX S X cX0_layFree 6 RX0 2) (K : RT S X none none q) (ho : kd o = 0) (hk12 : ∀ (a2 : Int32) (a3 : Int32) (a4 : Int32) (M : Mem), k12 a2 a3 a4 M = some q → V S X 6 M 12 [(0, .ref (S.2.1 o)), (1, .ref (S.2.1 10)), (2, .int a2), (3, .int a3), (4, .int a4)] []) (h : f_Course_layFree_b43 o k12 a2 a3 a4 s0 M = some q) : V S X 6 M 43 [(0, .ref (S.2.1 o)), (1, .ref (S.2.1 10)), (2, .int a2), (3, .int a3), (4, .int a4)] [.int s0] := by
  unfold f_Course_layFree_b43 at h
  refine v_istore C [(5, .int s0), (0, .ref (S.2.1 o)), (1, .ref (S.2.1 10)), (2, .int a2), (3, .int a3), (4, .int a4)] dX0_layFree_43 (by decide) rfl ?_
  refine v_iload C 5 dX0_layFree_45 rfl ?_
  refine v_iload_n C 4 dX0_layFree_47 rfl ?_
  refine v_icmp_ne C 67 dX0_layFree_48 (by decide) (fun c12 => ?_) (fun c12 => ?_)
  · replace h := (ite_h h).2 c12
    refine v_sub [1, 2, 3, 4, 5, 0] rfl ?_
    exact v_Course_layFree_b67 C K ho hk12 h
  · replace h := (ite_h h).1 c12
    refine v_aload_n C 1 dX0_layFree_51 rfl ?_
    refine v_iload C 0 dX0_layFree_52 rfl ?_
    refine v_if_eq C 62 dX0_layFree_54 (by decide) (fun c11 => ?_) (fun c11 => ?_)
    · replace h := (ite_h h).1 c11
      refine v_bipush C 8 dX0_layFree_62 rfl ?_
      refine v_sub [1, 2, 3, 4, 5, 0] rfl ?_
      exact v_Course_layFree_b64 C K ho hk12 h
    · replace h := (ite_h h).2 c11
      refine v_bipush C 9 dX0_layFree_57 rfl ?_
      refine v_goto C 64 dX0_layFree_59 (by decide) ?_
      refine v_sub [1, 2, 3, 4, 5, 0] rfl ?_
      exact v_Course_layFree_b64 C K ho hk12 h
def f_Course_layFree_b42 (o : Nat) (k12 : Int32 → Int32 → Int32 → Mem → Option Mem) (a2 : Int32) (a3 : Int32) (a4 : Int32) (M : Mem) : Option Mem :=
  f_Course_layFree_b43 o k12 a2 a3 a4 0 M
set_option maxRecDepth 20000 in
theorem v_Course_layFree_b42 {S : SE} {X : MX} {q : Mem} {o : Nat} {k12 : Int32 → Int32 → Int32 → Mem → Option Mem} {a2 : Int32} {a3 : Int32} {a4 : Int32} {M : Mem} (C : CX S X cX0_layFree 6 RX0 2) (K : RT S X none none q) (ho : kd o = 0) (hk12 : ∀ (a2 : Int32) (a3 : Int32) (a4 : Int32) (M : Mem), k12 a2 a3 a4 M = some q → V S X 6 M 12 [(0, .ref (S.2.1 o)), (1, .ref (S.2.1 10)), (2, .int a2), (3, .int a3), (4, .int a4)] []) (h : f_Course_layFree_b42 o k12 a2 a3 a4 M = some q) : V S X 6 M 42 [(0, .ref (S.2.1 o)), (1, .ref (S.2.1 10)), (2, .int a2), (3, .int a3), (4, .int a4)] [] := by
  unfold f_Course_layFree_b42 at h
  refine v_iconst C 0 dX0_layFree_42 rfl ?_
  exact v_Course_layFree_b43 C K ho hk12 h
def f_Course_layFree_l12B (o : Nat) (k12 : Int32 → Int32 → Int32 → Mem → Option Mem) (a2 : Int32) (a3 : Int32) (a4 : Int32) (M : Mem) : Option Mem :=
  if (M 10 2) ≤ a4 then
    if a3 = (-1) then
      if (f_U_endSpeaks a2) = 0 then
        some M
      else
        (f_Course_addJoin o M 8).bind fun q3 =>
        some q3
    else
      some M
  else
    if a4 = a3 then
      if gin a4 12 then
        if (M 11 a4.toNatClampNeg) = 1 then
          f_Course_layFree_b43 o k12 a2 a3 a4 1 M
        else
          f_Course_layFree_b42 o k12 a2 a3 a4 M
      else none
    else
      f_Course_layFree_b42 o k12 a2 a3 a4 M
set_option maxRecDepth 20000 in
theorem v_Course_layFree_l12B {S : SE} {X : MX} {q : Mem} {o : Nat} {k12 : Int32 → Int32 → Int32 → Mem → Option Mem} {a2 : Int32} {a3 : Int32} {a4 : Int32} {M : Mem} (C : CX S X cX0_layFree 6 RX0 2) (K : RT S X none none q) (ho : kd o = 0) (hk12 : ∀ (a2 : Int32) (a3 : Int32) (a4 : Int32) (M : Mem), k12 a2 a3 a4 M = some q → V S X 6 M 12 [(0, .ref (S.2.1 o)), (1, .ref (S.2.1 10)), (2, .int a2), (3, .int a3), (4, .int a4)] []) (h : f_Course_layFree_l12B o k12 a2 a3 a4 M = some q) : V S X 6 M 12 [(0, .ref (S.2.1 o)), (1, .ref (S.2.1 10)), (2, .int a2), (3, .int a3), (4, .int a4)] [] := by
  unfold f_Course_layFree_l12B at h
  refine v_iload C 4 dX0_layFree_12 rfl ?_
  refine v_aload_n C 1 dX0_layFree_14 rfl ?_
  refine g_Steps_size C kk10 fl_X0_28 dX0_layFree_15 ?_
  refine v_icmp_ge C 96 dX0_layFree_18 (by decide) (fun c16 => ?_) (fun c16 => ?_)
  · replace h := (ite_h h).1 c16
    refine v_iload_n C 3 dX0_layFree_96 rfl ?_
    refine v_iconst C (-1) dX0_layFree_97 rfl ?_
    refine v_icmp_ne C 114 dX0_layFree_98 (by decide) (fun c5 => ?_) (fun c5 => ?_)
    · replace h := (ite_h h).2 c5
      obtain rfl := Option.some.inj h
      exact v_vret C K dX0_layFree_114
    · replace h := (ite_h h).1 c5
      refine v_iload_n C 2 dX0_layFree_101 rfl ?_
      refine csN C [] (m_U_endSpeaks C.inj M a2 _ rfl) ci_U_endSpeaks lk_X0_45 (by decide) rfl rfl (Nat.le_of_ble_eq_true rfl) dX0_layFree_102 ?_
      refine v_if_eq C 114 dX0_layFree_105 (by decide) (fun c4 => ?_) (fun c4 => ?_)
      · replace h := (ite_h h).1 c4
        obtain rfl := Option.some.inj h
        exact v_vret C K dX0_layFree_114
      · replace h := (ite_h h).2 c4
        refine v_aload_n C 0 dX0_layFree_108 rfl ?_
        refine v_bipush C 8 dX0_layFree_109 rfl ?_
        obtain ⟨q3, hq3, h⟩ := Option.bind_eq_some_iff.mp h
        refine cv0v C [] ho (m_Course_addJoin C.inj o ho M 8 q3 hq3) ci_Course_addJoin rfl lk_X0_41 (by decide) rfl rfl (Nat.le_of_ble_eq_true rfl) dX0_layFree_111 ?_
        obtain rfl := Option.some.inj h
        exact v_vret C K dX0_layFree_114
  · replace h := (ite_h h).2 c16
    refine v_iload C 4 dX0_layFree_21 rfl ?_
    refine v_iload_n C 3 dX0_layFree_23 rfl ?_
    refine v_icmp_ne C 42 dX0_layFree_24 (by decide) (fun c15 => ?_) (fun c15 => ?_)
    · replace h := (ite_h h).2 c15
      exact v_Course_layFree_b42 C K ho hk12 h
    · replace h := (ite_h h).1 c15
      refine v_aload_n C 1 dX0_layFree_27 rfl ?_
      refine g_Steps_codes C kk10 fl_X0_31 dX0_layFree_28 ?_
      refine v_iload C 4 dX0_layFree_31 rfl ?_
      obtain ⟨g13, h⟩ := gd_h h
      refine v_iald C kk11 ll11 g13 dX0_layFree_33 ?_
      refine v_iconst C 1 dX0_layFree_34 rfl ?_
      refine v_icmp_ne C 42 dX0_layFree_35 (by decide) (fun c14 => ?_) (fun c14 => ?_)
      · replace h := (ite_h h).2 c14
        exact v_Course_layFree_b42 C K ho hk12 h
      · replace h := (ite_h h).1 c14
        refine v_iconst C 1 dX0_layFree_38 rfl ?_
        refine v_goto C 43 dX0_layFree_39 (by decide) ?_
        exact v_Course_layFree_b43 C K ho hk12 h
def f_Course_layFree_l12 (o : Nat) : Nat → Int32 → Int32 → Int32 → Mem → Option Mem
  | 0, _, _, _, _ => none
  | n + 1, a2, a3, a4, M => f_Course_layFree_l12B o (f_Course_layFree_l12 o n) a2 a3 a4 M
theorem v_Course_layFree_l12 {S : SE} {X : MX} {q : Mem} {o : Nat} (C : CX S X cX0_layFree 6 RX0 2) (K : RT S X none none q) (ho : kd o = 0) : ∀ (n : Nat) (a2 : Int32) (a3 : Int32) (a4 : Int32) (M : Mem), f_Course_layFree_l12 o n a2 a3 a4 M = some q → V S X 6 M 12 [(0, .ref (S.2.1 o)), (1, .ref (S.2.1 10)), (2, .int a2), (3, .int a3), (4, .int a4)] [] := by
  intro n
  induction n with
  | zero => intro a2 a3 a4 M h; cases h
  | succ n ih => intro a2 a3 a4 M h; exact v_Course_layFree_l12B C K ho ih h
def f_Course_layFree (o : Nat) (M : Mem) (a2 : Int32) : Option Mem :=
  (f_Steps_firstSpeaking M).bind fun q1 =>
  (f_Course_begin o M).bind fun q2 =>
  f_Course_layFree_l12 o FU a2 q1 0 q2
set_option maxRecDepth 20000 in
theorem v_Course_layFree {S : SE} {X : MX} {q : Mem} {o : Nat} {M : Mem} {a2 : Int32} (C : CX S X cX0_layFree 6 RX0 2) (K : RT S X none none q) (ho : kd o = 0) (h : f_Course_layFree o M a2 = some q) : V S X 6 M 0 [(0, .ref (S.2.1 o)), (1, .ref (S.2.1 10)), (2, .int a2)] [] := by
  unfold f_Course_layFree at h
  refine v_aload_n C 1 dX0_layFree_0 rfl ?_
  obtain ⟨q1, hq1, h⟩ := Option.bind_eq_some_iff.mp h
  refine cv7 C [] kk10 (m_Steps_firstSpeaking C.inj M q1 hq1) ci_Steps_firstSpeaking rfl lk_X0_37 (by decide) rfl rfl (Nat.le_of_ble_eq_true rfl) dX0_layFree_1 ?_
  refine v_istore_n C [(3, .int q1), (0, .ref (S.2.1 o)), (1, .ref (S.2.1 10)), (2, .int a2)] dX0_layFree_4 (by decide) rfl ?_
  refine v_aload_n C 1 dX0_layFree_5 rfl ?_
  obtain ⟨q2, hq2, h⟩ := Option.bind_eq_some_iff.mp h
  refine cv0v C [] ho (m_Course_begin C.inj o ho M q2 hq2) ci_Course_begin rfl lk_X0_25 (by decide) rfl rfl (Nat.le_of_ble_eq_true rfl) dX0_layFree_6 ?_
  refine v_iconst C 0 dX0_layFree_9 rfl ?_
  refine v_istore C [(4, .int 0), (3, .int q1), (0, .ref (S.2.1 o)), (1, .ref (S.2.1 10)), (2, .int a2)] dX0_layFree_10 (by decide) rfl ?_
  refine v_sub [2, 3, 4, 1, 0] rfl ?_
  exact v_Course_layFree_l12 C K ho FU _ _ _ _ h
theorem m_Course_layFree {S : SE} (hI : Inj S) (o : Nat) (ho : kd o = 0) (M : Mem) (a2 : Int32) (q : Mem) (h : f_Course_layFree o M a2 = some q) : CM S yX0_layFree cX0_layFree 6 none 2 [.ref (S.2.1 o), .ref (S.2.1 10), .int a2] M none q :=
  CM.of [(0, .ref (S.2.1 o)), (1, .ref (S.2.1 10)), (2, .int a2)] hI (by decide) rfl (Nat.le_of_ble_eq_true rfl) (fun X C K => v_Course_layFree C K ho h)
def f_U_within_b13 : Int32 :=
  0
set_option maxRecDepth 20000 in
theorem v_U_within_b13 {S : SE} {X : MX} {q : Int32} {M : Mem} (C : CX S X cX11_within 2 RX11 0) (K : RT S X (some .boolean) (some (.int q)) M) (h : f_U_within_b13 = q) : V S X 2 M 13 [] [] := by
  unfold f_U_within_b13 at h
  refine v_iconst C 0 dX11_within_13 rfl ?_
  subst h
  exact v_zret C (Or.inl rfl) K dX11_within_14
def f_U_within (a0 : Int32) (a1 : Int32) : Int32 :=
  if a0 < 0 then
    f_U_within_b13
  else
    if a1 ≤ a0 then
      f_U_within_b13
    else
      1
set_option maxRecDepth 20000 in
theorem v_U_within {S : SE} {X : MX} {q : Int32} {M : Mem} {a0 : Int32} {a1 : Int32} (C : CX S X cX11_within 2 RX11 0) (K : RT S X (some .boolean) (some (.int q)) M) (h : f_U_within a0 a1 = q) : V S X 2 M 0 [(0, .int a0), (1, .int a1)] [] := by
  unfold f_U_within at h
  refine v_iload_n C 0 dX11_within_0 rfl ?_
  refine v_if_lt C 13 dX11_within_1 (by decide) (fun c2 => ?_) (fun c2 => ?_)
  · replace h := (ite_h h).1 c2
    refine v_sub [] rfl ?_
    exact v_U_within_b13 C K h
  · replace h := (ite_h h).2 c2
    refine v_iload_n C 0 dX11_within_4 rfl ?_
    refine v_iload_n C 1 dX11_within_5 rfl ?_
    refine v_icmp_ge C 13 dX11_within_6 (by decide) (fun c1 => ?_) (fun c1 => ?_)
    · replace h := (ite_h h).1 c1
      refine v_sub [] rfl ?_
      exact v_U_within_b13 C K h
    · replace h := (ite_h h).2 c1
      refine v_iconst C 1 dX11_within_9 rfl ?_
      refine v_goto C 14 dX11_within_10 (by decide) ?_
      subst h
      exact v_zret C (Or.inr rfl) K dX11_within_14
theorem m_U_within {S : SE} (hI : Inj S) (M : Mem) (a0 : Int32) (a1 : Int32) (q : Int32) (h : f_U_within a0 a1 = q) : CM S yX11_within cX11_within 2 (some .boolean) 0 [.int a0, .int a1] M (some (.int q)) M :=
  CM.of [(0, .int a0), (1, .int a1)] hI (by decide) rfl (Nat.le_of_ble_eq_true rfl) (fun X C K => v_U_within C K  h)
theorem bz_U_within (a0 : Int32) (a1 : Int32) : f_U_within a0 a1 = 0 ∨ f_U_within a0 a1 = 1 := by unfold f_U_within f_U_within_b13; (repeat' split) <;> first | exact Or.inl rfl | exact Or.inr rfl
def f_Course_codeAt (o : Nat) (M : Mem) (a1 : Int32) : Option Int32 :=
  if (f_U_within a1 (M o 2)) = 0 then
    some (-1)
  else
    if gin a1 14 then
      some (M (o + 1) a1.toNatClampNeg)
    else none
set_option maxRecDepth 20000 in
theorem v_Course_codeAt {S : SE} {X : MX} {q : Int32} {o : Nat} {M : Mem} {a1 : Int32} (C : CX S X cX0_codeAt 2 RX0 1) (K : RT S X (some .int) (some (.int q)) M) (ho : kd o = 0) (h : f_Course_codeAt o M a1 = some q) : V S X 2 M 0 [(0, .ref (S.2.1 o)), (1, .int a1)] [] := by
  unfold f_Course_codeAt at h
  refine v_iload_n C 1 dX0_codeAt_0 rfl ?_
  refine v_aload_n C 0 dX0_codeAt_1 rfl ?_
  refine g_Course_size C ho fl_X0_18 dX0_codeAt_2 ?_
  refine csN C [] (m_U_within C.inj M a1 (M o 2) _ rfl) ci_U_within lk_X0_49 (by decide) rfl rfl (Nat.le_of_ble_eq_true rfl) dX0_codeAt_5 ?_
  refine v_if_eq C 20 dX0_codeAt_8 (by decide) (fun c2 => ?_) (fun c2 => ?_)
  · replace h := (ite_h h).1 c2
    refine v_iconst C (-1) dX0_codeAt_20 rfl ?_
    obtain rfl := Option.some.inj h
    exact v_iret C K dX0_codeAt_21
  · replace h := (ite_h h).2 c2
    refine v_aload_n C 0 dX0_codeAt_11 rfl ?_
    refine g_Course_codes C ho fl_X0_9 dX0_codeAt_12 ?_
    refine v_iload_n C 1 dX0_codeAt_15 rfl ?_
    obtain ⟨g1, h⟩ := gd_h h
    refine v_iald C (kd_Course_codes ho) (ln_Course_codes ho) g1 dX0_codeAt_16 ?_
    refine v_goto C 21 dX0_codeAt_17 (by decide) ?_
    obtain rfl := Option.some.inj h
    exact v_iret C K dX0_codeAt_21
theorem m_Course_codeAt {S : SE} (hI : Inj S) (o : Nat) (ho : kd o = 0) (M : Mem) (a1 : Int32) (q : Int32) (h : f_Course_codeAt o M a1 = some q) : CM S yX0_codeAt cX0_codeAt 2 (some .int) 1 [.ref (S.2.1 o), .int a1] M (some (.int q)) M :=
  CM.of [(0, .ref (S.2.1 o)), (1, .int a1)] hI (by decide) rfl (Nat.le_of_ble_eq_true rfl) (fun X C K => v_Course_codeAt C K ho h)
def f_J_fill_l5B (a0 : Nat) (k5 : Int32 → Int32 → Int32 → Mem → Option Mem) (a1 : Int32) (a2 : Int32) (a3 : Int32) (M : Mem) : Option Mem :=
  if a3 ≤ a2 then
    some M
  else
    if gin a2 (ln a0) then
      bnd (mset M a0 a2.toNatClampNeg a1) fun M3 =>
      k5 a1 (a2 + 1) a3 M3
    else none
set_option maxRecDepth 20000 in
theorem v_J_fill_l5B {S : SE} {X : MX} {q : Mem} {a0 : Nat} {k5 : Int32 → Int32 → Int32 → Mem → Option Mem} {a1 : Int32} {a2 : Int32} {a3 : Int32} {M : Mem} (C : CX S X cJ7_fill_53178 4 RJ7 0) (K : RT S X none none q) (ha0 : kd a0 = 20) (hk5 : ∀ (a1 : Int32) (a2 : Int32) (a3 : Int32) (M : Mem), k5 a1 a2 a3 M = some q → V S X 4 M 5 [(0, .ref (S.2.1 a0)), (1, .int a1), (2, .int a2), (3, .int a3)] []) (h : f_J_fill_l5B a0 k5 a1 a2 a3 M = some q) : V S X 4 M 5 [(0, .ref (S.2.1 a0)), (1, .int a1), (2, .int a2), (3, .int a3)] [] := by
  unfold f_J_fill_l5B at h
  refine v_iload_n C 2 dJ7_fill_53178_5 rfl ?_
  refine v_iload_n C 3 dJ7_fill_53178_6 rfl ?_
  refine v_icmp_ge C 20 dJ7_fill_53178_7 (by decide) (fun c4 => ?_) (fun c4 => ?_)
  · replace h := (ite_h h).1 c4
    obtain rfl := Option.some.inj h
    exact v_vret C K dJ7_fill_53178_20
  · replace h := (ite_h h).2 c4
    refine v_aload_n C 0 dJ7_fill_53178_10 rfl ?_
    refine v_iload_n C 2 dJ7_fill_53178_11 rfl ?_
    refine v_iload_n C 1 dJ7_fill_53178_12 rfl ?_
    obtain ⟨g2, h⟩ := gd_h h
    refine v_iast C ha0 rfl g2 dJ7_fill_53178_13 ?_
    refine v_nmm h (fun M3 h => ?_)
    refine v_iinc C [(2, .int (a2 + 1)), (0, .ref (S.2.1 a0)), (1, .int a1), (3, .int a3)] 2 (a2 + 1) dJ7_fill_53178_14 rfl rfl (by decide) rfl ?_
    refine v_goto C 5 dJ7_fill_53178_17 (by decide) ?_
    refine v_sub [1, 2, 0, 3] rfl ?_
    exact hk5 _ _ _ _ h
def f_J_fill_l5 (a0 : Nat) : Nat → Int32 → Int32 → Int32 → Mem → Option Mem
  | 0, _, _, _, _ => none
  | n + 1, a1, a2, a3, M => f_J_fill_l5B a0 (f_J_fill_l5 a0 n) a1 a2 a3 M
theorem v_J_fill_l5 {S : SE} {X : MX} {q : Mem} {a0 : Nat} (C : CX S X cJ7_fill_53178 4 RJ7 0) (K : RT S X none none q) (ha0 : kd a0 = 20) : ∀ (n : Nat) (a1 : Int32) (a2 : Int32) (a3 : Int32) (M : Mem), f_J_fill_l5 a0 n a1 a2 a3 M = some q → V S X 4 M 5 [(0, .ref (S.2.1 a0)), (1, .int a1), (2, .int a2), (3, .int a3)] [] := by
  intro n
  induction n with
  | zero => intro a1 a2 a3 M h; cases h
  | succ n ih => intro a1 a2 a3 M h; exact v_J_fill_l5B C K ha0 ih h
def f_J_fill (a0 : Nat) (M : Mem) (a1 : Int32) : Option Mem :=
  bnd (Int32.ofNat (ln a0)) fun x1 =>
  f_J_fill_l5 a0 FU a1 0 x1 M
set_option maxRecDepth 20000 in
theorem v_J_fill {S : SE} {X : MX} {q : Mem} {a0 : Nat} {M : Mem} {a1 : Int32} (C : CX S X cJ7_fill_53178 4 RJ7 0) (K : RT S X none none q) (ha0 : kd a0 = 20) (h : f_J_fill a0 M a1 = some q) : V S X 4 M 0 [(0, .ref (S.2.1 a0)), (1, .int a1)] [] := by
  unfold f_J_fill at h
  refine v_iconst C 0 dJ7_fill_53178_0 rfl ?_
  refine v_istore_n C [(2, .int 0), (0, .ref (S.2.1 a0)), (1, .int a1)] dJ7_fill_53178_1 (by decide) rfl ?_
  refine v_aload_n C 1 dJ7_fill_53178_2 rfl ?_
  refine v_alen C ha0 rfl dJ7_fill_53178_3 ?_
  refine v_nmi h (fun x1 h => ?_)
  refine v_istore_n C [(3, .int x1), (2, .int 0), (0, .ref (S.2.1 a0)), (1, .int a1)] dJ7_fill_53178_4 (by decide) rfl ?_
  refine v_sub [2, 3, 1, 0] rfl ?_
  exact v_J_fill_l5 C K ha0 FU _ _ _ _ h
theorem m_J_fill {S : SE} (hI : Inj S) (a0 : Nat) (ha0 : kd a0 = 20) (M : Mem) (a1 : Int32) (q : Mem) (h : f_J_fill a0 M a1 = some q) : CM S yJ7_fill_53178 cJ7_fill_53178 4 none 0 [.ref (S.2.1 a0), .int a1] M none q :=
  CM.of [(0, .ref (S.2.1 a0)), (1, .int a1)] hI (by decide) rfl (Nat.le_of_ble_eq_true rfl) (fun X C K => v_J_fill C K ha0 h)
def f_Tally_clear (o : Nat) (M : Mem) : Mem :=
  bnd (mset M o 0 0) fun M1 =>
  bnd (mset M1 o 1 0) fun M2 =>
  bnd (mset M2 o 2 0) fun M3 =>
  bnd (mset M3 o 3 (-1)) fun M4 =>
  bnd (mset M4 o 4 (-1)) fun M5 =>
  bnd (mset M5 o 5 0) fun M6 =>
  M6
set_option maxRecDepth 20000 in
theorem v_Tally_clear {S : SE} {X : MX} {q : Mem} {o : Nat} {M : Mem} (C : CX S X cX9_clear 1 RX9 0) (K : RT S X none none q) (ho : kd o = 9) (h : f_Tally_clear o M = q) : V S X 1 M 0 [(0, .ref (S.2.1 o))] [] := by
  unfold f_Tally_clear at h
  refine v_aload_n C 0 dX9_clear_0 rfl ?_
  refine v_iconst C 0 dX9_clear_1 rfl ?_
  refine p_Tally_rows C ho fl_X9_9 dX9_clear_2 ?_
  refine v_nmm h (fun M1 h => ?_)
  refine v_aload_n C 0 dX9_clear_5 rfl ?_
  refine v_iconst C 0 dX9_clear_6 rfl ?_
  refine p_Tally_present C ho fl_X9_15 dX9_clear_7 ?_
  refine v_nmm h (fun M2 h => ?_)
  refine v_aload_n C 0 dX9_clear_10 rfl ?_
  refine v_iconst C 0 dX9_clear_11 rfl ?_
  refine p_Tally_sum C ho fl_X9_18 dX9_clear_12 ?_
  refine v_nmm h (fun M3 h => ?_)
  refine v_aload_n C 0 dX9_clear_15 rfl ?_
  refine v_iconst C (-1) dX9_clear_16 rfl ?_
  refine p_Tally_least C ho fl_X9_21 dX9_clear_17 ?_
  refine v_nmm h (fun M4 h => ?_)
  refine v_aload_n C 0 dX9_clear_20 rfl ?_
  refine v_iconst C (-1) dX9_clear_21 rfl ?_
  refine p_Tally_greatest C ho fl_X9_24 dX9_clear_22 ?_
  refine v_nmm h (fun M5 h => ?_)
  refine v_aload_n C 0 dX9_clear_25 rfl ?_
  refine v_iconst C 0 dX9_clear_26 rfl ?_
  refine p_Tally_matched C ho (Or.inl rfl) fl_X9_27 dX9_clear_27 ?_
  refine v_nmm h (fun M6 h => ?_)
  subst h
  exact v_vret C K dX9_clear_30
theorem m_Tally_clear {S : SE} (hI : Inj S) (o : Nat) (ho : kd o = 9) (M : Mem) (q : Mem) (h : f_Tally_clear o M = q) : CM S yX9_clear cX9_clear 1 none 0 [.ref (S.2.1 o)] M none q :=
  CM.of [(0, .ref (S.2.1 o))] hI (by decide) rfl (Nat.le_of_ble_eq_true rfl) (fun X C K => v_Tally_clear C K ho h)
def f_Pairs_setOne (o : Nat) (M : Mem) (a1 : Int32) (a2 : Int32) : Mem :=
  bnd (mset M (o + 1) (0 : Int32).toNatClampNeg a1) fun M1 =>
  bnd (mset M1 (o + 2) (0 : Int32).toNatClampNeg a2) fun M2 =>
  bnd (mset M2 o 3 1) fun M3 =>
  M3
set_option maxRecDepth 20000 in
theorem v_Pairs_setOne {S : SE} {X : MX} {q : Mem} {o : Nat} {M : Mem} {a1 : Int32} {a2 : Int32} (C : CX S X cX2_setOne 3 RX2 0) (K : RT S X none none q) (ho : kd o = 2) (h : f_Pairs_setOne o M a1 a2 = q) : V S X 3 M 0 [(0, .ref (S.2.1 o)), (1, .int a1), (2, .int a2)] [] := by
  unfold f_Pairs_setOne at h
  refine v_aload_n C 0 dX2_setOne_0 rfl ?_
  refine g_Pairs_keys C ho fl_X2_9 dX2_setOne_1 ?_
  refine v_iconst C 0 dX2_setOne_4 rfl ?_
  refine v_iload_n C 1 dX2_setOne_5 rfl ?_
  refine v_iast C (kd_Pairs_keys ho) (ln_Pairs_keys ho) (by decide) dX2_setOne_6 ?_
  refine v_nmm h (fun M1 h => ?_)
  refine v_aload_n C 0 dX2_setOne_7 rfl ?_
  refine g_Pairs_values C ho fl_X2_15 dX2_setOne_8 ?_
  refine v_iconst C 0 dX2_setOne_11 rfl ?_
  refine v_iload_n C 2 dX2_setOne_12 rfl ?_
  refine v_iast C (kd_Pairs_values ho) (ln_Pairs_values ho) (by decide) dX2_setOne_13 ?_
  refine v_nmm h (fun M2 h => ?_)
  refine v_aload_n C 0 dX2_setOne_14 rfl ?_
  refine v_iconst C 1 dX2_setOne_15 rfl ?_
  refine p_Pairs_size C ho fl_X2_21 dX2_setOne_16 ?_
  refine v_nmm h (fun M3 h => ?_)
  subst h
  exact v_vret C K dX2_setOne_19
theorem m_Pairs_setOne {S : SE} (hI : Inj S) (o : Nat) (ho : kd o = 2) (M : Mem) (a1 : Int32) (a2 : Int32) (q : Mem) (h : f_Pairs_setOne o M a1 a2 = q) : CM S yX2_setOne cX2_setOne 3 none 0 [.ref (S.2.1 o), .int a1, .int a2] M none q :=
  CM.of [(0, .ref (S.2.1 o)), (1, .int a1), (2, .int a2)] hI (by decide) rfl (Nat.le_of_ble_eq_true rfl) (fun X C K => v_Pairs_setOne C K ho h)
def f_Pairs_setNone (o : Nat) (M : Mem) : Option Mem :=
  bnd (mset M o 3 0) fun M1 =>
  (f_J_fill (o + 3) M1 0).bind fun q2 =>
  some q2
set_option maxRecDepth 20000 in
theorem v_Pairs_setNone {S : SE} {X : MX} {q : Mem} {o : Nat} {M : Mem} (C : CX S X cX2_setNone 1 RX2 1) (K : RT S X none none q) (ho : kd o = 2) (h : f_Pairs_setNone o M = some q) : V S X 1 M 0 [(0, .ref (S.2.1 o))] [] := by
  unfold f_Pairs_setNone at h
  refine v_aload_n C 0 dX2_setNone_0 rfl ?_
  refine v_iconst C 0 dX2_setNone_1 rfl ?_
  refine p_Pairs_size C ho fl_X2_21 dX2_setNone_2 ?_
  refine v_nmm h (fun M1 h => ?_)
  refine v_aload_n C 0 dX2_setNone_5 rfl ?_
  refine g_Pairs_places C ho fl_X2_18 dX2_setNone_6 ?_
  refine v_iconst C 0 dX2_setNone_9 rfl ?_
  obtain ⟨q2, hq2, h⟩ := Option.bind_eq_some_iff.mp h
  refine csv C [] (m_J_fill C.inj (o + 3) (kd_Pairs_places ho) M1 0 q2 hq2) ci_J_fill lk_X2_25 (by decide) rfl rfl (Nat.le_of_ble_eq_true rfl) dX2_setNone_10 ?_
  obtain rfl := Option.some.inj h
  exact v_vret C K dX2_setNone_13
theorem m_Pairs_setNone {S : SE} (hI : Inj S) (o : Nat) (ho : kd o = 2) (M : Mem) (q : Mem) (h : f_Pairs_setNone o M = some q) : CM S yX2_setNone cX2_setNone 1 none 1 [.ref (S.2.1 o)] M none q :=
  CM.of [(0, .ref (S.2.1 o))] hI (by decide) rfl (Nat.le_of_ble_eq_true rfl) (fun X C K => v_Pairs_setNone C K ho h)
def f_Pairs_placeOf_b32 (o : Nat) (k2 : Int32 → Int32 → Int32 → Mem → Option (Int32 × Mem)) (a1 : Int32) (a2 : Int32) (a3 : Int32) (M : Mem) : Option (Int32 × Mem) :=
  k2 a1 a2 (a3 + 1) M
set_option maxRecDepth 20000 in
theorem v_Pairs_placeOf_b32 {S : SE} {X : MX} {q : (Int32 × Mem)} {o : Nat} {k2 : Int32 → Int32 → Int32 → Mem → Option (Int32 × Mem)} {a1 : Int32} {a2 : Int32} {a3 : Int32} {M : Mem} (C : CX S X cX2_placeOf 4 RX2 0) (K : RT S X (some .int) (some (.int q.1)) q.2) (ho : kd o = 2) (hk2 : ∀ (a1 : Int32) (a2 : Int32) (a3 : Int32) (M : Mem), k2 a1 a2 a3 M = some q → V S X 4 M 2 [(0, .ref (S.2.1 o)), (1, .int a1), (2, .int a2), (3, .int a3)] []) (h : f_Pairs_placeOf_b32 o k2 a1 a2 a3 M = some q) : V S X 4 M 32 [(0, .ref (S.2.1 o)), (1, .int a1), (2, .int a2), (3, .int a3)] [] := by
  unfold f_Pairs_placeOf_b32 at h
  refine v_iinc C [(3, .int (a3 + 1)), (0, .ref (S.2.1 o)), (1, .int a1), (2, .int a2)] 3 (a3 + 1) dX2_placeOf_32 rfl rfl (by decide) rfl ?_
  refine v_goto C 2 dX2_placeOf_35 (by decide) ?_
  refine v_sub [1, 2, 3, 0] rfl ?_
  exact hk2 _ _ _ _ h
def f_Pairs_placeOf_l2B (o : Nat) (k2 : Int32 → Int32 → Int32 → Mem → Option (Int32 × Mem)) (a1 : Int32) (a2 : Int32) (a3 : Int32) (M : Mem) : Option (Int32 × Mem) :=
  if (M o 3) ≤ a3 then
    if (M o 3) < 10 then
      if gin (M o 3) 10 then
        bnd (mset M (o + 1) (M o 3).toNatClampNeg a1) fun M2 =>
        if gin (M2 o 3) 10 then
          bnd (mset M2 (o + 2) (M2 o 3).toNatClampNeg a2) fun M4 =>
          bnd (mset M4 o 3 ((M4 o 3) + 1)) fun M5 =>
          some (((M5 o 3) - 1), M5)
        else none
      else none
    else
      some (0, M)
  else
    if gin a3 10 then
      if (M (o + 1) a3.toNatClampNeg) = a1 then
        if gin a3 10 then
          if (M (o + 2) a3.toNatClampNeg) = a2 then
            some (a3, M)
          else
            f_Pairs_placeOf_b32 o k2 a1 a2 a3 M
        else none
      else
        f_Pairs_placeOf_b32 o k2 a1 a2 a3 M
    else none
set_option maxRecDepth 20000 in
theorem v_Pairs_placeOf_l2B {S : SE} {X : MX} {q : (Int32 × Mem)} {o : Nat} {k2 : Int32 → Int32 → Int32 → Mem → Option (Int32 × Mem)} {a1 : Int32} {a2 : Int32} {a3 : Int32} {M : Mem} (C : CX S X cX2_placeOf 4 RX2 0) (K : RT S X (some .int) (some (.int q.1)) q.2) (ho : kd o = 2) (hk2 : ∀ (a1 : Int32) (a2 : Int32) (a3 : Int32) (M : Mem), k2 a1 a2 a3 M = some q → V S X 4 M 2 [(0, .ref (S.2.1 o)), (1, .int a1), (2, .int a2), (3, .int a3)] []) (h : f_Pairs_placeOf_l2B o k2 a1 a2 a3 M = some q) : V S X 4 M 2 [(0, .ref (S.2.1 o)), (1, .int a1), (2, .int a2), (3, .int a3)] [] := by
  unfold f_Pairs_placeOf_l2B at h
  refine v_iload_n C 3 dX2_placeOf_2 rfl ?_
  refine v_aload_n C 0 dX2_placeOf_3 rfl ?_
  refine g_Pairs_size C ho fl_X2_21 dX2_placeOf_4 ?_
  refine v_icmp_ge C 38 dX2_placeOf_7 (by decide) (fun c11 => ?_) (fun c11 => ?_)
  · replace h := (ite_h h).1 c11
    refine v_aload_n C 0 dX2_placeOf_38 rfl ?_
    refine g_Pairs_size C ho fl_X2_21 dX2_placeOf_39 ?_
    refine v_bipush C 10 dX2_placeOf_42 rfl ?_
    refine v_icmp_lt C 49 dX2_placeOf_44 (by decide) (fun c6 => ?_) (fun c6 => ?_)
    · replace h := (ite_h h).1 c6
      refine v_aload_n C 0 dX2_placeOf_49 rfl ?_
      refine g_Pairs_keys C ho fl_X2_9 dX2_placeOf_50 ?_
      refine v_aload_n C 0 dX2_placeOf_53 rfl ?_
      refine g_Pairs_size C ho fl_X2_21 dX2_placeOf_54 ?_
      refine v_iload_n C 1 dX2_placeOf_57 rfl ?_
      obtain ⟨g1, h⟩ := gd_h h
      refine v_iast C (kd_Pairs_keys ho) (ln_Pairs_keys ho) g1 dX2_placeOf_58 ?_
      refine v_nmm h (fun M2 h => ?_)
      refine v_aload_n C 0 dX2_placeOf_59 rfl ?_
      refine g_Pairs_values C ho fl_X2_15 dX2_placeOf_60 ?_
      refine v_aload_n C 0 dX2_placeOf_63 rfl ?_
      refine g_Pairs_size C ho fl_X2_21 dX2_placeOf_64 ?_
      refine v_iload_n C 2 dX2_placeOf_67 rfl ?_
      obtain ⟨g3, h⟩ := gd_h h
      refine v_iast C (kd_Pairs_values ho) (ln_Pairs_values ho) g3 dX2_placeOf_68 ?_
      refine v_nmm h (fun M4 h => ?_)
      refine v_aload_n C 0 dX2_placeOf_69 rfl ?_
      refine v_dup C dX2_placeOf_70 rfl ?_
      refine g_Pairs_size C ho fl_X2_21 dX2_placeOf_71 ?_
      refine v_iconst C 1 dX2_placeOf_74 rfl ?_
      refine v_iadd C dX2_placeOf_75 ?_
      refine p_Pairs_size C ho fl_X2_21 dX2_placeOf_76 ?_
      refine v_nmm h (fun M5 h => ?_)
      refine v_aload_n C 0 dX2_placeOf_79 rfl ?_
      refine g_Pairs_size C ho fl_X2_21 dX2_placeOf_80 ?_
      refine v_iconst C 1 dX2_placeOf_83 rfl ?_
      refine v_isub C dX2_placeOf_84 ?_
      obtain rfl := Option.some.inj h
      exact v_iret C K dX2_placeOf_85
    · replace h := (ite_h h).2 c6
      refine v_iconst C 0 dX2_placeOf_47 rfl ?_
      obtain rfl := Option.some.inj h
      exact v_iret C K dX2_placeOf_48
  · replace h := (ite_h h).2 c11
    refine v_aload_n C 0 dX2_placeOf_10 rfl ?_
    refine g_Pairs_keys C ho fl_X2_9 dX2_placeOf_11 ?_
    refine v_iload_n C 3 dX2_placeOf_14 rfl ?_
    obtain ⟨g7, h⟩ := gd_h h
    refine v_iald C (kd_Pairs_keys ho) (ln_Pairs_keys ho) g7 dX2_placeOf_15 ?_
    refine v_iload_n C 1 dX2_placeOf_16 rfl ?_
    refine v_icmp_ne C 32 dX2_placeOf_17 (by decide) (fun c10 => ?_) (fun c10 => ?_)
    · replace h := (ite_h h).2 c10
      exact v_Pairs_placeOf_b32 C K ho hk2 h
    · replace h := (ite_h h).1 c10
      refine v_aload_n C 0 dX2_placeOf_20 rfl ?_
      refine g_Pairs_values C ho fl_X2_15 dX2_placeOf_21 ?_
      refine v_iload_n C 3 dX2_placeOf_24 rfl ?_
      obtain ⟨g8, h⟩ := gd_h h
      refine v_iald C (kd_Pairs_values ho) (ln_Pairs_values ho) g8 dX2_placeOf_25 ?_
      refine v_iload_n C 2 dX2_placeOf_26 rfl ?_
      refine v_icmp_ne C 32 dX2_placeOf_27 (by decide) (fun c9 => ?_) (fun c9 => ?_)
      · replace h := (ite_h h).2 c9
        exact v_Pairs_placeOf_b32 C K ho hk2 h
      · replace h := (ite_h h).1 c9
        refine v_iload_n C 3 dX2_placeOf_30 rfl ?_
        obtain rfl := Option.some.inj h
        exact v_iret C K dX2_placeOf_31
def f_Pairs_placeOf_l2 (o : Nat) : Nat → Int32 → Int32 → Int32 → Mem → Option (Int32 × Mem)
  | 0, _, _, _, _ => none
  | n + 1, a1, a2, a3, M => f_Pairs_placeOf_l2B o (f_Pairs_placeOf_l2 o n) a1 a2 a3 M
theorem v_Pairs_placeOf_l2 {S : SE} {X : MX} {q : (Int32 × Mem)} {o : Nat} (C : CX S X cX2_placeOf 4 RX2 0) (K : RT S X (some .int) (some (.int q.1)) q.2) (ho : kd o = 2) : ∀ (n : Nat) (a1 : Int32) (a2 : Int32) (a3 : Int32) (M : Mem), f_Pairs_placeOf_l2 o n a1 a2 a3 M = some q → V S X 4 M 2 [(0, .ref (S.2.1 o)), (1, .int a1), (2, .int a2), (3, .int a3)] [] := by
  intro n
  induction n with
  | zero => intro a1 a2 a3 M h; cases h
  | succ n ih => intro a1 a2 a3 M h; exact v_Pairs_placeOf_l2B C K ho ih h
def f_Pairs_placeOf (o : Nat) (M : Mem) (a1 : Int32) (a2 : Int32) : Option (Int32 × Mem) :=
  f_Pairs_placeOf_l2 o FU a1 a2 0 M
set_option maxRecDepth 20000 in
theorem v_Pairs_placeOf {S : SE} {X : MX} {q : (Int32 × Mem)} {o : Nat} {M : Mem} {a1 : Int32} {a2 : Int32} (C : CX S X cX2_placeOf 4 RX2 0) (K : RT S X (some .int) (some (.int q.1)) q.2) (ho : kd o = 2) (h : f_Pairs_placeOf o M a1 a2 = some q) : V S X 4 M 0 [(0, .ref (S.2.1 o)), (1, .int a1), (2, .int a2)] [] := by
  unfold f_Pairs_placeOf at h
  refine v_iconst C 0 dX2_placeOf_0 rfl ?_
  refine v_istore_n C [(3, .int 0), (0, .ref (S.2.1 o)), (1, .int a1), (2, .int a2)] dX2_placeOf_1 (by decide) rfl ?_
  refine v_sub [1, 2, 3, 0] rfl ?_
  exact v_Pairs_placeOf_l2 C K ho FU _ _ _ _ h
theorem m_Pairs_placeOf {S : SE} (hI : Inj S) (o : Nat) (ho : kd o = 2) (M : Mem) (a1 : Int32) (a2 : Int32) (q : (Int32 × Mem)) (h : f_Pairs_placeOf o M a1 a2 = some q) : CM S yX2_placeOf cX2_placeOf 4 (some .int) 0 [.ref (S.2.1 o), .int a1, .int a2] M (some (.int q.1)) q.2 :=
  CM.of [(0, .ref (S.2.1 o)), (1, .int a1), (2, .int a2)] hI (by decide) rfl (Nat.le_of_ble_eq_true rfl) (fun X C K => v_Pairs_placeOf C K ho h)
def f_Pairs_gather_b41 (o : Nat) (a1 : Nat) (k7 : Int32 → Int32 → Mem → Option Mem) (a2 : Int32) (a3 : Int32) (s0 : Int32) (s1 : Int32) (s3 : Int32) (M : Mem) : Option Mem :=
  (f_Pairs_placeOf o M s1 s0).bind fun q3 =>
  if gin s3 10 then
    bnd (mset q3.2 (o + 3) s3.toNatClampNeg q3.1) fun M5 =>
    k7 a2 (a3 + 1) M5
  else none
set_option maxRecDepth 20000 in
theorem v_Pairs_gather_b41 {S : SE} {X : MX} {q : Mem} {o : Nat} {a1 : Nat} {k7 : Int32 → Int32 → Mem → Option Mem} {a2 : Int32} {a3 : Int32} {s0 : Int32} {s1 : Int32} {s3 : Int32} {M : Mem} (C : CX S X cX2_gather 4 RX2 1) (K : RT S X none none q) (ho : kd o = 2) (ha1 : kd a1 = 8) (hk7 : ∀ (a2 : Int32) (a3 : Int32) (M : Mem), k7 a2 a3 M = some q → V S X 4 M 7 [(0, .ref (S.2.1 o)), (1, .ref (S.2.1 a1)), (2, .int a2), (3, .int a3)] []) (h : f_Pairs_gather_b41 o a1 k7 a2 a3 s0 s1 s3 M = some q) : V S X 4 M 41 [(0, .ref (S.2.1 o)), (1, .ref (S.2.1 a1)), (2, .int a2), (3, .int a3)] [.int s0, .int s1, .ref (S.2.1 o), .int s3, .ref (S.2.1 (o + 3))] := by
  unfold f_Pairs_gather_b41 at h
  obtain ⟨q3, hq3, h⟩ := Option.bind_eq_some_iff.mp h
  refine cv2 C [.int s3, .ref (S.2.1 (o + 3))] ho (m_Pairs_placeOf C.inj o ho M s1 s0 q3 hq3) ci_Pairs_placeOf rfl lk_X2_36 (by decide) rfl rfl (Nat.le_of_ble_eq_true rfl) dX2_gather_41 ?_
  obtain ⟨g4, h⟩ := gd_h h
  refine v_iast C (kd_Pairs_places ho) (ln_Pairs_places ho) g4 dX2_gather_44 ?_
  refine v_nmm h (fun M5 h => ?_)
  refine v_iinc C [(3, .int (a3 + 1)), (0, .ref (S.2.1 o)), (1, .ref (S.2.1 a1)), (2, .int a2)] 3 (a3 + 1) dX2_gather_45 rfl rfl (by decide) rfl ?_
  refine v_goto C 7 dX2_gather_48 (by decide) ?_
  refine v_sub [1, 2, 3, 0] rfl ?_
  exact hk7 _ _ _ h
def f_Pairs_gather_l7B (o : Nat) (a1 : Nat) (k7 : Int32 → Int32 → Mem → Option Mem) (a2 : Int32) (a3 : Int32) (M : Mem) : Option Mem :=
  if (M a1 2) ≤ a3 then
    some M
  else
    if gin a3 10 then
      if a2 = 0 then
        f_Pairs_gather_b41 o a1 k7 a2 a3 (-1) (M (a1 + 1) a3.toNatClampNeg) a3 M
      else
        if gin a3 10 then
          f_Pairs_gather_b41 o a1 k7 a2 a3 (M (a1 + 2) a3.toNatClampNeg) (M (a1 + 1) a3.toNatClampNeg) a3 M
        else none
    else none
set_option maxRecDepth 20000 in
theorem v_Pairs_gather_l7B {S : SE} {X : MX} {q : Mem} {o : Nat} {a1 : Nat} {k7 : Int32 → Int32 → Mem → Option Mem} {a2 : Int32} {a3 : Int32} {M : Mem} (C : CX S X cX2_gather 4 RX2 1) (K : RT S X none none q) (ho : kd o = 2) (ha1 : kd a1 = 8) (hk7 : ∀ (a2 : Int32) (a3 : Int32) (M : Mem), k7 a2 a3 M = some q → V S X 4 M 7 [(0, .ref (S.2.1 o)), (1, .ref (S.2.1 a1)), (2, .int a2), (3, .int a3)] []) (h : f_Pairs_gather_l7B o a1 k7 a2 a3 M = some q) : V S X 4 M 7 [(0, .ref (S.2.1 o)), (1, .ref (S.2.1 a1)), (2, .int a2), (3, .int a3)] [] := by
  unfold f_Pairs_gather_l7B at h
  refine v_iload_n C 3 dX2_gather_7 rfl ?_
  refine v_aload_n C 1 dX2_gather_8 rfl ?_
  refine g_Table_size C ha1 fl_X2_31 dX2_gather_9 ?_
  refine v_icmp_ge C 51 dX2_gather_12 (by decide) (fun c8 => ?_) (fun c8 => ?_)
  · replace h := (ite_h h).1 c8
    obtain rfl := Option.some.inj h
    exact v_vret C K dX2_gather_51
  · replace h := (ite_h h).2 c8
    refine v_aload_n C 0 dX2_gather_15 rfl ?_
    refine g_Pairs_places C ho fl_X2_18 dX2_gather_16 ?_
    refine v_iload_n C 3 dX2_gather_19 rfl ?_
    refine v_aload_n C 0 dX2_gather_20 rfl ?_
    refine v_aload_n C 1 dX2_gather_21 rfl ?_
    refine g_Table_keys C ha1 fl_X2_34 dX2_gather_22 ?_
    refine v_iload_n C 3 dX2_gather_25 rfl ?_
    obtain ⟨g2, h⟩ := gd_h h
    refine v_iald C (kd_Table_keys ha1) (ln_Table_keys ha1) g2 dX2_gather_26 ?_
    refine v_iload_n C 2 dX2_gather_27 rfl ?_
    refine v_if_eq C 40 dX2_gather_28 (by decide) (fun c7 => ?_) (fun c7 => ?_)
    · replace h := (ite_h h).1 c7
      refine v_iconst C (-1) dX2_gather_40 rfl ?_
      exact v_Pairs_gather_b41 C K ho ha1 hk7 h
    · replace h := (ite_h h).2 c7
      refine v_aload_n C 1 dX2_gather_31 rfl ?_
      refine g_Table_values C ha1 fl_X2_35 dX2_gather_32 ?_
      refine v_iload_n C 3 dX2_gather_35 rfl ?_
      obtain ⟨g6, h⟩ := gd_h h
      refine v_iald C (kd_Table_values ha1) (ln_Table_values ha1) g6 dX2_gather_36 ?_
      refine v_goto C 41 dX2_gather_37 (by decide) ?_
      exact v_Pairs_gather_b41 C K ho ha1 hk7 h
def f_Pairs_gather_l7 (o : Nat) (a1 : Nat) : Nat → Int32 → Int32 → Mem → Option Mem
  | 0, _, _, _ => none
  | n + 1, a2, a3, M => f_Pairs_gather_l7B o a1 (f_Pairs_gather_l7 o a1 n) a2 a3 M
theorem v_Pairs_gather_l7 {S : SE} {X : MX} {q : Mem} {o : Nat} {a1 : Nat} (C : CX S X cX2_gather 4 RX2 1) (K : RT S X none none q) (ho : kd o = 2) (ha1 : kd a1 = 8) : ∀ (n : Nat) (a2 : Int32) (a3 : Int32) (M : Mem), f_Pairs_gather_l7 o a1 n a2 a3 M = some q → V S X 4 M 7 [(0, .ref (S.2.1 o)), (1, .ref (S.2.1 a1)), (2, .int a2), (3, .int a3)] [] := by
  intro n
  induction n with
  | zero => intro a2 a3 M h; cases h
  | succ n ih => intro a2 a3 M h; exact v_Pairs_gather_l7B C K ho ha1 ih h
def f_Pairs_gather (o : Nat) (a1 : Nat) (M : Mem) (a2 : Int32) : Option Mem :=
  bnd (mset M o 3 0) fun M1 =>
  f_Pairs_gather_l7 o a1 FU a2 0 M1
set_option maxRecDepth 20000 in
theorem v_Pairs_gather {S : SE} {X : MX} {q : Mem} {o : Nat} {a1 : Nat} {M : Mem} {a2 : Int32} (C : CX S X cX2_gather 4 RX2 1) (K : RT S X none none q) (ho : kd o = 2) (ha1 : kd a1 = 8) (h : f_Pairs_gather o a1 M a2 = some q) : V S X 4 M 0 [(0, .ref (S.2.1 o)), (1, .ref (S.2.1 a1)), (2, .int a2)] [] := by
  unfold f_Pairs_gather at h
  refine v_aload_n C 0 dX2_gather_0 rfl ?_
  refine v_iconst C 0 dX2_gather_1 rfl ?_
  refine p_Pairs_size C ho fl_X2_21 dX2_gather_2 ?_
  refine v_nmm h (fun M1 h => ?_)
  refine v_iconst C 0 dX2_gather_5 rfl ?_
  refine v_istore_n C [(3, .int 0), (0, .ref (S.2.1 o)), (1, .ref (S.2.1 a1)), (2, .int a2)] dX2_gather_6 (by decide) rfl ?_
  refine v_sub [1, 2, 3, 0] rfl ?_
  exact v_Pairs_gather_l7 C K ho ha1 FU _ _ _ h
theorem m_Pairs_gather {S : SE} (hI : Inj S) (o : Nat) (a1 : Nat) (ho : kd o = 2) (ha1 : kd a1 = 8) (M : Mem) (a2 : Int32) (q : Mem) (h : f_Pairs_gather o a1 M a2 = some q) : CM S yX2_gather cX2_gather 4 none 1 [.ref (S.2.1 o), .ref (S.2.1 a1), .int a2] M none q :=
  CM.of [(0, .ref (S.2.1 o)), (1, .ref (S.2.1 a1)), (2, .int a2)] hI (by decide) rfl (Nat.le_of_ble_eq_true rfl) (fun X C K => v_Pairs_gather C K ho ha1 h)
def f_Pairs_keyAt_b21 (o : Nat) (M : Mem) : Option Int32 :=
  some (-1)
set_option maxRecDepth 20000 in
theorem v_Pairs_keyAt_b21 {S : SE} {X : MX} {q : Int32} {o : Nat} {M : Mem} (C : CX S X cX2_keyAt 2 RX2 0) (K : RT S X (some .int) (some (.int q)) M) (ho : kd o = 2) (h : f_Pairs_keyAt_b21 o M = some q) : V S X 2 M 21 [] [] := by
  unfold f_Pairs_keyAt_b21 at h
  refine v_iconst C (-1) dX2_keyAt_21 rfl ?_
  obtain rfl := Option.some.inj h
  exact v_iret C K dX2_keyAt_22
def f_Pairs_keyAt (o : Nat) (M : Mem) (a1 : Int32) : Option Int32 :=
  if a1 < 0 then
    f_Pairs_keyAt_b21 o M
  else
    if (M o 3) ≤ a1 then
      f_Pairs_keyAt_b21 o M
    else
      if gin a1 10 then
        some (M (o + 1) a1.toNatClampNeg)
      else none
set_option maxRecDepth 20000 in
theorem v_Pairs_keyAt {S : SE} {X : MX} {q : Int32} {o : Nat} {M : Mem} {a1 : Int32} (C : CX S X cX2_keyAt 2 RX2 0) (K : RT S X (some .int) (some (.int q)) M) (ho : kd o = 2) (h : f_Pairs_keyAt o M a1 = some q) : V S X 2 M 0 [(0, .ref (S.2.1 o)), (1, .int a1)] [] := by
  unfold f_Pairs_keyAt at h
  refine v_iload_n C 1 dX2_keyAt_0 rfl ?_
  refine v_if_lt C 21 dX2_keyAt_1 (by decide) (fun c3 => ?_) (fun c3 => ?_)
  · replace h := (ite_h h).1 c3
    refine v_sub [] rfl ?_
    exact v_Pairs_keyAt_b21 C K ho h
  · replace h := (ite_h h).2 c3
    refine v_iload_n C 1 dX2_keyAt_4 rfl ?_
    refine v_aload_n C 0 dX2_keyAt_5 rfl ?_
    refine g_Pairs_size C ho fl_X2_21 dX2_keyAt_6 ?_
    refine v_icmp_ge C 21 dX2_keyAt_9 (by decide) (fun c2 => ?_) (fun c2 => ?_)
    · replace h := (ite_h h).1 c2
      refine v_sub [] rfl ?_
      exact v_Pairs_keyAt_b21 C K ho h
    · replace h := (ite_h h).2 c2
      refine v_aload_n C 0 dX2_keyAt_12 rfl ?_
      refine g_Pairs_keys C ho fl_X2_9 dX2_keyAt_13 ?_
      refine v_iload_n C 1 dX2_keyAt_16 rfl ?_
      obtain ⟨g1, h⟩ := gd_h h
      refine v_iald C (kd_Pairs_keys ho) (ln_Pairs_keys ho) g1 dX2_keyAt_17 ?_
      refine v_goto C 22 dX2_keyAt_18 (by decide) ?_
      obtain rfl := Option.some.inj h
      exact v_iret C K dX2_keyAt_22
theorem m_Pairs_keyAt {S : SE} (hI : Inj S) (o : Nat) (ho : kd o = 2) (M : Mem) (a1 : Int32) (q : Int32) (h : f_Pairs_keyAt o M a1 = some q) : CM S yX2_keyAt cX2_keyAt 2 (some .int) 0 [.ref (S.2.1 o), .int a1] M (some (.int q)) M :=
  CM.of [(0, .ref (S.2.1 o)), (1, .int a1)] hI (by decide) rfl (Nat.le_of_ble_eq_true rfl) (fun X C K => v_Pairs_keyAt C K ho h)
def f_Pairs_valueAt_b21 (o : Nat) (M : Mem) : Option Int32 :=
  some (-1)
set_option maxRecDepth 20000 in
theorem v_Pairs_valueAt_b21 {S : SE} {X : MX} {q : Int32} {o : Nat} {M : Mem} (C : CX S X cX2_valueAt 2 RX2 0) (K : RT S X (some .int) (some (.int q)) M) (ho : kd o = 2) (h : f_Pairs_valueAt_b21 o M = some q) : V S X 2 M 21 [] [] := by
  unfold f_Pairs_valueAt_b21 at h
  refine v_iconst C (-1) dX2_valueAt_21 rfl ?_
  obtain rfl := Option.some.inj h
  exact v_iret C K dX2_valueAt_22
def f_Pairs_valueAt (o : Nat) (M : Mem) (a1 : Int32) : Option Int32 :=
  if a1 < 0 then
    f_Pairs_valueAt_b21 o M
  else
    if (M o 3) ≤ a1 then
      f_Pairs_valueAt_b21 o M
    else
      if gin a1 10 then
        some (M (o + 2) a1.toNatClampNeg)
      else none
set_option maxRecDepth 20000 in
theorem v_Pairs_valueAt {S : SE} {X : MX} {q : Int32} {o : Nat} {M : Mem} {a1 : Int32} (C : CX S X cX2_valueAt 2 RX2 0) (K : RT S X (some .int) (some (.int q)) M) (ho : kd o = 2) (h : f_Pairs_valueAt o M a1 = some q) : V S X 2 M 0 [(0, .ref (S.2.1 o)), (1, .int a1)] [] := by
  unfold f_Pairs_valueAt at h
  refine v_iload_n C 1 dX2_valueAt_0 rfl ?_
  refine v_if_lt C 21 dX2_valueAt_1 (by decide) (fun c3 => ?_) (fun c3 => ?_)
  · replace h := (ite_h h).1 c3
    refine v_sub [] rfl ?_
    exact v_Pairs_valueAt_b21 C K ho h
  · replace h := (ite_h h).2 c3
    refine v_iload_n C 1 dX2_valueAt_4 rfl ?_
    refine v_aload_n C 0 dX2_valueAt_5 rfl ?_
    refine g_Pairs_size C ho fl_X2_21 dX2_valueAt_6 ?_
    refine v_icmp_ge C 21 dX2_valueAt_9 (by decide) (fun c2 => ?_) (fun c2 => ?_)
    · replace h := (ite_h h).1 c2
      refine v_sub [] rfl ?_
      exact v_Pairs_valueAt_b21 C K ho h
    · replace h := (ite_h h).2 c2
      refine v_aload_n C 0 dX2_valueAt_12 rfl ?_
      refine g_Pairs_values C ho fl_X2_15 dX2_valueAt_13 ?_
      refine v_iload_n C 1 dX2_valueAt_16 rfl ?_
      obtain ⟨g1, h⟩ := gd_h h
      refine v_iald C (kd_Pairs_values ho) (ln_Pairs_values ho) g1 dX2_valueAt_17 ?_
      refine v_goto C 22 dX2_valueAt_18 (by decide) ?_
      obtain rfl := Option.some.inj h
      exact v_iret C K dX2_valueAt_22
theorem m_Pairs_valueAt {S : SE} (hI : Inj S) (o : Nat) (ho : kd o = 2) (M : Mem) (a1 : Int32) (q : Int32) (h : f_Pairs_valueAt o M a1 = some q) : CM S yX2_valueAt cX2_valueAt 2 (some .int) 0 [.ref (S.2.1 o), .int a1] M (some (.int q)) M :=
  CM.of [(0, .ref (S.2.1 o)), (1, .int a1)] hI (by decide) rfl (Nat.le_of_ble_eq_true rfl) (fun X C K => v_Pairs_valueAt C K ho h)
def f_Tally_isError_b17 (o : Nat) (M : Mem) : Int32 :=
  0
set_option maxRecDepth 20000 in
theorem v_Tally_isError_b17 {S : SE} {X : MX} {q : Int32} {o : Nat} {M : Mem} (C : CX S X cX9_isError 2 RX9 0) (K : RT S X (some .boolean) (some (.int q)) M) (ho : kd o = 9) (h : f_Tally_isError_b17 o M = q) : V S X 2 M 17 [] [] := by
  unfold f_Tally_isError_b17 at h
  refine v_iconst C 0 dX9_isError_17 rfl ?_
  subst h
  exact v_zret C (Or.inl rfl) K dX9_isError_18
def f_Tally_isError (o : Nat) (M : Mem) (a1 : Int32) : Int32 :=
  if a1 = 5 then
    if (M o 0) ≤ 1 then
      f_Tally_isError_b17 o M
    else
      1
  else
    f_Tally_isError_b17 o M
set_option maxRecDepth 20000 in
theorem v_Tally_isError {S : SE} {X : MX} {q : Int32} {o : Nat} {M : Mem} {a1 : Int32} (C : CX S X cX9_isError 2 RX9 0) (K : RT S X (some .boolean) (some (.int q)) M) (ho : kd o = 9) (h : f_Tally_isError o M a1 = q) : V S X 2 M 0 [(0, .ref (S.2.1 o)), (1, .int a1)] [] := by
  unfold f_Tally_isError at h
  refine v_iload_n C 1 dX9_isError_0 rfl ?_
  refine v_iconst C 5 dX9_isError_1 rfl ?_
  refine v_icmp_ne C 17 dX9_isError_2 (by decide) (fun c2 => ?_) (fun c2 => ?_)
  · replace h := (ite_h h).2 c2
    refine v_sub [] rfl ?_
    exact v_Tally_isError_b17 C K ho h
  · replace h := (ite_h h).1 c2
    refine v_aload_n C 0 dX9_isError_5 rfl ?_
    refine g_Tally_rows C ho fl_X9_9 dX9_isError_6 ?_
    refine v_iconst C 1 dX9_isError_9 rfl ?_
    refine v_icmp_le C 17 dX9_isError_10 (by decide) (fun c1 => ?_) (fun c1 => ?_)
    · replace h := (ite_h h).1 c1
      refine v_sub [] rfl ?_
      exact v_Tally_isError_b17 C K ho h
    · replace h := (ite_h h).2 c1
      refine v_iconst C 1 dX9_isError_13 rfl ?_
      refine v_goto C 18 dX9_isError_14 (by decide) ?_
      subst h
      exact v_zret C (Or.inr rfl) K dX9_isError_18
theorem m_Tally_isError {S : SE} (hI : Inj S) (o : Nat) (ho : kd o = 9) (M : Mem) (a1 : Int32) (q : Int32) (h : f_Tally_isError o M a1 = q) : CM S yX9_isError cX9_isError 2 (some .boolean) 0 [.ref (S.2.1 o), .int a1] M (some (.int q)) M :=
  CM.of [(0, .ref (S.2.1 o)), (1, .int a1)] hI (by decide) rfl (Nat.le_of_ble_eq_true rfl) (fun X C K => v_Tally_isError C K ho h)
theorem bz_Tally_isError (o : Nat) (M : Mem) (a1 : Int32) : f_Tally_isError o M a1 = 0 ∨ f_Tally_isError o M a1 = 1 := by unfold f_Tally_isError f_Tally_isError_b17; (repeat' split) <;> first | exact Or.inl rfl | exact Or.inr rfl
def f_Tally_mean (o : Nat) (M : Mem) : Option UInt32 :=
  if (M o 1) ≤ 0 then
    some FP.fconst0
  else
    if (FP.fdiv (FP.i2f (M o 2)) (FP.i2f (M o 1))) &&& 0x7fffffff ≤ 0x7f800000 then
      some (FP.fdiv (FP.i2f (M o 2)) (FP.i2f (M o 1)))
    else none
set_option maxRecDepth 20000 in
theorem v_Tally_mean {S : SE} {X : MX} {q : UInt32} {o : Nat} {M : Mem} (C : CX S X cX9_mean 1 RX9 0) (K : RT S X (some .float) (some (.float q)) M) (ho : kd o = 9) (h : f_Tally_mean o M = some q) : V S X 1 M 0 [(0, .ref (S.2.1 o))] [] := by
  unfold f_Tally_mean at h
  refine v_aload_n C 0 dX9_mean_0 rfl ?_
  refine g_Tally_present C ho fl_X9_15 dX9_mean_1 ?_
  refine v_if_le C 21 dX9_mean_4 (by decide) (fun c2 => ?_) (fun c2 => ?_)
  · replace h := (ite_h h).1 c2
    refine v_fconst0 C dX9_mean_21 ?_
    obtain rfl := Option.some.inj h
    exact v_fret C K dX9_mean_22
  · replace h := (ite_h h).2 c2
    refine v_aload_n C 0 dX9_mean_7 rfl ?_
    refine g_Tally_sum C ho fl_X9_18 dX9_mean_8 ?_
    refine v_i2f C dX9_mean_11 ?_
    refine v_aload_n C 0 dX9_mean_12 rfl ?_
    refine g_Tally_present C ho fl_X9_15 dX9_mean_13 ?_
    refine v_i2f C dX9_mean_16 ?_
    obtain ⟨g1, h⟩ := gd_h h
    refine v_fdiv C g1 dX9_mean_17 ?_
    refine v_goto C 22 dX9_mean_18 (by decide) ?_
    obtain rfl := Option.some.inj h
    exact v_fret C K dX9_mean_22
theorem m_Tally_mean {S : SE} (hI : Inj S) (o : Nat) (ho : kd o = 9) (M : Mem) (q : UInt32) (h : f_Tally_mean o M = some q) : CM S yX9_mean cX9_mean 1 (some .float) 0 [.ref (S.2.1 o)] M (some (.float q)) M :=
  CM.of [(0, .ref (S.2.1 o))] hI (by decide) rfl (Nat.le_of_ble_eq_true rfl) (fun X C K => v_Tally_mean C K ho h)
def f_U_bitsOf_b67 (a1 : Int32) (a2 : UInt32) : Option Int32 :=
  if (FP.fsub a2 FP.fconst1) &&& 0x7fffffff ≤ 0x7f800000 then
    if (FP.fmul (FP.fsub a2 FP.fconst1) 1258291200) &&& 0x7fffffff ≤ 0x7f800000 then
      some ((a1 <<< (23 &&& 31)) ||| (FP.f2i (FP.fmul (FP.fsub a2 FP.fconst1) 1258291200)))
    else none
  else none
set_option maxRecDepth 20000 in
theorem v_U_bitsOf_b67 {S : SE} {X : MX} {q : Int32} {a1 : Int32} {a2 : UInt32} {M : Mem} (C : CX S X cX11_bitsOf 4 RX11 0) (K : RT S X (some .int) (some (.int q)) M) (h : f_U_bitsOf_b67 a1 a2 = some q) : V S X 4 M 67 [(1, .int a1), (2, .float a2)] [] := by
  unfold f_U_bitsOf_b67 at h
  refine v_iload_n C 0 dX11_bitsOf_67 rfl ?_
  refine v_bipush C 23 dX11_bitsOf_68 rfl ?_
  refine v_ishl C dX11_bitsOf_70 ?_
  refine v_fload_n C 1 dX11_bitsOf_71 rfl ?_
  refine v_fconst1 C dX11_bitsOf_72 ?_
  obtain ⟨g1, h⟩ := gd_h h
  refine v_fsub C g1 dX11_bitsOf_73 ?_
  refine v_ldcwf C kc_X11_290 dX11_bitsOf_74 ?_
  obtain ⟨g2, h⟩ := gd_h h
  refine v_fmul C g2 dX11_bitsOf_77 ?_
  refine v_f2i C dX11_bitsOf_78 ?_
  refine v_ior C dX11_bitsOf_79 ?_
  obtain rfl := Option.some.inj h
  exact v_iret C K dX11_bitsOf_80
def f_U_bitsOf_l42B (k42 : Int32 → UInt32 → Int32 → Option Int32) (a1 : Int32) (a2 : UInt32) (a3 : Int32) : Option Int32 :=
  if 126 ≤ a3 then
    f_U_bitsOf_b67 a1 a2
  else
    if 0 ≤ (Op.cmpValue (FP.fcmp a2 FP.fconst1) .g) then
      f_U_bitsOf_b67 a1 a2
    else
      if (FP.fmul a2 FP.fconst2) &&& 0x7fffffff ≤ 0x7f800000 then
        bnd (FP.fmul a2 FP.fconst2) fun z4 =>
        k42 (a1 + (-1)) z4 (a3 + 1)
      else none
set_option maxRecDepth 20000 in
theorem v_U_bitsOf_l42B {S : SE} {X : MX} {q : Int32} {k42 : Int32 → UInt32 → Int32 → Option Int32} {a1 : Int32} {a2 : UInt32} {a3 : Int32} {M : Mem} (C : CX S X cX11_bitsOf 4 RX11 0) (K : RT S X (some .int) (some (.int q)) M) (hk42 : ∀ (a1 : Int32) (a2 : UInt32) (a3 : Int32), k42 a1 a2 a3 = some q → V S X 4 M 42 [(1, .int a1), (2, .float a2), (3, .int a3)] []) (h : f_U_bitsOf_l42B k42 a1 a2 a3 = some q) : V S X 4 M 42 [(1, .int a1), (2, .float a2), (3, .int a3)] [] := by
  unfold f_U_bitsOf_l42B at h
  refine v_iload_n C 2 dX11_bitsOf_42 rfl ?_
  refine v_bipush C 126 dX11_bitsOf_43 rfl ?_
  refine v_icmp_ge C 67 dX11_bitsOf_45 (by decide) (fun c6 => ?_) (fun c6 => ?_)
  · replace h := (ite_h h).1 c6
    refine v_sub [0, 1] rfl ?_
    exact v_U_bitsOf_b67 C K h
  · replace h := (ite_h h).2 c6
    refine v_fload_n C 1 dX11_bitsOf_48 rfl ?_
    refine v_fconst1 C dX11_bitsOf_49 ?_
    refine v_fcmp C dX11_bitsOf_50 ?_
    refine v_if_ge C 67 dX11_bitsOf_51 (by decide) (fun c5 => ?_) (fun c5 => ?_)
    · replace h := (ite_h h).1 c5
      refine v_sub [0, 1] rfl ?_
      exact v_U_bitsOf_b67 C K h
    · replace h := (ite_h h).2 c5
      refine v_fload_n C 1 dX11_bitsOf_54 rfl ?_
      refine v_fconst2 C dX11_bitsOf_55 ?_
      obtain ⟨g3, h⟩ := gd_h h
      refine v_fmul C g3 dX11_bitsOf_56 ?_
      refine v_nmf h (fun z4 h => ?_)
      refine v_fstore_n C [(2, .float z4), (1, .int a1), (3, .int a3)] dX11_bitsOf_57 (by decide) rfl ?_
      refine v_iinc C [(1, .int (a1 + (-1))), (2, .float z4), (3, .int a3)] 1 (a1 + (-1)) dX11_bitsOf_58 rfl rfl (by decide) rfl ?_
      refine v_iinc C [(3, .int (a3 + 1)), (1, .int (a1 + (-1))), (2, .float z4)] 2 (a3 + 1) dX11_bitsOf_61 rfl rfl (by decide) rfl ?_
      refine v_goto C 42 dX11_bitsOf_64 (by decide) ?_
      refine v_sub [1, 2, 0] rfl ?_
      exact hk42 _ _ _ h
def f_U_bitsOf_l42 : Nat → Int32 → UInt32 → Int32 → Option Int32
  | 0, _, _, _ => none
  | n + 1, a1, a2, a3 => f_U_bitsOf_l42B (f_U_bitsOf_l42 n) a1 a2 a3
theorem v_U_bitsOf_l42 {S : SE} {X : MX} {q : Int32} {M : Mem} (C : CX S X cX11_bitsOf 4 RX11 0) (K : RT S X (some .int) (some (.int q)) M) : ∀ (n : Nat) (a1 : Int32) (a2 : UInt32) (a3 : Int32), f_U_bitsOf_l42 n a1 a2 a3 = some q → V S X 4 M 42 [(1, .int a1), (2, .float a2), (3, .int a3)] [] := by
  intro n
  induction n with
  | zero => intro a1 a2 a3 h; cases h
  | succ n ih => intro a1 a2 a3 h; exact v_U_bitsOf_l42B C K ih h
def f_U_bitsOf_b40 (a1 : Int32) (a2 : UInt32) : Option Int32 :=
  f_U_bitsOf_l42 FU a1 a2 0
set_option maxRecDepth 20000 in
theorem v_U_bitsOf_b40 {S : SE} {X : MX} {q : Int32} {a1 : Int32} {a2 : UInt32} {M : Mem} (C : CX S X cX11_bitsOf 4 RX11 0) (K : RT S X (some .int) (some (.int q)) M) (h : f_U_bitsOf_b40 a1 a2 = some q) : V S X 4 M 40 [(1, .int a1), (2, .float a2)] [] := by
  unfold f_U_bitsOf_b40 at h
  refine v_iconst C 0 dX11_bitsOf_40 rfl ?_
  refine v_istore_n C [(3, .int 0), (1, .int a1), (2, .float a2)] dX11_bitsOf_41 (by decide) rfl ?_
  refine v_sub [1, 2, 0] rfl ?_
  exact v_U_bitsOf_l42 C K FU _ _ _ h
def f_U_bitsOf_l15B (k15 : Int32 → UInt32 → Int32 → Option Int32) (a1 : Int32) (a2 : UInt32) (a3 : Int32) : Option Int32 :=
  if 127 ≤ a3 then
    f_U_bitsOf_b40 a1 a2
  else
    if (Op.cmpValue (FP.fcmp a2 FP.fconst2) .l) < 0 then
      f_U_bitsOf_b40 a1 a2
    else
      if (FP.fdiv a2 FP.fconst2) &&& 0x7fffffff ≤ 0x7f800000 then
        bnd (FP.fdiv a2 FP.fconst2) fun z8 =>
        k15 (a1 + 1) z8 (a3 + 1)
      else none
set_option maxRecDepth 20000 in
theorem v_U_bitsOf_l15B {S : SE} {X : MX} {q : Int32} {k15 : Int32 → UInt32 → Int32 → Option Int32} {a1 : Int32} {a2 : UInt32} {a3 : Int32} {M : Mem} (C : CX S X cX11_bitsOf 4 RX11 0) (K : RT S X (some .int) (some (.int q)) M) (hk15 : ∀ (a1 : Int32) (a2 : UInt32) (a3 : Int32), k15 a1 a2 a3 = some q → V S X 4 M 15 [(1, .int a1), (2, .float a2), (3, .int a3)] []) (h : f_U_bitsOf_l15B k15 a1 a2 a3 = some q) : V S X 4 M 15 [(1, .int a1), (2, .float a2), (3, .int a3)] [] := by
  unfold f_U_bitsOf_l15B at h
  refine v_iload_n C 2 dX11_bitsOf_15 rfl ?_
  refine v_bipush C 127 dX11_bitsOf_16 rfl ?_
  refine v_icmp_ge C 40 dX11_bitsOf_18 (by decide) (fun c10 => ?_) (fun c10 => ?_)
  · replace h := (ite_h h).1 c10
    refine v_sub [0, 1] rfl ?_
    exact v_U_bitsOf_b40 C K h
  · replace h := (ite_h h).2 c10
    refine v_fload_n C 1 dX11_bitsOf_21 rfl ?_
    refine v_fconst2 C dX11_bitsOf_22 ?_
    refine v_fcmp C dX11_bitsOf_23 ?_
    refine v_if_lt C 40 dX11_bitsOf_24 (by decide) (fun c9 => ?_) (fun c9 => ?_)
    · replace h := (ite_h h).1 c9
      refine v_sub [0, 1] rfl ?_
      exact v_U_bitsOf_b40 C K h
    · replace h := (ite_h h).2 c9
      refine v_fload_n C 1 dX11_bitsOf_27 rfl ?_
      refine v_fconst2 C dX11_bitsOf_28 ?_
      obtain ⟨g7, h⟩ := gd_h h
      refine v_fdiv C g7 dX11_bitsOf_29 ?_
      refine v_nmf h (fun z8 h => ?_)
      refine v_fstore_n C [(2, .float z8), (1, .int a1), (3, .int a3)] dX11_bitsOf_30 (by decide) rfl ?_
      refine v_iinc C [(1, .int (a1 + 1)), (2, .float z8), (3, .int a3)] 1 (a1 + 1) dX11_bitsOf_31 rfl rfl (by decide) rfl ?_
      refine v_iinc C [(3, .int (a3 + 1)), (1, .int (a1 + 1)), (2, .float z8)] 2 (a3 + 1) dX11_bitsOf_34 rfl rfl (by decide) rfl ?_
      refine v_goto C 15 dX11_bitsOf_37 (by decide) ?_
      refine v_sub [1, 2, 0] rfl ?_
      exact hk15 _ _ _ h
def f_U_bitsOf_l15 : Nat → Int32 → UInt32 → Int32 → Option Int32
  | 0, _, _, _ => none
  | n + 1, a1, a2, a3 => f_U_bitsOf_l15B (f_U_bitsOf_l15 n) a1 a2 a3
theorem v_U_bitsOf_l15 {S : SE} {X : MX} {q : Int32} {M : Mem} (C : CX S X cX11_bitsOf 4 RX11 0) (K : RT S X (some .int) (some (.int q)) M) : ∀ (n : Nat) (a1 : Int32) (a2 : UInt32) (a3 : Int32), f_U_bitsOf_l15 n a1 a2 a3 = some q → V S X 4 M 15 [(1, .int a1), (2, .float a2), (3, .int a3)] [] := by
  intro n
  induction n with
  | zero => intro a1 a2 a3 h; cases h
  | succ n ih => intro a1 a2 a3 h; exact v_U_bitsOf_l15B C K ih h
def f_U_bitsOf (a0 : UInt32) : Option Int32 :=
  if 0 < (Op.cmpValue (FP.fcmp a0 FP.fconst0) .l) then
    f_U_bitsOf_l15 FU 127 a0 0
  else
    some 0
set_option maxRecDepth 20000 in
theorem v_U_bitsOf {S : SE} {X : MX} {q : Int32} {M : Mem} {a0 : UInt32} (C : CX S X cX11_bitsOf 4 RX11 0) (K : RT S X (some .int) (some (.int q)) M) (h : f_U_bitsOf a0 = some q) : V S X 4 M 0 [(0, .float a0)] [] := by
  unfold f_U_bitsOf at h
  refine v_fload_n C 0 dX11_bitsOf_0 rfl ?_
  refine v_fconst0 C dX11_bitsOf_1 ?_
  refine v_fcmp C dX11_bitsOf_2 ?_
  refine v_if_gt C 8 dX11_bitsOf_3 (by decide) (fun c11 => ?_) (fun c11 => ?_)
  · replace h := (ite_h h).1 c11
    refine v_bipush C 127 dX11_bitsOf_8 rfl ?_
    refine v_istore_n C [(1, .int 127), (0, .float a0)] dX11_bitsOf_10 (by decide) rfl ?_
    refine v_fload_n C 1 dX11_bitsOf_11 rfl ?_
    refine v_fstore_n C [(2, .float a0), (1, .int 127), (0, .float a0)] dX11_bitsOf_12 (by decide) rfl ?_
    refine v_iconst C 0 dX11_bitsOf_13 rfl ?_
    refine v_istore_n C [(3, .int 0), (2, .float a0), (1, .int 127), (0, .float a0)] dX11_bitsOf_14 (by decide) rfl ?_
    refine v_sub [2, 1, 0] rfl ?_
    exact v_U_bitsOf_l15 C K FU _ _ _ h
  · replace h := (ite_h h).2 c11
    refine v_iconst C 0 dX11_bitsOf_6 rfl ?_
    obtain rfl := Option.some.inj h
    exact v_iret C K dX11_bitsOf_7
theorem m_U_bitsOf {S : SE} (hI : Inj S) (M : Mem) (a0 : UInt32) (q : Int32) (h : f_U_bitsOf a0 = some q) : CM S yX11_bitsOf cX11_bitsOf 4 (some .int) 0 [.float a0] M (some (.int q)) M :=
  CM.of [(0, .float a0)] hI (by decide) rfl (Nat.le_of_ble_eq_true rfl) (fun X C K => v_U_bitsOf C K  h)
def f_Tally_isIn_b32 (o : Nat) (M : Mem) : Int32 :=
  0
set_option maxRecDepth 20000 in
theorem v_Tally_isIn_b32 {S : SE} {X : MX} {q : Int32} {o : Nat} {M : Mem} (C : CX S X cX9_isIn 2 RX9 0) (K : RT S X (some .int) (some (.int q)) M) (ho : kd o = 9) (h : f_Tally_isIn_b32 o M = q) : V S X 2 M 32 [] [] := by
  unfold f_Tally_isIn_b32 at h
  refine v_iconst C 0 dX9_isIn_32 rfl ?_
  refine v_goto C 37 dX9_isIn_33 (by decide) ?_
  subst h
  exact v_iret C K dX9_isIn_37
def f_Tally_isIn_b36 (o : Nat) (M : Mem) : Int32 :=
  (-1)
set_option maxRecDepth 20000 in
theorem v_Tally_isIn_b36 {S : SE} {X : MX} {q : Int32} {o : Nat} {M : Mem} (C : CX S X cX9_isIn 2 RX9 0) (K : RT S X (some .int) (some (.int q)) M) (ho : kd o = 9) (h : f_Tally_isIn_b36 o M = q) : V S X 2 M 36 [] [] := by
  unfold f_Tally_isIn_b36 at h
  refine v_iconst C (-1) dX9_isIn_36 rfl ?_
  subst h
  exact v_iret C K dX9_isIn_37
def f_Tally_isIn (o : Nat) (M : Mem) (a1 : Int32) : Int32 :=
  if (M o 5) = 0 then
    if (M o 0) = 0 then
      f_Tally_isIn_b32 o M
    else
      if a1 = (-1) then
        f_Tally_isIn_b36 o M
      else
        if (M o 1) = (M o 0) then
          f_Tally_isIn_b32 o M
        else
          f_Tally_isIn_b36 o M
  else
    1
set_option maxRecDepth 20000 in
theorem v_Tally_isIn {S : SE} {X : MX} {q : Int32} {o : Nat} {M : Mem} {a1 : Int32} (C : CX S X cX9_isIn 2 RX9 0) (K : RT S X (some .int) (some (.int q)) M) (ho : kd o = 9) (h : f_Tally_isIn o M a1 = q) : V S X 2 M 0 [(0, .ref (S.2.1 o)), (1, .int a1)] [] := by
  unfold f_Tally_isIn at h
  refine v_aload_n C 0 dX9_isIn_0 rfl ?_
  refine g_Tally_matched C ho fl_X9_27 dX9_isIn_1 ?_
  refine v_if_eq C 9 dX9_isIn_4 (by decide) (fun c4 => ?_) (fun c4 => ?_)
  · replace h := (ite_h h).1 c4
    refine v_aload_n C 0 dX9_isIn_9 rfl ?_
    refine g_Tally_rows C ho fl_X9_9 dX9_isIn_10 ?_
    refine v_if_eq C 32 dX9_isIn_13 (by decide) (fun c3 => ?_) (fun c3 => ?_)
    · replace h := (ite_h h).1 c3
      refine v_sub [] rfl ?_
      exact v_Tally_isIn_b32 C K ho h
    · replace h := (ite_h h).2 c3
      refine v_iload_n C 1 dX9_isIn_16 rfl ?_
      refine v_iconst C (-1) dX9_isIn_17 rfl ?_
      refine v_icmp_eq C 36 dX9_isIn_18 (by decide) (fun c2 => ?_) (fun c2 => ?_)
      · replace h := (ite_h h).1 c2
        refine v_sub [] rfl ?_
        exact v_Tally_isIn_b36 C K ho h
      · replace h := (ite_h h).2 c2
        refine v_aload_n C 0 dX9_isIn_21 rfl ?_
        refine g_Tally_present C ho fl_X9_15 dX9_isIn_22 ?_
        refine v_aload_n C 0 dX9_isIn_25 rfl ?_
        refine g_Tally_rows C ho fl_X9_9 dX9_isIn_26 ?_
        refine v_icmp_ne C 36 dX9_isIn_29 (by decide) (fun c1 => ?_) (fun c1 => ?_)
        · replace h := (ite_h h).2 c1
          refine v_sub [] rfl ?_
          exact v_Tally_isIn_b36 C K ho h
        · replace h := (ite_h h).1 c1
          refine v_sub [] rfl ?_
          exact v_Tally_isIn_b32 C K ho h
  · replace h := (ite_h h).2 c4
    refine v_iconst C 1 dX9_isIn_7 rfl ?_
    subst h
    exact v_iret C K dX9_isIn_8
theorem m_Tally_isIn {S : SE} (hI : Inj S) (o : Nat) (ho : kd o = 9) (M : Mem) (a1 : Int32) (q : Int32) (h : f_Tally_isIn o M a1 = q) : CM S yX9_isIn cX9_isIn 2 (some .int) 0 [.ref (S.2.1 o), .int a1] M (some (.int q)) M :=
  CM.of [(0, .ref (S.2.1 o)), (1, .int a1)] hI (by decide) rfl (Nat.le_of_ble_eq_true rfl) (fun X C K => v_Tally_isIn C K ho h)
def f_Tally_outcome (o : Nat) (M : Mem) (a1 : Int32) (a2 : Int32) : Option Int32 :=
  if a1 = 0 then
    some (M o 0)
  else
  if a1 = 1 then
    if (M o 1) ≤ 0 then
      some (-1)
    else
      some (M o 2)
  else
  if a1 = 2 then
    some (M o 3)
  else
  if a1 = 3 then
    some (M o 4)
  else
  if a1 = 4 then
    if (M o 1) ≤ 0 then
      some (-1)
    else
      (f_Tally_mean o M).bind fun q7 =>
      (f_U_bitsOf q7).bind fun q8 =>
      some q8
  else
  if a1 = 5 then
    if (M o 1) ≤ 0 then
      some (-1)
    else
      some (M o 2)
  else
  if a1 = 6 then
    if (M o 0) ≤ 0 then
      some 0
    else
      some 1
  else
  if a1 = 7 then
    some (f_Tally_isIn o M a2)
  else
  if (f_Tally_isIn o M a2) = (-1) then
    some (-1)
  else
    some (1 - (f_Tally_isIn o M a2))
set_option maxRecDepth 20000 in
theorem v_Tally_outcome {S : SE} {X : MX} {q : Int32} {o : Nat} {M : Mem} {a1 : Int32} {a2 : Int32} (C : CX S X cX9_outcome 3 RX9 1) (K : RT S X (some .int) (some (.int q)) M) (ho : kd o = 9) (h : f_Tally_outcome o M a1 a2 = some q) : V S X 3 M 0 [(0, .ref (S.2.1 o)), (1, .int a1), (2, .int a2)] [] := by
  unfold f_Tally_outcome at h
  refine v_iload_n C 1 dX9_outcome_0 rfl ?_
  by_cases c1 : a1 = 0
  · replace h := (ite_h h).1 c1
    refine v_tableIn C 48 dX9_outcome_1 (by rw [c1]; decide) (by rw [c1]; decide) (by rw [c1]; rfl) (by decide) ?_
    refine v_aload_n C 0 dX9_outcome_48 rfl ?_
    refine g_Tally_rows C ho fl_X9_9 dX9_outcome_49 ?_
    obtain rfl := Option.some.inj h
    exact v_iret C K dX9_outcome_52
  replace h := (ite_h h).2 c1
  by_cases c2 : a1 = 1
  · replace h := (ite_h h).1 c2
    refine v_tableIn C 53 dX9_outcome_1 (by rw [c2]; decide) (by rw [c2]; decide) (by rw [c2]; rfl) (by decide) ?_
    refine v_aload_n C 0 dX9_outcome_53 rfl ?_
    refine g_Tally_present C ho fl_X9_15 dX9_outcome_54 ?_
    refine v_if_le C 67 dX9_outcome_57 (by decide) (fun c3 => ?_) (fun c3 => ?_)
    · replace h := (ite_h h).1 c3
      refine v_iconst C (-1) dX9_outcome_67 rfl ?_
      obtain rfl := Option.some.inj h
      exact v_iret C K dX9_outcome_68
    · replace h := (ite_h h).2 c3
      refine v_aload_n C 0 dX9_outcome_60 rfl ?_
      refine g_Tally_sum C ho fl_X9_18 dX9_outcome_61 ?_
      refine v_goto C 68 dX9_outcome_64 (by decide) ?_
      obtain rfl := Option.some.inj h
      exact v_iret C K dX9_outcome_68
  replace h := (ite_h h).2 c2
  by_cases c4 : a1 = 2
  · replace h := (ite_h h).1 c4
    refine v_tableIn C 69 dX9_outcome_1 (by rw [c4]; decide) (by rw [c4]; decide) (by rw [c4]; rfl) (by decide) ?_
    refine v_aload_n C 0 dX9_outcome_69 rfl ?_
    refine g_Tally_least C ho fl_X9_21 dX9_outcome_70 ?_
    obtain rfl := Option.some.inj h
    exact v_iret C K dX9_outcome_73
  replace h := (ite_h h).2 c4
  by_cases c5 : a1 = 3
  · replace h := (ite_h h).1 c5
    refine v_tableIn C 74 dX9_outcome_1 (by rw [c5]; decide) (by rw [c5]; decide) (by rw [c5]; rfl) (by decide) ?_
    refine v_aload_n C 0 dX9_outcome_74 rfl ?_
    refine g_Tally_greatest C ho fl_X9_24 dX9_outcome_75 ?_
    obtain rfl := Option.some.inj h
    exact v_iret C K dX9_outcome_78
  replace h := (ite_h h).2 c5
  by_cases c6 : a1 = 4
  · replace h := (ite_h h).1 c6
    refine v_tableIn C 79 dX9_outcome_1 (by rw [c6]; decide) (by rw [c6]; decide) (by rw [c6]; rfl) (by decide) ?_
    refine v_aload_n C 0 dX9_outcome_79 rfl ?_
    refine g_Tally_present C ho fl_X9_15 dX9_outcome_80 ?_
    refine v_if_le C 96 dX9_outcome_83 (by decide) (fun c9 => ?_) (fun c9 => ?_)
    · replace h := (ite_h h).1 c9
      refine v_iconst C (-1) dX9_outcome_96 rfl ?_
      obtain rfl := Option.some.inj h
      exact v_iret C K dX9_outcome_97
    · replace h := (ite_h h).2 c9
      refine v_aload_n C 0 dX9_outcome_86 rfl ?_
      obtain ⟨q7, hq7, h⟩ := Option.bind_eq_some_iff.mp h
      refine cv9 C [] ho (m_Tally_mean C.inj o ho M q7 hq7) ci_Tally_mean rfl lk_X9_31 (by decide) rfl rfl (Nat.le_of_ble_eq_true rfl) dX9_outcome_87 ?_
      obtain ⟨q8, hq8, h⟩ := Option.bind_eq_some_iff.mp h
      refine csN C [] (m_U_bitsOf C.inj M q7 q8 hq8) ci_U_bitsOf lk_X9_35 (by decide) rfl rfl (Nat.le_of_ble_eq_true rfl) dX9_outcome_90 ?_
      refine v_goto C 97 dX9_outcome_93 (by decide) ?_
      obtain rfl := Option.some.inj h
      exact v_iret C K dX9_outcome_97
  replace h := (ite_h h).2 c6
  by_cases c10 : a1 = 5
  · replace h := (ite_h h).1 c10
    refine v_tableIn C 98 dX9_outcome_1 (by rw [c10]; decide) (by rw [c10]; decide) (by rw [c10]; rfl) (by decide) ?_
    refine v_aload_n C 0 dX9_outcome_98 rfl ?_
    refine g_Tally_present C ho fl_X9_15 dX9_outcome_99 ?_
    refine v_if_le C 112 dX9_outcome_102 (by decide) (fun c11 => ?_) (fun c11 => ?_)
    · replace h := (ite_h h).1 c11
      refine v_iconst C (-1) dX9_outcome_112 rfl ?_
      obtain rfl := Option.some.inj h
      exact v_iret C K dX9_outcome_113
    · replace h := (ite_h h).2 c11
      refine v_aload_n C 0 dX9_outcome_105 rfl ?_
      refine g_Tally_sum C ho fl_X9_18 dX9_outcome_106 ?_
      refine v_goto C 113 dX9_outcome_109 (by decide) ?_
      obtain rfl := Option.some.inj h
      exact v_iret C K dX9_outcome_113
  replace h := (ite_h h).2 c10
  by_cases c12 : a1 = 6
  · replace h := (ite_h h).1 c12
    refine v_tableIn C 114 dX9_outcome_1 (by rw [c12]; decide) (by rw [c12]; decide) (by rw [c12]; rfl) (by decide) ?_
    refine v_aload_n C 0 dX9_outcome_114 rfl ?_
    refine g_Tally_rows C ho fl_X9_9 dX9_outcome_115 ?_
    refine v_if_le C 125 dX9_outcome_118 (by decide) (fun c13 => ?_) (fun c13 => ?_)
    · replace h := (ite_h h).1 c13
      refine v_iconst C 0 dX9_outcome_125 rfl ?_
      obtain rfl := Option.some.inj h
      exact v_iret C K dX9_outcome_126
    · replace h := (ite_h h).2 c13
      refine v_iconst C 1 dX9_outcome_121 rfl ?_
      refine v_goto C 126 dX9_outcome_122 (by decide) ?_
      obtain rfl := Option.some.inj h
      exact v_iret C K dX9_outcome_126
  replace h := (ite_h h).2 c12
  by_cases c14 : a1 = 7
  · replace h := (ite_h h).1 c14
    refine v_tableIn C 127 dX9_outcome_1 (by rw [c14]; decide) (by rw [c14]; decide) (by rw [c14]; rfl) (by decide) ?_
    refine v_aload_n C 0 dX9_outcome_127 rfl ?_
    refine v_iload_n C 2 dX9_outcome_128 rfl ?_
    refine cv9 C [] ho (m_Tally_isIn C.inj o ho M a2 _ rfl) ci_Tally_isIn rfl lk_X9_39 (by decide) rfl rfl (Nat.le_of_ble_eq_true rfl) dX9_outcome_129 ?_
    obtain rfl := Option.some.inj h
    exact v_iret C K dX9_outcome_132
  replace h := (ite_h h).2 c14
  refine v_tableOut C 133 dX9_outcome_1 (by
      have := ne_toInt c1 (0 : Int) rfl
      have := ne_toInt c2 (1 : Int) rfl
      have := ne_toInt c4 (2 : Int) rfl
      have := ne_toInt c5 (3 : Int) rfl
      have := ne_toInt c6 (4 : Int) rfl
      have := ne_toInt c10 (5 : Int) rfl
      have := ne_toInt c12 (6 : Int) rfl
      have := ne_toInt c14 (7 : Int) rfl
      omega) (by decide) ?_
  refine v_aload_n C 0 dX9_outcome_133 rfl ?_
  refine v_iload_n C 2 dX9_outcome_134 rfl ?_
  refine cv9 C [] ho (m_Tally_isIn C.inj o ho M a2 _ rfl) ci_Tally_isIn rfl lk_X9_39 (by decide) rfl rfl (Nat.le_of_ble_eq_true rfl) dX9_outcome_135 ?_
  refine v_iconst C (-1) dX9_outcome_138 rfl ?_
  refine v_icmp_ne C 146 dX9_outcome_139 (by decide) (fun c15 => ?_) (fun c15 => ?_)
  · replace h := (ite_h h).2 c15
    refine v_iconst C 1 dX9_outcome_146 rfl ?_
    refine v_aload_n C 0 dX9_outcome_147 rfl ?_
    refine v_iload_n C 2 dX9_outcome_148 rfl ?_
    refine cv9 C [.int 1] ho (m_Tally_isIn C.inj o ho M a2 _ rfl) ci_Tally_isIn rfl lk_X9_39 (by decide) rfl rfl (Nat.le_of_ble_eq_true rfl) dX9_outcome_149 ?_
    refine v_isub C dX9_outcome_152 ?_
    obtain rfl := Option.some.inj h
    exact v_iret C K dX9_outcome_153
  · replace h := (ite_h h).1 c15
    refine v_iconst C (-1) dX9_outcome_142 rfl ?_
    refine v_goto C 153 dX9_outcome_143 (by decide) ?_
    obtain rfl := Option.some.inj h
    exact v_iret C K dX9_outcome_153
theorem m_Tally_outcome {S : SE} (hI : Inj S) (o : Nat) (ho : kd o = 9) (M : Mem) (a1 : Int32) (a2 : Int32) (q : Int32) (h : f_Tally_outcome o M a1 a2 = some q) : CM S yX9_outcome cX9_outcome 3 (some .int) 1 [.ref (S.2.1 o), .int a1, .int a2] M (some (.int q)) M :=
  CM.of [(0, .ref (S.2.1 o)), (1, .int a1), (2, .int a2)] hI (by decide) rfl (Nat.le_of_ble_eq_true rfl) (fun X C K => v_Tally_outcome C K ho h)
def f_Tally_take_b102 (o : Nat) (s0 : Int32) (M : Mem) : Option Mem :=
  if s0 = 0 ∨ s0 = 1 then
    bnd (mset M o 5 s0) fun M6 =>
    some M6
  else none
set_option maxRecDepth 20000 in
theorem v_Tally_take_b102 {S : SE} {X : MX} {q : Mem} {o : Nat} {s0 : Int32} {M : Mem} (C : CX S X cX9_take 3 RX9 0) (K : RT S X none none q) (ho : kd o = 9) (h : f_Tally_take_b102 o s0 M = some q) : V S X 3 M 102 [] [.int s0, .ref (S.2.1 o)] := by
  unfold f_Tally_take_b102 at h
  obtain ⟨g7, h⟩ := gd_h h
  refine p_Tally_matched C ho g7 fl_X9_27 dX9_take_102 ?_
  refine v_nmm h (fun M6 h => ?_)
  obtain rfl := Option.some.inj h
  exact v_vret C K dX9_take_105
def f_Tally_take_b97 (o : Nat) (M : Mem) : Option Mem :=
  f_Tally_take_b102 o 1 M
set_option maxRecDepth 20000 in
theorem v_Tally_take_b97 {S : SE} {X : MX} {q : Mem} {o : Nat} {M : Mem} (C : CX S X cX9_take 3 RX9 0) (K : RT S X none none q) (ho : kd o = 9) (h : f_Tally_take_b97 o M = some q) : V S X 3 M 97 [] [.ref (S.2.1 o)] := by
  unfold f_Tally_take_b97 at h
  refine v_iconst C 1 dX9_take_97 rfl ?_
  refine v_goto C 102 dX9_take_98 (by decide) ?_
  exact v_Tally_take_b102 C K ho h
def f_Tally_take_b81 (o : Nat) (a1 : Int32) (a2 : Int32) (s0 : Int32) (M : Mem) : Option Mem :=
  bnd (mset M o 4 s0) fun M5 =>
  if (M5 o 5) = 0 then
    if a1 = a2 then
      f_Tally_take_b97 o M5
    else
      f_Tally_take_b102 o 0 M5
  else
    f_Tally_take_b97 o M5
set_option maxRecDepth 20000 in
theorem v_Tally_take_b81 {S : SE} {X : MX} {q : Mem} {o : Nat} {a1 : Int32} {a2 : Int32} {s0 : Int32} {M : Mem} (C : CX S X cX9_take 3 RX9 0) (K : RT S X none none q) (ho : kd o = 9) (h : f_Tally_take_b81 o a1 a2 s0 M = some q) : V S X 3 M 81 [(0, .ref (S.2.1 o)), (1, .int a1), (2, .int a2)] [.int s0, .ref (S.2.1 o)] := by
  unfold f_Tally_take_b81 at h
  refine p_Tally_greatest C ho fl_X9_24 dX9_take_81 ?_
  refine v_nmm h (fun M5 h => ?_)
  refine v_aload_n C 0 dX9_take_84 rfl ?_
  refine v_aload_n C 0 dX9_take_85 rfl ?_
  refine g_Tally_matched C ho fl_X9_27 dX9_take_86 ?_
  refine v_if_ne C 97 dX9_take_89 (by decide) (fun c9 => ?_) (fun c9 => ?_)
  · replace h := (ite_h h).2 c9
    refine v_sub [] rfl ?_
    exact v_Tally_take_b97 C K ho h
  · replace h := (ite_h h).1 c9
    refine v_iload_n C 1 dX9_take_92 rfl ?_
    refine v_iload_n C 2 dX9_take_93 rfl ?_
    refine v_icmp_ne C 101 dX9_take_94 (by decide) (fun c8 => ?_) (fun c8 => ?_)
    · replace h := (ite_h h).2 c8
      refine v_iconst C 0 dX9_take_101 rfl ?_
      refine v_sub [] rfl ?_
      exact v_Tally_take_b102 C K ho h
    · replace h := (ite_h h).1 c8
      refine v_sub [] rfl ?_
      exact v_Tally_take_b97 C K ho h
def f_Tally_take_b61 (o : Nat) (a1 : Int32) (a2 : Int32) (s0 : Int32) (M : Mem) : Option Mem :=
  bnd (mset M o 3 s0) fun M4 =>
  if a1 ≤ (M4 o 4) then
    f_Tally_take_b81 o a1 a2 (M4 o 4) M4
  else
    f_Tally_take_b81 o a1 a2 a1 M4
set_option maxRecDepth 20000 in
theorem v_Tally_take_b61 {S : SE} {X : MX} {q : Mem} {o : Nat} {a1 : Int32} {a2 : Int32} {s0 : Int32} {M : Mem} (C : CX S X cX9_take 3 RX9 0) (K : RT S X none none q) (ho : kd o = 9) (h : f_Tally_take_b61 o a1 a2 s0 M = some q) : V S X 3 M 61 [(0, .ref (S.2.1 o)), (1, .int a1), (2, .int a2)] [.int s0, .ref (S.2.1 o)] := by
  unfold f_Tally_take_b61 at h
  refine p_Tally_least C ho fl_X9_21 dX9_take_61 ?_
  refine v_nmm h (fun M4 h => ?_)
  refine v_aload_n C 0 dX9_take_64 rfl ?_
  refine v_iload_n C 1 dX9_take_65 rfl ?_
  refine v_aload_n C 0 dX9_take_66 rfl ?_
  refine g_Tally_greatest C ho fl_X9_24 dX9_take_67 ?_
  refine v_icmp_le C 77 dX9_take_70 (by decide) (fun c10 => ?_) (fun c10 => ?_)
  · replace h := (ite_h h).1 c10
    refine v_aload_n C 0 dX9_take_77 rfl ?_
    refine g_Tally_greatest C ho fl_X9_24 dX9_take_78 ?_
    exact v_Tally_take_b81 C K ho h
  · replace h := (ite_h h).2 c10
    refine v_iload_n C 1 dX9_take_73 rfl ?_
    refine v_goto C 81 dX9_take_74 (by decide) ?_
    exact v_Tally_take_b81 C K ho h
def f_Tally_take_b53 (o : Nat) (a1 : Int32) (a2 : Int32) (M : Mem) : Option Mem :=
  f_Tally_take_b61 o a1 a2 a1 M
set_option maxRecDepth 20000 in
theorem v_Tally_take_b53 {S : SE} {X : MX} {q : Mem} {o : Nat} {a1 : Int32} {a2 : Int32} {M : Mem} (C : CX S X cX9_take 3 RX9 0) (K : RT S X none none q) (ho : kd o = 9) (h : f_Tally_take_b53 o a1 a2 M = some q) : V S X 3 M 53 [(0, .ref (S.2.1 o)), (1, .int a1), (2, .int a2)] [.ref (S.2.1 o)] := by
  unfold f_Tally_take_b53 at h
  refine v_iload_n C 1 dX9_take_53 rfl ?_
  refine v_goto C 61 dX9_take_54 (by decide) ?_
  exact v_Tally_take_b61 C K ho h
def f_Tally_take (o : Nat) (M : Mem) (a1 : Int32) (a2 : Int32) : Option Mem :=
  bnd (mset M o 0 ((M o 0) + 1)) fun M1 =>
  if a1 = (-1) then
    some M1
  else
    bnd (mset M1 o 1 ((M1 o 1) + 1)) fun M2 =>
    bnd (mset M2 o 2 ((M2 o 2) + a1)) fun M3 =>
    if (M3 o 3) = (-1) then
      f_Tally_take_b53 o a1 a2 M3
    else
      if (M3 o 3) ≤ a1 then
        f_Tally_take_b61 o a1 a2 (M3 o 3) M3
      else
        f_Tally_take_b53 o a1 a2 M3
set_option maxRecDepth 20000 in
theorem v_Tally_take {S : SE} {X : MX} {q : Mem} {o : Nat} {M : Mem} {a1 : Int32} {a2 : Int32} (C : CX S X cX9_take 3 RX9 0) (K : RT S X none none q) (ho : kd o = 9) (h : f_Tally_take o M a1 a2 = some q) : V S X 3 M 0 [(0, .ref (S.2.1 o)), (1, .int a1), (2, .int a2)] [] := by
  unfold f_Tally_take at h
  refine v_aload_n C 0 dX9_take_0 rfl ?_
  refine v_dup C dX9_take_1 rfl ?_
  refine g_Tally_rows C ho fl_X9_9 dX9_take_2 ?_
  refine v_iconst C 1 dX9_take_5 rfl ?_
  refine v_iadd C dX9_take_6 ?_
  refine p_Tally_rows C ho fl_X9_9 dX9_take_7 ?_
  refine v_nmm h (fun M1 h => ?_)
  refine v_iload_n C 1 dX9_take_10 rfl ?_
  refine v_iconst C (-1) dX9_take_11 rfl ?_
  refine v_icmp_ne C 16 dX9_take_12 (by decide) (fun c13 => ?_) (fun c13 => ?_)
  · replace h := (ite_h h).2 c13
    refine v_aload_n C 0 dX9_take_16 rfl ?_
    refine v_dup C dX9_take_17 rfl ?_
    refine g_Tally_present C ho fl_X9_15 dX9_take_18 ?_
    refine v_iconst C 1 dX9_take_21 rfl ?_
    refine v_iadd C dX9_take_22 ?_
    refine p_Tally_present C ho fl_X9_15 dX9_take_23 ?_
    refine v_nmm h (fun M2 h => ?_)
    refine v_aload_n C 0 dX9_take_26 rfl ?_
    refine v_dup C dX9_take_27 rfl ?_
    refine g_Tally_sum C ho fl_X9_18 dX9_take_28 ?_
    refine v_iload_n C 1 dX9_take_31 rfl ?_
    refine v_iadd C dX9_take_32 ?_
    refine p_Tally_sum C ho fl_X9_18 dX9_take_33 ?_
    refine v_nmm h (fun M3 h => ?_)
    refine v_aload_n C 0 dX9_take_36 rfl ?_
    refine v_aload_n C 0 dX9_take_37 rfl ?_
    refine g_Tally_least C ho fl_X9_21 dX9_take_38 ?_
    refine v_iconst C (-1) dX9_take_41 rfl ?_
    refine v_icmp_eq C 53 dX9_take_42 (by decide) (fun c12 => ?_) (fun c12 => ?_)
    · replace h := (ite_h h).1 c12
      exact v_Tally_take_b53 C K ho h
    · replace h := (ite_h h).2 c12
      refine v_iload_n C 1 dX9_take_45 rfl ?_
      refine v_aload_n C 0 dX9_take_46 rfl ?_
      refine g_Tally_least C ho fl_X9_21 dX9_take_47 ?_
      refine v_icmp_ge C 57 dX9_take_50 (by decide) (fun c11 => ?_) (fun c11 => ?_)
      · replace h := (ite_h h).1 c11
        refine v_aload_n C 0 dX9_take_57 rfl ?_
        refine g_Tally_least C ho fl_X9_21 dX9_take_58 ?_
        exact v_Tally_take_b61 C K ho h
      · replace h := (ite_h h).2 c11
        exact v_Tally_take_b53 C K ho h
  · replace h := (ite_h h).1 c13
    obtain rfl := Option.some.inj h
    exact v_vret C K dX9_take_15
theorem m_Tally_take {S : SE} (hI : Inj S) (o : Nat) (ho : kd o = 9) (M : Mem) (a1 : Int32) (a2 : Int32) (q : Mem) (h : f_Tally_take o M a1 a2 = some q) : CM S yX9_take cX9_take 3 none 0 [.ref (S.2.1 o), .int a1, .int a2] M none q :=
  CM.of [(0, .ref (S.2.1 o)), (1, .int a1), (2, .int a2)] hI (by decide) rfl (Nat.le_of_ble_eq_true rfl) (fun X C K => v_Tally_take C K ho h)
def f_Steps_hasUnion_l2B (k2 : Int32 → Mem → Option Int32) (a1 : Int32) (M : Mem) : Option Int32 :=
  if (M 10 2) ≤ a1 then
    some 0
  else
    if gin a1 12 then
      if (M 11 a1.toNatClampNeg) = 4 then
        some 1
      else
        k2 (a1 + 1) M
    else none
set_option maxRecDepth 20000 in
theorem v_Steps_hasUnion_l2B {S : SE} {X : MX} {q : Int32} {k2 : Int32 → Mem → Option Int32} {a1 : Int32} {M : Mem} (C : CX S X cX7_hasUnion 2 RX7 0) (K : RT S X (some .boolean) (some (.int q)) M) (hk2 : ∀ (a1 : Int32), k2 a1 M = some q → V S X 2 M 2 [(0, .ref (S.2.1 10)), (1, .int a1)] []) (h : f_Steps_hasUnion_l2B k2 a1 M = some q) : V S X 2 M 2 [(0, .ref (S.2.1 10)), (1, .int a1)] [] := by
  unfold f_Steps_hasUnion_l2B at h
  refine v_iload_n C 1 dX7_hasUnion_2 rfl ?_
  refine v_aload_n C 0 dX7_hasUnion_3 rfl ?_
  refine g_Steps_size C kk10 fl_X7_18 dX7_hasUnion_4 ?_
  refine v_icmp_ge C 28 dX7_hasUnion_7 (by decide) (fun c3 => ?_) (fun c3 => ?_)
  · replace h := (ite_h h).1 c3
    refine v_iconst C 0 dX7_hasUnion_28 rfl ?_
    obtain rfl := Option.some.inj h
    exact v_zret C (Or.inl rfl) K dX7_hasUnion_29
  · replace h := (ite_h h).2 c3
    refine v_aload_n C 0 dX7_hasUnion_10 rfl ?_
    refine g_Steps_codes C kk10 fl_X7_9 dX7_hasUnion_11 ?_
    refine v_iload_n C 1 dX7_hasUnion_14 rfl ?_
    obtain ⟨g1, h⟩ := gd_h h
    refine v_iald C kk11 ll11 g1 dX7_hasUnion_15 ?_
    refine v_iconst C 4 dX7_hasUnion_16 rfl ?_
    refine v_icmp_ne C 22 dX7_hasUnion_17 (by decide) (fun c2 => ?_) (fun c2 => ?_)
    · replace h := (ite_h h).2 c2
      refine v_iinc C [(1, .int (a1 + 1)), (0, .ref (S.2.1 10))] 1 (a1 + 1) dX7_hasUnion_22 rfl rfl (by decide) rfl ?_
      refine v_goto C 2 dX7_hasUnion_25 (by decide) ?_
      refine v_sub [1, 0] rfl ?_
      exact hk2 _ h
    · replace h := (ite_h h).1 c2
      refine v_iconst C 1 dX7_hasUnion_20 rfl ?_
      obtain rfl := Option.some.inj h
      exact v_zret C (Or.inr rfl) K dX7_hasUnion_21
def f_Steps_hasUnion_l2 : Nat → Int32 → Mem → Option Int32
  | 0, _, _ => none
  | n + 1, a1, M => f_Steps_hasUnion_l2B (f_Steps_hasUnion_l2 n) a1 M
theorem v_Steps_hasUnion_l2 {S : SE} {X : MX} {q : Int32} {M : Mem} (C : CX S X cX7_hasUnion 2 RX7 0) (K : RT S X (some .boolean) (some (.int q)) M) : ∀ (n : Nat) (a1 : Int32), f_Steps_hasUnion_l2 n a1 M = some q → V S X 2 M 2 [(0, .ref (S.2.1 10)), (1, .int a1)] [] := by
  intro n
  induction n with
  | zero => intro a1 h; cases h
  | succ n ih => intro a1 h; exact v_Steps_hasUnion_l2B C K ih h
def f_Steps_hasUnion (M : Mem) : Option Int32 :=
  f_Steps_hasUnion_l2 FU 0 M
set_option maxRecDepth 20000 in
theorem v_Steps_hasUnion {S : SE} {X : MX} {q : Int32} {M : Mem} (C : CX S X cX7_hasUnion 2 RX7 0) (K : RT S X (some .boolean) (some (.int q)) M) (h : f_Steps_hasUnion M = some q) : V S X 2 M 0 [(0, .ref (S.2.1 10))] [] := by
  unfold f_Steps_hasUnion at h
  refine v_iconst C 0 dX7_hasUnion_0 rfl ?_
  refine v_istore_n C [(1, .int 0), (0, .ref (S.2.1 10))] dX7_hasUnion_1 (by decide) rfl ?_
  refine v_sub [1, 0] rfl ?_
  exact v_Steps_hasUnion_l2 C K FU _ h
theorem m_Steps_hasUnion {S : SE} (hI : Inj S) (M : Mem) (q : Int32) (h : f_Steps_hasUnion M = some q) : CM S yX7_hasUnion cX7_hasUnion 2 (some .boolean) 0 [.ref (S.2.1 10)] M (some (.int q)) M :=
  CM.of [(0, .ref (S.2.1 10))] hI (by decide) rfl (Nat.le_of_ble_eq_true rfl) (fun X C K => v_Steps_hasUnion C K  h)
def f_Sheet_isLost (o : Nat) (M : Mem) : Int32 :=
  if (M o 1) = (-1) then
    1
  else
    0
set_option maxRecDepth 20000 in
theorem v_Sheet_isLost {S : SE} {X : MX} {q : Int32} {o : Nat} {M : Mem} (C : CX S X cX6_isLost 1 RX6 0) (K : RT S X (some .boolean) (some (.int q)) M) (ho : kd o = 6) (h : f_Sheet_isLost o M = q) : V S X 1 M 0 [(0, .ref (S.2.1 o))] [] := by
  unfold f_Sheet_isLost at h
  refine v_aload_n C 0 dX6_isLost_0 rfl ?_
  refine g_Sheet_form C ho fl_X6_15 dX6_isLost_1 ?_
  refine v_iconst C (-1) dX6_isLost_4 rfl ?_
  refine v_icmp_ne C 12 dX6_isLost_5 (by decide) (fun c1 => ?_) (fun c1 => ?_)
  · replace h := (ite_h h).2 c1
    refine v_iconst C 0 dX6_isLost_12 rfl ?_
    subst h
    exact v_zret C (Or.inl rfl) K dX6_isLost_13
  · replace h := (ite_h h).1 c1
    refine v_iconst C 1 dX6_isLost_8 rfl ?_
    refine v_goto C 13 dX6_isLost_9 (by decide) ?_
    subst h
    exact v_zret C (Or.inr rfl) K dX6_isLost_13
theorem m_Sheet_isLost {S : SE} (hI : Inj S) (o : Nat) (ho : kd o = 6) (M : Mem) (q : Int32) (h : f_Sheet_isLost o M = q) : CM S yX6_isLost cX6_isLost 1 (some .boolean) 0 [.ref (S.2.1 o)] M (some (.int q)) M :=
  CM.of [(0, .ref (S.2.1 o))] hI (by decide) rfl (Nat.le_of_ble_eq_true rfl) (fun X C K => v_Sheet_isLost C K ho h)
theorem bz_Sheet_isLost (o : Nat) (M : Mem) : f_Sheet_isLost o M = 0 ∨ f_Sheet_isLost o M = 1 := by unfold f_Sheet_isLost; (repeat' split) <;> first | exact Or.inl rfl | exact Or.inr rfl
def f_Sheet_forget (o : Nat) (M : Mem) : Mem :=
  bnd (mset M o 1 (-1)) fun M1 =>
  bnd (mset M1 o 2 0) fun M2 =>
  M2
set_option maxRecDepth 20000 in
theorem v_Sheet_forget {S : SE} {X : MX} {q : Mem} {o : Nat} {M : Mem} (C : CX S X cX6_forget 1 RX6 0) (K : RT S X none none q) (ho : kd o = 6) (h : f_Sheet_forget o M = q) : V S X 1 M 0 [(0, .ref (S.2.1 o))] [] := by
  unfold f_Sheet_forget at h
  refine v_aload_n C 0 dX6_forget_0 rfl ?_
  refine v_iconst C (-1) dX6_forget_1 rfl ?_
  refine p_Sheet_form C ho fl_X6_15 dX6_forget_2 ?_
  refine v_nmm h (fun M1 h => ?_)
  refine v_aload_n C 0 dX6_forget_5 rfl ?_
  refine v_iconst C 0 dX6_forget_6 rfl ?_
  refine p_Sheet_size C ho fl_X6_19 dX6_forget_7 ?_
  refine v_nmm h (fun M2 h => ?_)
  subst h
  exact v_vret C K dX6_forget_10
theorem m_Sheet_forget {S : SE} (hI : Inj S) (o : Nat) (ho : kd o = 6) (M : Mem) (q : Mem) (h : f_Sheet_forget o M = q) : CM S yX6_forget cX6_forget 1 none 0 [.ref (S.2.1 o)] M none q :=
  CM.of [(0, .ref (S.2.1 o))] hI (by decide) rfl (Nat.le_of_ble_eq_true rfl) (fun X C K => v_Sheet_forget C K ho h)
def f_Sheet_renew (o : Nat) (M : Mem) (a1 : Int32) (a2 : Int32) : Option Mem :=
  bnd (mset M o 1 a1) fun M1 =>
  bnd (mset M1 o 2 a2) fun M2 =>
  (f_J_fill (o + 1) M2 0).bind fun q3 =>
  some q3
set_option maxRecDepth 20000 in
theorem v_Sheet_renew {S : SE} {X : MX} {q : Mem} {o : Nat} {M : Mem} {a1 : Int32} {a2 : Int32} (C : CX S X cX6_renew 3 RX6 1) (K : RT S X none none q) (ho : kd o = 6) (h : f_Sheet_renew o M a1 a2 = some q) : V S X 3 M 0 [(0, .ref (S.2.1 o)), (1, .int a1), (2, .int a2)] [] := by
  unfold f_Sheet_renew at h
  refine v_aload_n C 0 dX6_renew_0 rfl ?_
  refine v_iload_n C 1 dX6_renew_1 rfl ?_
  refine p_Sheet_form C ho fl_X6_15 dX6_renew_2 ?_
  refine v_nmm h (fun M1 h => ?_)
  refine v_aload_n C 0 dX6_renew_5 rfl ?_
  refine v_iload_n C 2 dX6_renew_6 rfl ?_
  refine p_Sheet_size C ho fl_X6_19 dX6_renew_7 ?_
  refine v_nmm h (fun M2 h => ?_)
  refine v_aload_n C 0 dX6_renew_10 rfl ?_
  refine g_Sheet_items C ho fl_X6_9 dX6_renew_11 ?_
  refine v_iconst C 0 dX6_renew_14 rfl ?_
  obtain ⟨q3, hq3, h⟩ := Option.bind_eq_some_iff.mp h
  refine csv C [] (m_J_fill C.inj (o + 1) (kd_Sheet_items ho) M2 0 q3 hq3) ci_J_fill lk_X6_22 (by decide) rfl rfl (Nat.le_of_ble_eq_true rfl) dX6_renew_15 ?_
  obtain rfl := Option.some.inj h
  exact v_vret C K dX6_renew_18
theorem m_Sheet_renew {S : SE} (hI : Inj S) (o : Nat) (ho : kd o = 6) (M : Mem) (a1 : Int32) (a2 : Int32) (q : Mem) (h : f_Sheet_renew o M a1 a2 = some q) : CM S yX6_renew cX6_renew 3 none 1 [.ref (S.2.1 o), .int a1, .int a2] M none q :=
  CM.of [(0, .ref (S.2.1 o)), (1, .int a1), (2, .int a2)] hI (by decide) rfl (Nat.le_of_ble_eq_true rfl) (fun X C K => v_Sheet_renew C K ho h)
def f_Sheet_findingAt (o : Nat) (M : Mem) (a1 : Int32) (a2 : Int32) : Int32 :=
  if (f_Sheet_isLost o M) = 0 then
    if (M o 1) = a1 then
      if (f_U_within a2 (M o 2)) = 0 then
        2
      else
        0
    else
      3
  else
    1
set_option maxRecDepth 20000 in
theorem v_Sheet_findingAt {S : SE} {X : MX} {q : Int32} {o : Nat} {M : Mem} {a1 : Int32} {a2 : Int32} (C : CX S X cX6_findingAt 3 RX6 1) (K : RT S X (some .int) (some (.int q)) M) (ho : kd o = 6) (h : f_Sheet_findingAt o M a1 a2 = q) : V S X 3 M 0 [(0, .ref (S.2.1 o)), (1, .int a1), (2, .int a2)] [] := by
  unfold f_Sheet_findingAt at h
  refine v_aload_n C 0 dX6_findingAt_0 rfl ?_
  refine cv6 C [] ho (m_Sheet_isLost C.inj o ho M _ rfl) ci_Sheet_isLost rfl lk_X6_28 (by decide) rfl rfl (Nat.le_of_ble_eq_true rfl) dX6_findingAt_1 ?_
  refine v_if_eq C 9 dX6_findingAt_4 (by decide) (fun c3 => ?_) (fun c3 => ?_)
  · replace h := (ite_h h).1 c3
    refine v_aload_n C 0 dX6_findingAt_9 rfl ?_
    refine g_Sheet_form C ho fl_X6_15 dX6_findingAt_10 ?_
    refine v_iload_n C 1 dX6_findingAt_13 rfl ?_
    refine v_icmp_eq C 19 dX6_findingAt_14 (by decide) (fun c2 => ?_) (fun c2 => ?_)
    · replace h := (ite_h h).1 c2
      refine v_iload_n C 2 dX6_findingAt_19 rfl ?_
      refine v_aload_n C 0 dX6_findingAt_20 rfl ?_
      refine g_Sheet_size C ho fl_X6_19 dX6_findingAt_21 ?_
      refine csN C [] (m_U_within C.inj M a2 (M o 2) _ rfl) ci_U_within lk_X6_32 (by decide) rfl rfl (Nat.le_of_ble_eq_true rfl) dX6_findingAt_24 ?_
      refine v_if_eq C 34 dX6_findingAt_27 (by decide) (fun c1 => ?_) (fun c1 => ?_)
      · replace h := (ite_h h).1 c1
        refine v_iconst C 2 dX6_findingAt_34 rfl ?_
        subst h
        exact v_iret C K dX6_findingAt_35
      · replace h := (ite_h h).2 c1
        refine v_iconst C 0 dX6_findingAt_30 rfl ?_
        refine v_goto C 35 dX6_findingAt_31 (by decide) ?_
        subst h
        exact v_iret C K dX6_findingAt_35
    · replace h := (ite_h h).2 c2
      refine v_iconst C 3 dX6_findingAt_17 rfl ?_
      subst h
      exact v_iret C K dX6_findingAt_18
  · replace h := (ite_h h).2 c3
    refine v_iconst C 1 dX6_findingAt_7 rfl ?_
    subst h
    exact v_iret C K dX6_findingAt_8
theorem m_Sheet_findingAt {S : SE} (hI : Inj S) (o : Nat) (ho : kd o = 6) (M : Mem) (a1 : Int32) (a2 : Int32) (q : Int32) (h : f_Sheet_findingAt o M a1 a2 = q) : CM S yX6_findingAt cX6_findingAt 3 (some .int) 1 [.ref (S.2.1 o), .int a1, .int a2] M (some (.int q)) M :=
  CM.of [(0, .ref (S.2.1 o)), (1, .int a1), (2, .int a2)] hI (by decide) rfl (Nat.le_of_ble_eq_true rfl) (fun X C K => v_Sheet_findingAt C K ho h)
def f_Sheet_hasRange_b22 (o : Nat) (M : Mem) : Int32 :=
  0
set_option maxRecDepth 20000 in
theorem v_Sheet_hasRange_b22 {S : SE} {X : MX} {q : Int32} {o : Nat} {M : Mem} (C : CX S X cX6_hasRange 3 RX6 0) (K : RT S X (some .boolean) (some (.int q)) M) (ho : kd o = 6) (h : f_Sheet_hasRange_b22 o M = q) : V S X 3 M 22 [] [] := by
  unfold f_Sheet_hasRange_b22 at h
  refine v_iconst C 0 dX6_hasRange_22 rfl ?_
  subst h
  exact v_zret C (Or.inl rfl) K dX6_hasRange_23
def f_Sheet_hasRange (o : Nat) (M : Mem) (a1 : Int32) (a2 : Int32) : Int32 :=
  if a1 < 0 then
    f_Sheet_hasRange_b22 o M
  else
    if a2 < 0 then
      f_Sheet_hasRange_b22 o M
    else
      if ((M o 2) - a2) < a1 then
        f_Sheet_hasRange_b22 o M
      else
        1
set_option maxRecDepth 20000 in
theorem v_Sheet_hasRange {S : SE} {X : MX} {q : Int32} {o : Nat} {M : Mem} {a1 : Int32} {a2 : Int32} (C : CX S X cX6_hasRange 3 RX6 0) (K : RT S X (some .boolean) (some (.int q)) M) (ho : kd o = 6) (h : f_Sheet_hasRange o M a1 a2 = q) : V S X 3 M 0 [(0, .ref (S.2.1 o)), (1, .int a1), (2, .int a2)] [] := by
  unfold f_Sheet_hasRange at h
  refine v_iload_n C 1 dX6_hasRange_0 rfl ?_
  refine v_if_lt C 22 dX6_hasRange_1 (by decide) (fun c3 => ?_) (fun c3 => ?_)
  · replace h := (ite_h h).1 c3
    refine v_sub [] rfl ?_
    exact v_Sheet_hasRange_b22 C K ho h
  · replace h := (ite_h h).2 c3
    refine v_iload_n C 2 dX6_hasRange_4 rfl ?_
    refine v_if_lt C 22 dX6_hasRange_5 (by decide) (fun c2 => ?_) (fun c2 => ?_)
    · replace h := (ite_h h).1 c2
      refine v_sub [] rfl ?_
      exact v_Sheet_hasRange_b22 C K ho h
    · replace h := (ite_h h).2 c2
      refine v_iload_n C 1 dX6_hasRange_8 rfl ?_
      refine v_aload_n C 0 dX6_hasRange_9 rfl ?_
      refine g_Sheet_size C ho fl_X6_19 dX6_hasRange_10 ?_
      refine v_iload_n C 2 dX6_hasRange_13 rfl ?_
      refine v_isub C dX6_hasRange_14 ?_
      refine v_icmp_gt C 22 dX6_hasRange_15 (by decide) (fun c1 => ?_) (fun c1 => ?_)
      · replace h := (ite_h h).1 c1
        refine v_sub [] rfl ?_
        exact v_Sheet_hasRange_b22 C K ho h
      · replace h := (ite_h h).2 c1
        refine v_iconst C 1 dX6_hasRange_18 rfl ?_
        refine v_goto C 23 dX6_hasRange_19 (by decide) ?_
        subst h
        exact v_zret C (Or.inr rfl) K dX6_hasRange_23
theorem m_Sheet_hasRange {S : SE} (hI : Inj S) (o : Nat) (ho : kd o = 6) (M : Mem) (a1 : Int32) (a2 : Int32) (q : Int32) (h : f_Sheet_hasRange o M a1 a2 = q) : CM S yX6_hasRange cX6_hasRange 3 (some .boolean) 0 [.ref (S.2.1 o), .int a1, .int a2] M (some (.int q)) M :=
  CM.of [(0, .ref (S.2.1 o)), (1, .int a1), (2, .int a2)] hI (by decide) rfl (Nat.le_of_ble_eq_true rfl) (fun X C K => v_Sheet_hasRange C K ho h)
theorem bz_Sheet_hasRange (o : Nat) (M : Mem) (a1 : Int32) (a2 : Int32) : f_Sheet_hasRange o M a1 a2 = 0 ∨ f_Sheet_hasRange o M a1 a2 = 1 := by unfold f_Sheet_hasRange f_Sheet_hasRange_b22; (repeat' split) <;> first | exact Or.inl rfl | exact Or.inr rfl
def f_Sheet_assign_b31 (o : Nat) (s0 : Int32) (s1 : Int32) (M : Mem) : Option Mem :=
  if gin s1 60 then
    bnd (mset M (o + 1) s1.toNatClampNeg s0) fun M2 =>
    some M2
  else none
set_option maxRecDepth 20000 in
theorem v_Sheet_assign_b31 {S : SE} {X : MX} {q : Mem} {o : Nat} {s0 : Int32} {s1 : Int32} {M : Mem} (C : CX S X cX6_assign 3 RX6 0) (K : RT S X none none q) (ho : kd o = 6) (h : f_Sheet_assign_b31 o s0 s1 M = some q) : V S X 3 M 31 [] [.int s0, .int s1, .ref (S.2.1 (o + 1))] := by
  unfold f_Sheet_assign_b31 at h
  obtain ⟨g1, h⟩ := gd_h h
  refine v_iast C (kd_Sheet_items ho) (ln_Sheet_items ho) g1 dX6_assign_31 ?_
  refine v_nmm h (fun M2 h => ?_)
  obtain rfl := Option.some.inj h
  exact v_vret C K dX6_assign_32
def f_Sheet_assign (o : Nat) (M : Mem) (a1 : Int32) (a2 : Int32) : Option Mem :=
  if (M o 1) = 0 then
    f_Sheet_assign_b31 o ((Int32.toInt8 a2).toInt32) a1 M
  else
    if (M o 1) = 1 then
      f_Sheet_assign_b31 o ((Int32.toInt16 a2).toInt32) a1 M
    else
      f_Sheet_assign_b31 o a2 a1 M
set_option maxRecDepth 20000 in
theorem v_Sheet_assign {S : SE} {X : MX} {q : Mem} {o : Nat} {M : Mem} {a1 : Int32} {a2 : Int32} (C : CX S X cX6_assign 3 RX6 0) (K : RT S X none none q) (ho : kd o = 6) (h : f_Sheet_assign o M a1 a2 = some q) : V S X 3 M 0 [(0, .ref (S.2.1 o)), (1, .int a1), (2, .int a2)] [] := by
  unfold f_Sheet_assign at h
  refine v_aload_n C 0 dX6_assign_0 rfl ?_
  refine g_Sheet_items C ho fl_X6_9 dX6_assign_1 ?_
  refine v_iload_n C 1 dX6_assign_4 rfl ?_
  refine v_aload_n C 0 dX6_assign_5 rfl ?_
  refine g_Sheet_form C ho fl_X6_15 dX6_assign_6 ?_
  refine v_if_ne C 17 dX6_assign_9 (by decide) (fun c4 => ?_) (fun c4 => ?_)
  · replace h := (ite_h h).2 c4
    refine v_aload_n C 0 dX6_assign_17 rfl ?_
    refine g_Sheet_form C ho fl_X6_15 dX6_assign_18 ?_
    refine v_iconst C 1 dX6_assign_21 rfl ?_
    refine v_icmp_ne C 30 dX6_assign_22 (by decide) (fun c3 => ?_) (fun c3 => ?_)
    · replace h := (ite_h h).2 c3
      refine v_iload_n C 2 dX6_assign_30 rfl ?_
      refine v_sub [] rfl ?_
      exact v_Sheet_assign_b31 C K ho h
    · replace h := (ite_h h).1 c3
      refine v_iload_n C 2 dX6_assign_25 rfl ?_
      refine v_i2s C dX6_assign_26 ?_
      refine v_goto C 31 dX6_assign_27 (by decide) ?_
      refine v_sub [] rfl ?_
      exact v_Sheet_assign_b31 C K ho h
  · replace h := (ite_h h).1 c4
    refine v_iload_n C 2 dX6_assign_12 rfl ?_
    refine v_i2b C dX6_assign_13 ?_
    refine v_goto C 31 dX6_assign_14 (by decide) ?_
    refine v_sub [] rfl ?_
    exact v_Sheet_assign_b31 C K ho h
theorem m_Sheet_assign {S : SE} (hI : Inj S) (o : Nat) (ho : kd o = 6) (M : Mem) (a1 : Int32) (a2 : Int32) (q : Mem) (h : f_Sheet_assign o M a1 a2 = some q) : CM S yX6_assign cX6_assign 3 none 0 [.ref (S.2.1 o), .int a1, .int a2] M none q :=
  CM.of [(0, .ref (S.2.1 o)), (1, .int a1), (2, .int a2)] hI (by decide) rfl (Nat.le_of_ble_eq_true rfl) (fun X C K => v_Sheet_assign C K ho h)
def f_Steps_codeOf (a0 : Int32) : Int32 :=
  if a0 = 100 then
    5
  else
  if a0 = 101 then
    1
  else
  if a0 = 102 then
    7
  else
  if a0 = 103 then
    6
  else
  if a0 = 104 then
    (-1)
  else
  if a0 = 105 then
    (-1)
  else
  if a0 = 106 then
    (-1)
  else
  if a0 = 107 then
    (-1)
  else
  if a0 = 108 then
    2
  else
  if a0 = 109 then
    3
  else
  if a0 = 110 then
    (-1)
  else
  if a0 = 111 then
    (-1)
  else
  if a0 = 112 then
    (-1)
  else
  if a0 = 113 then
    (-1)
  else
  if a0 = 114 then
    (-1)
  else
  if a0 = 115 then
    (-1)
  else
  if a0 = 116 then
    (-1)
  else
  if a0 = 117 then
    4
  else
  (-1)
set_option maxRecDepth 20000 in
theorem v_Steps_codeOf {S : SE} {X : MX} {q : Int32} {M : Mem} {a0 : Int32} (C : CX S X cX7_codeOf 1 RX7 0) (K : RT S X (some .int) (some (.int q)) M) (h : f_Steps_codeOf a0 = q) : V S X 1 M 0 [(0, .int a0)] [] := by
  unfold f_Steps_codeOf at h
  refine v_iload_n C 0 dX7_codeOf_0 rfl ?_
  by_cases c1 : a0 = 100
  · replace h := (ite_h h).1 c1
    refine v_tableIn C 96 dX7_codeOf_1 (by rw [c1]; decide) (by rw [c1]; decide) (by rw [c1]; rfl) (by decide) ?_
    refine v_iconst C 5 dX7_codeOf_96 rfl ?_
    subst h
    exact v_iret C K dX7_codeOf_97
  replace h := (ite_h h).2 c1
  by_cases c2 : a0 = 101
  · replace h := (ite_h h).1 c2
    refine v_tableIn C 88 dX7_codeOf_1 (by rw [c2]; decide) (by rw [c2]; decide) (by rw [c2]; rfl) (by decide) ?_
    refine v_iconst C 1 dX7_codeOf_88 rfl ?_
    subst h
    exact v_iret C K dX7_codeOf_89
  replace h := (ite_h h).2 c2
  by_cases c3 : a0 = 102
  · replace h := (ite_h h).1 c3
    refine v_tableIn C 101 dX7_codeOf_1 (by rw [c3]; decide) (by rw [c3]; decide) (by rw [c3]; rfl) (by decide) ?_
    refine v_bipush C 7 dX7_codeOf_101 rfl ?_
    subst h
    exact v_iret C K dX7_codeOf_103
  replace h := (ite_h h).2 c3
  by_cases c4 : a0 = 103
  · replace h := (ite_h h).1 c4
    refine v_tableIn C 98 dX7_codeOf_1 (by rw [c4]; decide) (by rw [c4]; decide) (by rw [c4]; rfl) (by decide) ?_
    refine v_bipush C 6 dX7_codeOf_98 rfl ?_
    subst h
    exact v_iret C K dX7_codeOf_100
  replace h := (ite_h h).2 c4
  by_cases c5 : a0 = 104
  · replace h := (ite_h h).1 c5
    refine v_tableIn C 104 dX7_codeOf_1 (by rw [c5]; decide) (by rw [c5]; decide) (by rw [c5]; rfl) (by decide) ?_
    refine v_iconst C (-1) dX7_codeOf_104 rfl ?_
    subst h
    exact v_iret C K dX7_codeOf_105
  replace h := (ite_h h).2 c5
  by_cases c6 : a0 = 105
  · replace h := (ite_h h).1 c6
    refine v_tableIn C 104 dX7_codeOf_1 (by rw [c6]; decide) (by rw [c6]; decide) (by rw [c6]; rfl) (by decide) ?_
    refine v_iconst C (-1) dX7_codeOf_104 rfl ?_
    subst h
    exact v_iret C K dX7_codeOf_105
  replace h := (ite_h h).2 c6
  by_cases c7 : a0 = 106
  · replace h := (ite_h h).1 c7
    refine v_tableIn C 104 dX7_codeOf_1 (by rw [c7]; decide) (by rw [c7]; decide) (by rw [c7]; rfl) (by decide) ?_
    refine v_iconst C (-1) dX7_codeOf_104 rfl ?_
    subst h
    exact v_iret C K dX7_codeOf_105
  replace h := (ite_h h).2 c7
  by_cases c8 : a0 = 107
  · replace h := (ite_h h).1 c8
    refine v_tableIn C 104 dX7_codeOf_1 (by rw [c8]; decide) (by rw [c8]; decide) (by rw [c8]; rfl) (by decide) ?_
    refine v_iconst C (-1) dX7_codeOf_104 rfl ?_
    subst h
    exact v_iret C K dX7_codeOf_105
  replace h := (ite_h h).2 c8
  by_cases c9 : a0 = 108
  · replace h := (ite_h h).1 c9
    refine v_tableIn C 90 dX7_codeOf_1 (by rw [c9]; decide) (by rw [c9]; decide) (by rw [c9]; rfl) (by decide) ?_
    refine v_iconst C 2 dX7_codeOf_90 rfl ?_
    subst h
    exact v_iret C K dX7_codeOf_91
  replace h := (ite_h h).2 c9
  by_cases c10 : a0 = 109
  · replace h := (ite_h h).1 c10
    refine v_tableIn C 92 dX7_codeOf_1 (by rw [c10]; decide) (by rw [c10]; decide) (by rw [c10]; rfl) (by decide) ?_
    refine v_iconst C 3 dX7_codeOf_92 rfl ?_
    subst h
    exact v_iret C K dX7_codeOf_93
  replace h := (ite_h h).2 c10
  by_cases c11 : a0 = 110
  · replace h := (ite_h h).1 c11
    refine v_tableIn C 104 dX7_codeOf_1 (by rw [c11]; decide) (by rw [c11]; decide) (by rw [c11]; rfl) (by decide) ?_
    refine v_iconst C (-1) dX7_codeOf_104 rfl ?_
    subst h
    exact v_iret C K dX7_codeOf_105
  replace h := (ite_h h).2 c11
  by_cases c12 : a0 = 111
  · replace h := (ite_h h).1 c12
    refine v_tableIn C 104 dX7_codeOf_1 (by rw [c12]; decide) (by rw [c12]; decide) (by rw [c12]; rfl) (by decide) ?_
    refine v_iconst C (-1) dX7_codeOf_104 rfl ?_
    subst h
    exact v_iret C K dX7_codeOf_105
  replace h := (ite_h h).2 c12
  by_cases c13 : a0 = 112
  · replace h := (ite_h h).1 c13
    refine v_tableIn C 104 dX7_codeOf_1 (by rw [c13]; decide) (by rw [c13]; decide) (by rw [c13]; rfl) (by decide) ?_
    refine v_iconst C (-1) dX7_codeOf_104 rfl ?_
    subst h
    exact v_iret C K dX7_codeOf_105
  replace h := (ite_h h).2 c13
  by_cases c14 : a0 = 113
  · replace h := (ite_h h).1 c14
    refine v_tableIn C 104 dX7_codeOf_1 (by rw [c14]; decide) (by rw [c14]; decide) (by rw [c14]; rfl) (by decide) ?_
    refine v_iconst C (-1) dX7_codeOf_104 rfl ?_
    subst h
    exact v_iret C K dX7_codeOf_105
  replace h := (ite_h h).2 c14
  by_cases c15 : a0 = 114
  · replace h := (ite_h h).1 c15
    refine v_tableIn C 104 dX7_codeOf_1 (by rw [c15]; decide) (by rw [c15]; decide) (by rw [c15]; rfl) (by decide) ?_
    refine v_iconst C (-1) dX7_codeOf_104 rfl ?_
    subst h
    exact v_iret C K dX7_codeOf_105
  replace h := (ite_h h).2 c15
  by_cases c16 : a0 = 115
  · replace h := (ite_h h).1 c16
    refine v_tableIn C 104 dX7_codeOf_1 (by rw [c16]; decide) (by rw [c16]; decide) (by rw [c16]; rfl) (by decide) ?_
    refine v_iconst C (-1) dX7_codeOf_104 rfl ?_
    subst h
    exact v_iret C K dX7_codeOf_105
  replace h := (ite_h h).2 c16
  by_cases c17 : a0 = 116
  · replace h := (ite_h h).1 c17
    refine v_tableIn C 104 dX7_codeOf_1 (by rw [c17]; decide) (by rw [c17]; decide) (by rw [c17]; rfl) (by decide) ?_
    refine v_iconst C (-1) dX7_codeOf_104 rfl ?_
    subst h
    exact v_iret C K dX7_codeOf_105
  replace h := (ite_h h).2 c17
  by_cases c18 : a0 = 117
  · replace h := (ite_h h).1 c18
    refine v_tableIn C 94 dX7_codeOf_1 (by rw [c18]; decide) (by rw [c18]; decide) (by rw [c18]; rfl) (by decide) ?_
    refine v_iconst C 4 dX7_codeOf_94 rfl ?_
    subst h
    exact v_iret C K dX7_codeOf_95
  replace h := (ite_h h).2 c18
  refine v_tableOut C 104 dX7_codeOf_1 (by
      have := ne_toInt c1 (100 : Int) rfl
      have := ne_toInt c2 (101 : Int) rfl
      have := ne_toInt c3 (102 : Int) rfl
      have := ne_toInt c4 (103 : Int) rfl
      have := ne_toInt c5 (104 : Int) rfl
      have := ne_toInt c6 (105 : Int) rfl
      have := ne_toInt c7 (106 : Int) rfl
      have := ne_toInt c8 (107 : Int) rfl
      have := ne_toInt c9 (108 : Int) rfl
      have := ne_toInt c10 (109 : Int) rfl
      have := ne_toInt c11 (110 : Int) rfl
      have := ne_toInt c12 (111 : Int) rfl
      have := ne_toInt c13 (112 : Int) rfl
      have := ne_toInt c14 (113 : Int) rfl
      have := ne_toInt c15 (114 : Int) rfl
      have := ne_toInt c16 (115 : Int) rfl
      have := ne_toInt c17 (116 : Int) rfl
      have := ne_toInt c18 (117 : Int) rfl
      omega) (by decide) ?_
  refine v_iconst C (-1) dX7_codeOf_104 rfl ?_
  subst h
  exact v_iret C K dX7_codeOf_105
theorem m_Steps_codeOf {S : SE} (hI : Inj S) (M : Mem) (a0 : Int32) (q : Int32) (h : f_Steps_codeOf a0 = q) : CM S yX7_codeOf cX7_codeOf 1 (some .int) 0 [.int a0] M (some (.int q)) M :=
  CM.of [(0, .int a0)] hI (by decide) rfl (Nat.le_of_ble_eq_true rfl) (fun X C K => v_Steps_codeOf C K  h)
def f_Steps_add (M : Mem) (a1 : Int32) (a2 : Int32) : Option Mem :=
  if 12 ≤ (M 10 2) then
    some M
  else
    if gin (M 10 2) 12 then
      bnd (mset M 11 (M 10 2).toNatClampNeg a1) fun M2 =>
      if gin (M2 10 2) 12 then
        bnd (mset M2 12 (M2 10 2).toNatClampNeg a2) fun M4 =>
        bnd (mset M4 10 2 ((M4 10 2) + 1)) fun M5 =>
        some M5
      else none
    else none
set_option maxRecDepth 20000 in
theorem v_Steps_add {S : SE} {X : MX} {q : Mem} {M : Mem} {a1 : Int32} {a2 : Int32} (C : CX S X cX7_add 3 RX7 0) (K : RT S X none none q) (h : f_Steps_add M a1 a2 = some q) : V S X 3 M 0 [(0, .ref (S.2.1 10)), (1, .int a1), (2, .int a2)] [] := by
  unfold f_Steps_add at h
  refine v_aload_n C 0 dX7_add_0 rfl ?_
  refine g_Steps_size C kk10 fl_X7_18 dX7_add_1 ?_
  refine v_bipush C 12 dX7_add_4 rfl ?_
  refine v_icmp_ge C 39 dX7_add_6 (by decide) (fun c6 => ?_) (fun c6 => ?_)
  · replace h := (ite_h h).1 c6
    obtain rfl := Option.some.inj h
    exact v_vret C K dX7_add_39
  · replace h := (ite_h h).2 c6
    refine v_aload_n C 0 dX7_add_9 rfl ?_
    refine g_Steps_codes C kk10 fl_X7_9 dX7_add_10 ?_
    refine v_aload_n C 0 dX7_add_13 rfl ?_
    refine g_Steps_size C kk10 fl_X7_18 dX7_add_14 ?_
    refine v_iload_n C 1 dX7_add_17 rfl ?_
    obtain ⟨g1, h⟩ := gd_h h
    refine v_iast C kk11 ll11 g1 dX7_add_18 ?_
    refine v_nmm h (fun M2 h => ?_)
    refine v_aload_n C 0 dX7_add_19 rfl ?_
    refine g_Steps_figures C kk10 fl_X7_15 dX7_add_20 ?_
    refine v_aload_n C 0 dX7_add_23 rfl ?_
    refine g_Steps_size C kk10 fl_X7_18 dX7_add_24 ?_
    refine v_iload_n C 2 dX7_add_27 rfl ?_
    obtain ⟨g3, h⟩ := gd_h h
    refine v_iast C kk12 ll12 g3 dX7_add_28 ?_
    refine v_nmm h (fun M4 h => ?_)
    refine v_aload_n C 0 dX7_add_29 rfl ?_
    refine v_dup C dX7_add_30 rfl ?_
    refine g_Steps_size C kk10 fl_X7_18 dX7_add_31 ?_
    refine v_iconst C 1 dX7_add_34 rfl ?_
    refine v_iadd C dX7_add_35 ?_
    refine p_Steps_size C kk10 fl_X7_18 dX7_add_36 ?_
    refine v_nmm h (fun M5 h => ?_)
    obtain rfl := Option.some.inj h
    exact v_vret C K dX7_add_39
theorem m_Steps_add {S : SE} (hI : Inj S) (M : Mem) (a1 : Int32) (a2 : Int32) (q : Mem) (h : f_Steps_add M a1 a2 = some q) : CM S yX7_add cX7_add 3 none 0 [.ref (S.2.1 10), .int a1, .int a2] M none q :=
  CM.of [(0, .ref (S.2.1 10)), (1, .int a1), (2, .int a2)] hI (by decide) rfl (Nat.le_of_ble_eq_true rfl) (fun X C K => v_Steps_add C K  h)
def f_U_isFigure_b16 : Int32 :=
  0
set_option maxRecDepth 20000 in
theorem v_U_isFigure_b16 {S : SE} {X : MX} {q : Int32} {M : Mem} (C : CX S X cX11_isFigure 1 RX11 0) (K : RT S X (some .boolean) (some (.int q)) M) (h : f_U_isFigure_b16 = q) : V S X 1 M 16 [] [] := by
  unfold f_U_isFigure_b16 at h
  refine v_iconst C 0 dX11_isFigure_16 rfl ?_
  subst h
  exact v_zret C (Or.inl rfl) K dX11_isFigure_17
def f_U_isFigure (a0 : Int32) : Int32 :=
  if a0 < 48 then
    f_U_isFigure_b16
  else
    if 57 < a0 then
      f_U_isFigure_b16
    else
      1
set_option maxRecDepth 20000 in
theorem v_U_isFigure {S : SE} {X : MX} {q : Int32} {M : Mem} {a0 : Int32} (C : CX S X cX11_isFigure 1 RX11 0) (K : RT S X (some .boolean) (some (.int q)) M) (h : f_U_isFigure a0 = q) : V S X 1 M 0 [(0, .int a0)] [] := by
  unfold f_U_isFigure at h
  refine v_iload_n C 0 dX11_isFigure_0 rfl ?_
  refine v_bipush C 48 dX11_isFigure_1 rfl ?_
  refine v_icmp_lt C 16 dX11_isFigure_3 (by decide) (fun c2 => ?_) (fun c2 => ?_)
  · replace h := (ite_h h).1 c2
    refine v_sub [] rfl ?_
    exact v_U_isFigure_b16 C K h
  · replace h := (ite_h h).2 c2
    refine v_iload_n C 0 dX11_isFigure_6 rfl ?_
    refine v_bipush C 57 dX11_isFigure_7 rfl ?_
    refine v_icmp_gt C 16 dX11_isFigure_9 (by decide) (fun c1 => ?_) (fun c1 => ?_)
    · replace h := (ite_h h).1 c1
      refine v_sub [] rfl ?_
      exact v_U_isFigure_b16 C K h
    · replace h := (ite_h h).2 c1
      refine v_iconst C 1 dX11_isFigure_12 rfl ?_
      refine v_goto C 17 dX11_isFigure_13 (by decide) ?_
      subst h
      exact v_zret C (Or.inr rfl) K dX11_isFigure_17
theorem m_U_isFigure {S : SE} (hI : Inj S) (M : Mem) (a0 : Int32) (q : Int32) (h : f_U_isFigure a0 = q) : CM S yX11_isFigure cX11_isFigure 1 (some .boolean) 0 [.int a0] M (some (.int q)) M :=
  CM.of [(0, .int a0)] hI (by decide) rfl (Nat.le_of_ble_eq_true rfl) (fun X C K => v_U_isFigure C K  h)
theorem bz_U_isFigure (a0 : Int32) : f_U_isFigure a0 = 0 ∨ f_U_isFigure a0 = 1 := by unfold f_U_isFigure f_U_isFigure_b16; (repeat' split) <;> first | exact Or.inl rfl | exact Or.inr rfl
def f_Steps_parse_b117 (a1 : Nat) (M : Mem) : Option Mem :=
  if (M 10 3) = (-1) then
    some M
  else
    bnd (mset M 10 2 0) fun M3 =>
    some M3
set_option maxRecDepth 20000 in
theorem v_Steps_parse_b117 {S : SE} {X : MX} {q : Mem} {a1 : Nat} {M : Mem} (C : CX S X cX7_parse 4 RX7 1) (K : RT S X none none q) (ha1 : kd a1 = 10) (h : f_Steps_parse_b117 a1 M = some q) : V S X 4 M 117 [(0, .ref (S.2.1 10))] [] := by
  unfold f_Steps_parse_b117 at h
  refine v_aload_n C 0 dX7_parse_117 rfl ?_
  refine g_Steps_fault C kk10 fl_X7_22 dX7_parse_118 ?_
  refine v_iconst C (-1) dX7_parse_121 rfl ?_
  refine v_icmp_eq C 130 dX7_parse_122 (by decide) (fun c4 => ?_) (fun c4 => ?_)
  · replace h := (ite_h h).1 c4
    obtain rfl := Option.some.inj h
    exact v_vret C K dX7_parse_130
  · replace h := (ite_h h).2 c4
    refine v_aload_n C 0 dX7_parse_125 rfl ?_
    refine v_iconst C 0 dX7_parse_126 rfl ?_
    refine p_Steps_size C kk10 fl_X7_18 dX7_parse_127 ?_
    refine v_nmm h (fun M3 h => ?_)
    obtain rfl := Option.some.inj h
    exact v_vret C K dX7_parse_130
def f_Steps_parse_b111 (a1 : Nat) (k12 : Int32 → Mem → Option Mem) (a2 : Int32) (M : Mem) : Option Mem :=
  k12 (a2 + 1) M
set_option maxRecDepth 20000 in
theorem v_Steps_parse_b111 {S : SE} {X : MX} {q : Mem} {a1 : Nat} {k12 : Int32 → Mem → Option Mem} {a2 : Int32} {M : Mem} (C : CX S X cX7_parse 4 RX7 1) (K : RT S X none none q) (ha1 : kd a1 = 10) (hk12 : ∀ (a2 : Int32) (M : Mem), k12 a2 M = some q → V S X 4 M 12 [(0, .ref (S.2.1 10)), (1, .ref (S.2.1 a1)), (2, .int a2)] []) (h : f_Steps_parse_b111 a1 k12 a2 M = some q) : V S X 4 M 111 [(0, .ref (S.2.1 10)), (1, .ref (S.2.1 a1)), (2, .int a2)] [] := by
  unfold f_Steps_parse_b111 at h
  refine v_iinc C [(2, .int (a2 + 1)), (0, .ref (S.2.1 10)), (1, .ref (S.2.1 a1))] 2 (a2 + 1) dX7_parse_111 rfl rfl (by decide) rfl ?_
  refine v_goto C 12 dX7_parse_114 (by decide) ?_
  refine v_sub [1, 2, 0] rfl ?_
  exact hk12 _ _ h
def f_Steps_parse_b106 (a1 : Nat) (k12 : Int32 → Mem → Option Mem) (a2 : Int32) (M : Mem) : Option Mem :=
  bnd (mset M 10 3 a2) fun M7 =>
  f_Steps_parse_b111 a1 k12 a2 M7
set_option maxRecDepth 20000 in
theorem v_Steps_parse_b106 {S : SE} {X : MX} {q : Mem} {a1 : Nat} {k12 : Int32 → Mem → Option Mem} {a2 : Int32} {M : Mem} (C : CX S X cX7_parse 4 RX7 1) (K : RT S X none none q) (ha1 : kd a1 = 10) (hk12 : ∀ (a2 : Int32) (M : Mem), k12 a2 M = some q → V S X 4 M 12 [(0, .ref (S.2.1 10)), (1, .ref (S.2.1 a1)), (2, .int a2)] []) (h : f_Steps_parse_b106 a1 k12 a2 M = some q) : V S X 4 M 106 [(0, .ref (S.2.1 10)), (1, .ref (S.2.1 a1)), (2, .int a2)] [] := by
  unfold f_Steps_parse_b106 at h
  refine v_aload_n C 0 dX7_parse_106 rfl ?_
  refine v_iload_n C 2 dX7_parse_107 rfl ?_
  refine p_Steps_fault C kk10 fl_X7_22 dX7_parse_108 ?_
  refine v_nmm h (fun M7 h => ?_)
  exact v_Steps_parse_b111 C K ha1 hk12 h
def f_Steps_parse_l12B (a1 : Nat) (k12 : Int32 → Mem → Option Mem) (a2 : Int32) (M : Mem) : Option Mem :=
  if (M a1 1) ≤ a2 then
    f_Steps_parse_b117 a1 M
  else
    if (M 10 3) = (-1) then
      if gin a2 (ln (a1 + 1)) then
        bnd (f_Steps_codeOf (M (a1 + 1) a2.toNatClampNeg)) fun x6 =>
        if x6 = (-1) then
          bnd (mset M 10 3 a2) fun M15 =>
          f_Steps_parse_b111 a1 k12 a2 M15
        else
          if x6 = 7 then
            if (M a1 1) ≤ (a2 + 1) then
              f_Steps_parse_b106 a1 k12 (a2 + 1) M
            else
              if gin (a2 + 1) (ln (a1 + 1)) then
                if (f_U_isFigure (M (a1 + 1) (a2 + 1).toNatClampNeg)) = 0 then
                  f_Steps_parse_b106 a1 k12 (a2 + 1) M
                else
                  if gin (a2 + 1) (ln (a1 + 1)) then
                    (f_Steps_add M x6 ((M (a1 + 1) (a2 + 1).toNatClampNeg) - 48)).bind fun q10 =>
                    f_Steps_parse_b111 a1 k12 (a2 + 1) q10
                  else none
              else none
          else
            (f_Steps_add M x6 (-1)).bind fun q13 =>
            f_Steps_parse_b111 a1 k12 a2 q13
      else none
    else
      f_Steps_parse_b117 a1 M
set_option maxRecDepth 20000 in
theorem v_Steps_parse_l12B {S : SE} {X : MX} {q : Mem} {a1 : Nat} {k12 : Int32 → Mem → Option Mem} {a2 : Int32} {M : Mem} (C : CX S X cX7_parse 4 RX7 1) (K : RT S X none none q) (ha1 : kd a1 = 10) (hk12 : ∀ (a2 : Int32) (M : Mem), k12 a2 M = some q → V S X 4 M 12 [(0, .ref (S.2.1 10)), (1, .ref (S.2.1 a1)), (2, .int a2)] []) (h : f_Steps_parse_l12B a1 k12 a2 M = some q) : V S X 4 M 12 [(0, .ref (S.2.1 10)), (1, .ref (S.2.1 a1)), (2, .int a2)] [] := by
  unfold f_Steps_parse_l12B at h
  refine v_iload_n C 2 dX7_parse_12 rfl ?_
  refine v_aload_n C 1 dX7_parse_13 rfl ?_
  refine g_Text_size C ha1 fl_X7_25 dX7_parse_14 ?_
  refine v_icmp_ge C 117 dX7_parse_17 (by decide) (fun c18 => ?_) (fun c18 => ?_)
  · replace h := (ite_h h).1 c18
    refine v_sub [0] rfl ?_
    exact v_Steps_parse_b117 C K ha1 h
  · replace h := (ite_h h).2 c18
    refine v_aload_n C 0 dX7_parse_20 rfl ?_
    refine g_Steps_fault C kk10 fl_X7_22 dX7_parse_21 ?_
    refine v_iconst C (-1) dX7_parse_24 rfl ?_
    refine v_icmp_ne C 117 dX7_parse_25 (by decide) (fun c17 => ?_) (fun c17 => ?_)
    · replace h := (ite_h h).2 c17
      refine v_sub [0] rfl ?_
      exact v_Steps_parse_b117 C K ha1 h
    · replace h := (ite_h h).1 c17
      refine v_aload_n C 1 dX7_parse_28 rfl ?_
      refine g_Text_bytes C ha1 fl_X7_28 dX7_parse_29 ?_
      refine v_iload_n C 2 dX7_parse_32 rfl ?_
      obtain ⟨g5, h⟩ := gd_h h
      refine v_iald C (kd_Text_bytes ha1) rfl g5 dX7_parse_33 ?_
      refine cs C [] (m_Steps_codeOf C.inj M (M (a1 + 1) a2.toNatClampNeg) _ rfl) ci_Steps_codeOf lk_X7_31 (by decide) rfl rfl (Nat.le_of_ble_eq_true rfl) dX7_parse_34 ?_
      refine v_nmi h (fun x6 h => ?_)
      refine v_istore_n C [(3, .int x6), (0, .ref (S.2.1 10)), (1, .ref (S.2.1 a1)), (2, .int a2)] dX7_parse_37 (by decide) rfl ?_
      refine v_iload_n C 0 dX7_parse_38 rfl ?_
      refine v_iconst C (-1) dX7_parse_39 rfl ?_
      refine v_icmp_ne C 51 dX7_parse_40 (by decide) (fun c16 => ?_) (fun c16 => ?_)
      · replace h := (ite_h h).2 c16
        refine v_iload_n C 0 dX7_parse_51 rfl ?_
        refine v_bipush C 7 dX7_parse_52 rfl ?_
        refine v_icmp_eq C 66 dX7_parse_54 (by decide) (fun c14 => ?_) (fun c14 => ?_)
        · replace h := (ite_h h).1 c14
          refine v_iinc C [(2, .int (a2 + 1)), (3, .int x6), (0, .ref (S.2.1 10)), (1, .ref (S.2.1 a1))] 3 (a2 + 1) dX7_parse_66 rfl rfl (by decide) rfl ?_
          refine v_iload_n C 0 dX7_parse_69 rfl ?_
          refine v_aload_n C 3 dX7_parse_70 rfl ?_
          refine g_Text_size C ha1 fl_X7_25 dX7_parse_71 ?_
          refine v_icmp_ge C 106 dX7_parse_74 (by decide) (fun c12 => ?_) (fun c12 => ?_)
          · replace h := (ite_h h).1 c12
            refine v_sub [2, 3, 0] rfl ?_
            exact v_Steps_parse_b106 C K ha1 hk12 h
          · replace h := (ite_h h).2 c12
            refine v_aload_n C 3 dX7_parse_77 rfl ?_
            refine g_Text_bytes C ha1 fl_X7_28 dX7_parse_78 ?_
            refine v_iload_n C 0 dX7_parse_81 rfl ?_
            obtain ⟨g8, h⟩ := gd_h h
            refine v_iald C (kd_Text_bytes ha1) rfl g8 dX7_parse_82 ?_
            refine csN C [] (m_U_isFigure C.inj M (M (a1 + 1) (a2 + 1).toNatClampNeg) _ rfl) ci_U_isFigure lk_X7_39 (by decide) rfl rfl (Nat.le_of_ble_eq_true rfl) dX7_parse_83 ?_
            refine v_if_eq C 106 dX7_parse_86 (by decide) (fun c11 => ?_) (fun c11 => ?_)
            · replace h := (ite_h h).1 c11
              refine v_sub [2, 3, 0] rfl ?_
              exact v_Steps_parse_b106 C K ha1 hk12 h
            · replace h := (ite_h h).2 c11
              refine v_aload_n C 2 dX7_parse_89 rfl ?_
              refine v_iload_n C 1 dX7_parse_90 rfl ?_
              refine v_aload_n C 3 dX7_parse_91 rfl ?_
              refine g_Text_bytes C ha1 fl_X7_28 dX7_parse_92 ?_
              refine v_iload_n C 0 dX7_parse_95 rfl ?_
              obtain ⟨g9, h⟩ := gd_h h
              refine v_iald C (kd_Text_bytes ha1) rfl g9 dX7_parse_96 ?_
              refine v_bipush C 48 dX7_parse_97 rfl ?_
              refine v_isub C dX7_parse_99 ?_
              obtain ⟨q10, hq10, h⟩ := Option.bind_eq_some_iff.mp h
              refine cv7v C [] kk10 (m_Steps_add C.inj M x6 ((M (a1 + 1) (a2 + 1).toNatClampNeg) - 48) q10 hq10) ci_Steps_add rfl lk_X7_35 (by decide) rfl rfl (Nat.le_of_ble_eq_true rfl) dX7_parse_100 ?_
              refine v_goto C 111 dX7_parse_103 (by decide) ?_
              refine v_sub [2, 3, 0] rfl ?_
              exact v_Steps_parse_b111 C K ha1 hk12 h
        · replace h := (ite_h h).2 c14
          refine v_aload_n C 1 dX7_parse_57 rfl ?_
          refine v_iload_n C 0 dX7_parse_58 rfl ?_
          refine v_iconst C (-1) dX7_parse_59 rfl ?_
          obtain ⟨q13, hq13, h⟩ := Option.bind_eq_some_iff.mp h
          refine cv7v C [] kk10 (m_Steps_add C.inj M x6 (-1) q13 hq13) ci_Steps_add rfl lk_X7_35 (by decide) rfl rfl (Nat.le_of_ble_eq_true rfl) dX7_parse_60 ?_
          refine v_goto C 111 dX7_parse_63 (by decide) ?_
          refine v_sub [1, 2, 3] rfl ?_
          exact v_Steps_parse_b111 C K ha1 hk12 h
      · replace h := (ite_h h).1 c16
        refine v_aload_n C 1 dX7_parse_43 rfl ?_
        refine v_iload_n C 3 dX7_parse_44 rfl ?_
        refine p_Steps_fault C kk10 fl_X7_22 dX7_parse_45 ?_
        refine v_nmm h (fun M15 h => ?_)
        refine v_goto C 111 dX7_parse_48 (by decide) ?_
        refine v_sub [1, 2, 3] rfl ?_
        exact v_Steps_parse_b111 C K ha1 hk12 h
def f_Steps_parse_l12 (a1 : Nat) : Nat → Int32 → Mem → Option Mem
  | 0, _, _ => none
  | n + 1, a2, M => f_Steps_parse_l12B a1 (f_Steps_parse_l12 a1 n) a2 M
theorem v_Steps_parse_l12 {S : SE} {X : MX} {q : Mem} {a1 : Nat} (C : CX S X cX7_parse 4 RX7 1) (K : RT S X none none q) (ha1 : kd a1 = 10) : ∀ (n : Nat) (a2 : Int32) (M : Mem), f_Steps_parse_l12 a1 n a2 M = some q → V S X 4 M 12 [(0, .ref (S.2.1 10)), (1, .ref (S.2.1 a1)), (2, .int a2)] [] := by
  intro n
  induction n with
  | zero => intro a2 M h; cases h
  | succ n ih => intro a2 M h; exact v_Steps_parse_l12B C K ha1 ih h
def f_Steps_parse (a1 : Nat) (M : Mem) : Option Mem :=
  bnd (mset M 10 2 0) fun M1 =>
  bnd (mset M1 10 3 (-1)) fun M2 =>
  f_Steps_parse_l12 a1 FU 0 M2
set_option maxRecDepth 20000 in
theorem v_Steps_parse {S : SE} {X : MX} {q : Mem} {a1 : Nat} {M : Mem} (C : CX S X cX7_parse 4 RX7 1) (K : RT S X none none q) (ha1 : kd a1 = 10) (h : f_Steps_parse a1 M = some q) : V S X 4 M 0 [(0, .ref (S.2.1 10)), (1, .ref (S.2.1 a1))] [] := by
  unfold f_Steps_parse at h
  refine v_aload_n C 0 dX7_parse_0 rfl ?_
  refine v_iconst C 0 dX7_parse_1 rfl ?_
  refine p_Steps_size C kk10 fl_X7_18 dX7_parse_2 ?_
  refine v_nmm h (fun M1 h => ?_)
  refine v_aload_n C 0 dX7_parse_5 rfl ?_
  refine v_iconst C (-1) dX7_parse_6 rfl ?_
  refine p_Steps_fault C kk10 fl_X7_22 dX7_parse_7 ?_
  refine v_nmm h (fun M2 h => ?_)
  refine v_iconst C 0 dX7_parse_10 rfl ?_
  refine v_istore_n C [(2, .int 0), (0, .ref (S.2.1 10)), (1, .ref (S.2.1 a1))] dX7_parse_11 (by decide) rfl ?_
  refine v_sub [1, 2, 0] rfl ?_
  exact v_Steps_parse_l12 C K ha1 FU _ _ h
theorem m_Steps_parse {S : SE} (hI : Inj S) (a1 : Nat) (ha1 : kd a1 = 10) (M : Mem) (q : Mem) (h : f_Steps_parse a1 M = some q) : CM S yX7_parse cX7_parse 4 none 1 [.ref (S.2.1 10), .ref (S.2.1 a1)] M none q :=
  CM.of [(0, .ref (S.2.1 10)), (1, .ref (S.2.1 a1))] hI (by decide) rfl (Nat.le_of_ble_eq_true rfl) (fun X C K => v_Steps_parse C K ha1 h)
def f_Steps_speakingBits_b26 (k4 : Int32 → Int32 → Mem → Option Int32) (a1 : Int32) (a2 : Int32) (M : Mem) : Option Int32 :=
  k4 a1 (a2 + 1) M
set_option maxRecDepth 20000 in
theorem v_Steps_speakingBits_b26 {S : SE} {X : MX} {q : Int32} {k4 : Int32 → Int32 → Mem → Option Int32} {a1 : Int32} {a2 : Int32} {M : Mem} (C : CX S X cX7_speakingBits 3 RX7 1) (K : RT S X (some .int) (some (.int q)) M) (hk4 : ∀ (a1 : Int32) (a2 : Int32), k4 a1 a2 M = some q → V S X 3 M 4 [(0, .ref (S.2.1 10)), (1, .int a1), (2, .int a2)] []) (h : f_Steps_speakingBits_b26 k4 a1 a2 M = some q) : V S X 3 M 26 [(0, .ref (S.2.1 10)), (1, .int a1), (2, .int a2)] [] := by
  unfold f_Steps_speakingBits_b26 at h
  refine v_iinc C [(2, .int (a2 + 1)), (0, .ref (S.2.1 10)), (1, .int a1)] 2 (a2 + 1) dX7_speakingBits_26 rfl rfl (by decide) rfl ?_
  refine v_goto C 4 dX7_speakingBits_29 (by decide) ?_
  refine v_sub [1, 2, 0] rfl ?_
  exact hk4 _ _ h
def f_Steps_speakingBits_l4B (k4 : Int32 → Int32 → Mem → Option Int32) (a1 : Int32) (a2 : Int32) (M : Mem) : Option Int32 :=
  if (M 10 2) ≤ a2 then
    some a1
  else
    (f_Steps_speaksAt M a2).bind fun q1 =>
    if q1 = 0 then
      f_Steps_speakingBits_b26 k4 a1 a2 M
    else
      bnd (a1 ||| (1 <<< (a2 &&& 31))) fun x2 =>
      f_Steps_speakingBits_b26 k4 x2 a2 M
set_option maxRecDepth 20000 in
theorem v_Steps_speakingBits_l4B {S : SE} {X : MX} {q : Int32} {k4 : Int32 → Int32 → Mem → Option Int32} {a1 : Int32} {a2 : Int32} {M : Mem} (C : CX S X cX7_speakingBits 3 RX7 1) (K : RT S X (some .int) (some (.int q)) M) (hk4 : ∀ (a1 : Int32) (a2 : Int32), k4 a1 a2 M = some q → V S X 3 M 4 [(0, .ref (S.2.1 10)), (1, .int a1), (2, .int a2)] []) (h : f_Steps_speakingBits_l4B k4 a1 a2 M = some q) : V S X 3 M 4 [(0, .ref (S.2.1 10)), (1, .int a1), (2, .int a2)] [] := by
  unfold f_Steps_speakingBits_l4B at h
  refine v_iload_n C 2 dX7_speakingBits_4 rfl ?_
  refine v_aload_n C 0 dX7_speakingBits_5 rfl ?_
  refine g_Steps_size C kk10 fl_X7_18 dX7_speakingBits_6 ?_
  refine v_icmp_ge C 32 dX7_speakingBits_9 (by decide) (fun c4 => ?_) (fun c4 => ?_)
  · replace h := (ite_h h).1 c4
    refine v_iload_n C 1 dX7_speakingBits_32 rfl ?_
    obtain rfl := Option.some.inj h
    exact v_iret C K dX7_speakingBits_33
  · replace h := (ite_h h).2 c4
    refine v_aload_n C 0 dX7_speakingBits_12 rfl ?_
    refine v_iload_n C 2 dX7_speakingBits_13 rfl ?_
    obtain ⟨q1, hq1, h⟩ := Option.bind_eq_some_iff.mp h
    refine cv7 C [] kk10 (m_Steps_speaksAt C.inj M a2 q1 hq1) ci_Steps_speaksAt rfl lk_X7_43 (by decide) rfl rfl (Nat.le_of_ble_eq_true rfl) dX7_speakingBits_14 ?_
    refine v_if_eq C 26 dX7_speakingBits_17 (by decide) (fun c3 => ?_) (fun c3 => ?_)
    · replace h := (ite_h h).1 c3
      exact v_Steps_speakingBits_b26 C K hk4 h
    · replace h := (ite_h h).2 c3
      refine v_iload_n C 1 dX7_speakingBits_20 rfl ?_
      refine v_iconst C 1 dX7_speakingBits_21 rfl ?_
      refine v_iload_n C 2 dX7_speakingBits_22 rfl ?_
      refine v_ishl C dX7_speakingBits_23 ?_
      refine v_ior C dX7_speakingBits_24 ?_
      refine v_nmi h (fun x2 h => ?_)
      refine v_istore_n C [(1, .int x2), (0, .ref (S.2.1 10)), (2, .int a2)] dX7_speakingBits_25 (by decide) rfl ?_
      refine v_sub [1, 0, 2] rfl ?_
      exact v_Steps_speakingBits_b26 C K hk4 h
def f_Steps_speakingBits_l4 : Nat → Int32 → Int32 → Mem → Option Int32
  | 0, _, _, _ => none
  | n + 1, a1, a2, M => f_Steps_speakingBits_l4B (f_Steps_speakingBits_l4 n) a1 a2 M
theorem v_Steps_speakingBits_l4 {S : SE} {X : MX} {q : Int32} {M : Mem} (C : CX S X cX7_speakingBits 3 RX7 1) (K : RT S X (some .int) (some (.int q)) M) : ∀ (n : Nat) (a1 : Int32) (a2 : Int32), f_Steps_speakingBits_l4 n a1 a2 M = some q → V S X 3 M 4 [(0, .ref (S.2.1 10)), (1, .int a1), (2, .int a2)] [] := by
  intro n
  induction n with
  | zero => intro a1 a2 h; cases h
  | succ n ih => intro a1 a2 h; exact v_Steps_speakingBits_l4B C K ih h
def f_Steps_speakingBits (M : Mem) : Option Int32 :=
  f_Steps_speakingBits_l4 FU 0 0 M
set_option maxRecDepth 20000 in
theorem v_Steps_speakingBits {S : SE} {X : MX} {q : Int32} {M : Mem} (C : CX S X cX7_speakingBits 3 RX7 1) (K : RT S X (some .int) (some (.int q)) M) (h : f_Steps_speakingBits M = some q) : V S X 3 M 0 [(0, .ref (S.2.1 10))] [] := by
  unfold f_Steps_speakingBits at h
  refine v_iconst C 0 dX7_speakingBits_0 rfl ?_
  refine v_istore_n C [(1, .int 0), (0, .ref (S.2.1 10))] dX7_speakingBits_1 (by decide) rfl ?_
  refine v_iconst C 0 dX7_speakingBits_2 rfl ?_
  refine v_istore_n C [(2, .int 0), (1, .int 0), (0, .ref (S.2.1 10))] dX7_speakingBits_3 (by decide) rfl ?_
  refine v_sub [2, 1, 0] rfl ?_
  exact v_Steps_speakingBits_l4 C K FU _ _ h
theorem m_Steps_speakingBits {S : SE} (hI : Inj S) (M : Mem) (q : Int32) (h : f_Steps_speakingBits M = some q) : CM S yX7_speakingBits cX7_speakingBits 3 (some .int) 1 [.ref (S.2.1 10)] M (some (.int q)) M :=
  CM.of [(0, .ref (S.2.1 10))] hI (by decide) rfl (Nat.le_of_ble_eq_true rfl) (fun X C K => v_Steps_speakingBits C K  h)
def f_Table_firstWrong_b94 (a0 : Nat) (M : Mem) : Option Int32 :=
  some (-1)
set_option maxRecDepth 20000 in
theorem v_Table_firstWrong_b94 {S : SE} {X : MX} {q : Int32} {a0 : Nat} {M : Mem} (C : CX S X cX8_firstWrong 4 RX8 1) (K : RT S X (some .int) (some (.int q)) M) (ha0 : kd a0 = 10) (h : f_Table_firstWrong_b94 a0 M = some q) : V S X 4 M 94 [] [] := by
  unfold f_Table_firstWrong_b94 at h
  refine v_iconst C (-1) dX8_firstWrong_94 rfl ?_
  refine v_goto C 102 dX8_firstWrong_95 (by decide) ?_
  obtain rfl := Option.some.inj h
  exact v_iret C K dX8_firstWrong_102
def f_Table_firstWrong_b69 (a0 : Nat) (a1 : Int32) (M : Mem) : Option Int32 :=
  some a1
set_option maxRecDepth 20000 in
theorem v_Table_firstWrong_b69 {S : SE} {X : MX} {q : Int32} {a0 : Nat} {a1 : Int32} {M : Mem} (C : CX S X cX8_firstWrong 4 RX8 1) (K : RT S X (some .int) (some (.int q)) M) (ha0 : kd a0 = 10) (h : f_Table_firstWrong_b69 a0 a1 M = some q) : V S X 4 M 69 [(1, .int a1)] [] := by
  unfold f_Table_firstWrong_b69 at h
  refine v_iload_n C 0 dX8_firstWrong_69 rfl ?_
  obtain rfl := Option.some.inj h
  exact v_iret C K dX8_firstWrong_70
def f_Table_firstWrong_b56 (a0 : Nat) (k2 : Int32 → Mem → Option Int32) (a1 : Int32) (s0 : Int32) (M : Mem) : Option Int32 :=
  if s0 = 0 then
    f_Table_firstWrong_b69 a0 a1 M
  else
    if (a1 / 3) < 10 then
      k2 (a1 + 1) M
    else
      f_Table_firstWrong_b69 a0 a1 M
set_option maxRecDepth 20000 in
theorem v_Table_firstWrong_b56 {S : SE} {X : MX} {q : Int32} {a0 : Nat} {k2 : Int32 → Mem → Option Int32} {a1 : Int32} {s0 : Int32} {M : Mem} (C : CX S X cX8_firstWrong 4 RX8 1) (K : RT S X (some .int) (some (.int q)) M) (ha0 : kd a0 = 10) (hk2 : ∀ (a1 : Int32), k2 a1 M = some q → V S X 4 M 2 [(0, .ref (S.2.1 a0)), (1, .int a1)] []) (h : f_Table_firstWrong_b56 a0 k2 a1 s0 M = some q) : V S X 4 M 56 [(0, .ref (S.2.1 a0)), (1, .int a1)] [.int s0] := by
  unfold f_Table_firstWrong_b56 at h
  refine v_istore_n C [(3, .int s0), (0, .ref (S.2.1 a0)), (1, .int a1)] dX8_firstWrong_56 (by decide) rfl ?_
  refine v_iload_n C 0 dX8_firstWrong_57 rfl ?_
  refine v_if_eq C 69 dX8_firstWrong_58 (by decide) (fun c6 => ?_) (fun c6 => ?_)
  · replace h := (ite_h h).1 c6
    refine v_sub [2] rfl ?_
    exact v_Table_firstWrong_b69 C K ha0 h
  · replace h := (ite_h h).2 c6
    refine v_iload_n C 2 dX8_firstWrong_61 rfl ?_
    refine v_iconst C 3 dX8_firstWrong_62 rfl ?_
    refine v_idiv C (by decide) dX8_firstWrong_63 ?_
    refine v_bipush C 10 dX8_firstWrong_64 rfl ?_
    refine v_icmp_lt C 71 dX8_firstWrong_66 (by decide) (fun c5 => ?_) (fun c5 => ?_)
    · replace h := (ite_h h).1 c5
      refine v_iinc C [(1, .int (a1 + 1)), (3, .int s0), (0, .ref (S.2.1 a0))] 2 (a1 + 1) dX8_firstWrong_71 rfl rfl (by decide) rfl ?_
      refine v_goto C 2 dX8_firstWrong_74 (by decide) ?_
      refine v_sub [2, 0] rfl ?_
      exact hk2 _ h
    · replace h := (ite_h h).2 c5
      refine v_sub [2] rfl ?_
      exact v_Table_firstWrong_b69 C K ha0 h
def f_Table_firstWrong_b51 (a0 : Nat) (k2 : Int32 → Mem → Option Int32) (a1 : Int32) (M : Mem) : Option Int32 :=
  f_Table_firstWrong_b56 a0 k2 a1 1 M
set_option maxRecDepth 20000 in
theorem v_Table_firstWrong_b51 {S : SE} {X : MX} {q : Int32} {a0 : Nat} {k2 : Int32 → Mem → Option Int32} {a1 : Int32} {M : Mem} (C : CX S X cX8_firstWrong 4 RX8 1) (K : RT S X (some .int) (some (.int q)) M) (ha0 : kd a0 = 10) (hk2 : ∀ (a1 : Int32), k2 a1 M = some q → V S X 4 M 2 [(0, .ref (S.2.1 a0)), (1, .int a1)] []) (h : f_Table_firstWrong_b51 a0 k2 a1 M = some q) : V S X 4 M 51 [(0, .ref (S.2.1 a0)), (1, .int a1)] [] := by
  unfold f_Table_firstWrong_b51 at h
  refine v_iconst C 1 dX8_firstWrong_51 rfl ?_
  refine v_goto C 56 dX8_firstWrong_52 (by decide) ?_
  exact v_Table_firstWrong_b56 C K ha0 hk2 h
def f_Table_firstWrong_l2B (a0 : Nat) (k2 : Int32 → Mem → Option Int32) (a1 : Int32) (M : Mem) : Option Int32 :=
  if (M a0 1) ≤ a1 then
    if (M a0 1) = 0 then
      f_Table_firstWrong_b94 a0 M
    else
      if ((M a0 1) - (M a0 1) / 3 * 3) = 2 then
        f_Table_firstWrong_b94 a0 M
      else
        some (M a0 1)
  else
    if gin a1 (ln (a0 + 1)) then
      bnd (M (a0 + 1) a1.toNatClampNeg) fun x4 =>
      if (a1 - a1 / 3 * 3) = 2 then
        if x4 = 59 then
          f_Table_firstWrong_b56 a0 k2 a1 1 M
        else
          f_Table_firstWrong_b56 a0 k2 a1 0 M
      else
        if (f_U_isFigure x4) = 0 then
          if x4 = 45 then
            f_Table_firstWrong_b51 a0 k2 a1 M
          else
            f_Table_firstWrong_b56 a0 k2 a1 0 M
        else
          f_Table_firstWrong_b51 a0 k2 a1 M
    else none
set_option maxRecDepth 20000 in
theorem v_Table_firstWrong_l2B {S : SE} {X : MX} {q : Int32} {a0 : Nat} {k2 : Int32 → Mem → Option Int32} {a1 : Int32} {M : Mem} (C : CX S X cX8_firstWrong 4 RX8 1) (K : RT S X (some .int) (some (.int q)) M) (ha0 : kd a0 = 10) (hk2 : ∀ (a1 : Int32), k2 a1 M = some q → V S X 4 M 2 [(0, .ref (S.2.1 a0)), (1, .int a1)] []) (h : f_Table_firstWrong_l2B a0 k2 a1 M = some q) : V S X 4 M 2 [(0, .ref (S.2.1 a0)), (1, .int a1)] [] := by
  unfold f_Table_firstWrong_l2B at h
  refine v_iload_n C 1 dX8_firstWrong_2 rfl ?_
  refine v_aload_n C 0 dX8_firstWrong_3 rfl ?_
  refine g_Text_size C ha0 fl_X8_29 dX8_firstWrong_4 ?_
  refine v_icmp_ge C 77 dX8_firstWrong_7 (by decide) (fun c11 => ?_) (fun c11 => ?_)
  · replace h := (ite_h h).1 c11
    refine v_aload_n C 0 dX8_firstWrong_77 rfl ?_
    refine g_Text_size C ha0 fl_X8_29 dX8_firstWrong_78 ?_
    refine v_if_eq C 94 dX8_firstWrong_81 (by decide) (fun c2 => ?_) (fun c2 => ?_)
    · replace h := (ite_h h).1 c2
      refine v_sub [] rfl ?_
      exact v_Table_firstWrong_b94 C K ha0 h
    · replace h := (ite_h h).2 c2
      refine v_aload_n C 0 dX8_firstWrong_84 rfl ?_
      refine g_Text_size C ha0 fl_X8_29 dX8_firstWrong_85 ?_
      refine v_iconst C 3 dX8_firstWrong_88 rfl ?_
      refine v_irem C (by decide) dX8_firstWrong_89 ?_
      refine v_iconst C 2 dX8_firstWrong_90 rfl ?_
      refine v_icmp_ne C 98 dX8_firstWrong_91 (by decide) (fun c1 => ?_) (fun c1 => ?_)
      · replace h := (ite_h h).2 c1
        refine v_aload_n C 0 dX8_firstWrong_98 rfl ?_
        refine g_Text_size C ha0 fl_X8_29 dX8_firstWrong_99 ?_
        obtain rfl := Option.some.inj h
        exact v_iret C K dX8_firstWrong_102
      · replace h := (ite_h h).1 c1
        refine v_sub [] rfl ?_
        exact v_Table_firstWrong_b94 C K ha0 h
  · replace h := (ite_h h).2 c11
    refine v_aload_n C 0 dX8_firstWrong_10 rfl ?_
    refine g_Text_bytes C ha0 fl_X8_32 dX8_firstWrong_11 ?_
    refine v_iload_n C 1 dX8_firstWrong_14 rfl ?_
    obtain ⟨g3, h⟩ := gd_h h
    refine v_iald C (kd_Text_bytes ha0) rfl g3 dX8_firstWrong_15 ?_
    refine v_nmi h (fun x4 h => ?_)
    refine v_istore_n C [(2, .int x4), (0, .ref (S.2.1 a0)), (1, .int a1)] dX8_firstWrong_16 (by decide) rfl ?_
    refine v_iload_n C 2 dX8_firstWrong_17 rfl ?_
    refine v_iconst C 3 dX8_firstWrong_18 rfl ?_
    refine v_irem C (by decide) dX8_firstWrong_19 ?_
    refine v_iconst C 2 dX8_firstWrong_20 rfl ?_
    refine v_icmp_ne C 38 dX8_firstWrong_21 (by decide) (fun c10 => ?_) (fun c10 => ?_)
    · replace h := (ite_h h).2 c10
      refine v_iload_n C 0 dX8_firstWrong_38 rfl ?_
      refine csN C [] (m_U_isFigure C.inj M x4 _ rfl) ci_U_isFigure lk_X8_39 (by decide) rfl rfl (Nat.le_of_ble_eq_true rfl) dX8_firstWrong_39 ?_
      refine v_if_ne C 51 dX8_firstWrong_42 (by decide) (fun c8 => ?_) (fun c8 => ?_)
      · replace h := (ite_h h).2 c8
        refine v_sub [1, 2] rfl ?_
        exact v_Table_firstWrong_b51 C K ha0 hk2 h
      · replace h := (ite_h h).1 c8
        refine v_iload_n C 0 dX8_firstWrong_45 rfl ?_
        refine v_bipush C 45 dX8_firstWrong_46 rfl ?_
        refine v_icmp_ne C 55 dX8_firstWrong_48 (by decide) (fun c7 => ?_) (fun c7 => ?_)
        · replace h := (ite_h h).2 c7
          refine v_iconst C 0 dX8_firstWrong_55 rfl ?_
          refine v_sub [1, 2] rfl ?_
          exact v_Table_firstWrong_b56 C K ha0 hk2 h
        · replace h := (ite_h h).1 c7
          refine v_sub [1, 2] rfl ?_
          exact v_Table_firstWrong_b51 C K ha0 hk2 h
    · replace h := (ite_h h).1 c10
      refine v_iload_n C 0 dX8_firstWrong_24 rfl ?_
      refine v_bipush C 59 dX8_firstWrong_25 rfl ?_
      refine v_icmp_ne C 34 dX8_firstWrong_27 (by decide) (fun c9 => ?_) (fun c9 => ?_)
      · replace h := (ite_h h).2 c9
        refine v_iconst C 0 dX8_firstWrong_34 rfl ?_
        refine v_goto C 56 dX8_firstWrong_35 (by decide) ?_
        refine v_sub [1, 2] rfl ?_
        exact v_Table_firstWrong_b56 C K ha0 hk2 h
      · replace h := (ite_h h).1 c9
        refine v_iconst C 1 dX8_firstWrong_30 rfl ?_
        refine v_goto C 56 dX8_firstWrong_31 (by decide) ?_
        refine v_sub [1, 2] rfl ?_
        exact v_Table_firstWrong_b56 C K ha0 hk2 h
def f_Table_firstWrong_l2 (a0 : Nat) : Nat → Int32 → Mem → Option Int32
  | 0, _, _ => none
  | n + 1, a1, M => f_Table_firstWrong_l2B a0 (f_Table_firstWrong_l2 a0 n) a1 M
theorem v_Table_firstWrong_l2 {S : SE} {X : MX} {q : Int32} {a0 : Nat} {M : Mem} (C : CX S X cX8_firstWrong 4 RX8 1) (K : RT S X (some .int) (some (.int q)) M) (ha0 : kd a0 = 10) : ∀ (n : Nat) (a1 : Int32), f_Table_firstWrong_l2 a0 n a1 M = some q → V S X 4 M 2 [(0, .ref (S.2.1 a0)), (1, .int a1)] [] := by
  intro n
  induction n with
  | zero => intro a1 h; cases h
  | succ n ih => intro a1 h; exact v_Table_firstWrong_l2B C K ha0 ih h
def f_Table_firstWrong (a0 : Nat) (M : Mem) : Option Int32 :=
  f_Table_firstWrong_l2 a0 FU 0 M
set_option maxRecDepth 20000 in
theorem v_Table_firstWrong {S : SE} {X : MX} {q : Int32} {a0 : Nat} {M : Mem} (C : CX S X cX8_firstWrong 4 RX8 1) (K : RT S X (some .int) (some (.int q)) M) (ha0 : kd a0 = 10) (h : f_Table_firstWrong a0 M = some q) : V S X 4 M 0 [(0, .ref (S.2.1 a0))] [] := by
  unfold f_Table_firstWrong at h
  refine v_iconst C 0 dX8_firstWrong_0 rfl ?_
  refine v_istore_n C [(1, .int 0), (0, .ref (S.2.1 a0))] dX8_firstWrong_1 (by decide) rfl ?_
  refine v_sub [1, 0] rfl ?_
  exact v_Table_firstWrong_l2 C K ha0 FU _ h
theorem m_Table_firstWrong {S : SE} (hI : Inj S) (a0 : Nat) (ha0 : kd a0 = 10) (M : Mem) (q : Int32) (h : f_Table_firstWrong a0 M = some q) : CM S yX8_firstWrong cX8_firstWrong 4 (some .int) 1 [.ref (S.2.1 a0)] M (some (.int q)) M :=
  CM.of [(0, .ref (S.2.1 a0))] hI (by decide) rfl (Nat.le_of_ble_eq_true rfl) (fun X C K => v_Table_firstWrong C K ha0 h)
def f_Table_valueOf (a0 : Int32) : Int32 :=
  if a0 = 45 then
    (-1)
  else
    (a0 - 48)
set_option maxRecDepth 20000 in
theorem v_Table_valueOf {S : SE} {X : MX} {q : Int32} {M : Mem} {a0 : Int32} (C : CX S X cX8_valueOf 1 RX8 0) (K : RT S X (some .int) (some (.int q)) M) (h : f_Table_valueOf a0 = q) : V S X 1 M 0 [(0, .int a0)] [] := by
  unfold f_Table_valueOf at h
  refine v_iload_n C 0 dX8_valueOf_0 rfl ?_
  refine v_bipush C 45 dX8_valueOf_1 rfl ?_
  refine v_icmp_ne C 10 dX8_valueOf_3 (by decide) (fun c1 => ?_) (fun c1 => ?_)
  · replace h := (ite_h h).2 c1
    refine v_iload_n C 0 dX8_valueOf_10 rfl ?_
    refine v_bipush C 48 dX8_valueOf_11 rfl ?_
    refine v_isub C dX8_valueOf_13 ?_
    subst h
    exact v_iret C K dX8_valueOf_14
  · replace h := (ite_h h).1 c1
    refine v_iconst C (-1) dX8_valueOf_6 rfl ?_
    refine v_goto C 14 dX8_valueOf_7 (by decide) ?_
    subst h
    exact v_iret C K dX8_valueOf_14
theorem m_Table_valueOf {S : SE} (hI : Inj S) (M : Mem) (a0 : Int32) (q : Int32) (h : f_Table_valueOf a0 = q) : CM S yX8_valueOf cX8_valueOf 1 (some .int) 0 [.int a0] M (some (.int q)) M :=
  CM.of [(0, .int a0)] hI (by decide) rfl (Nat.le_of_ble_eq_true rfl) (fun X C K => v_Table_valueOf C K  h)
def f_Table_parse_l34B (o : Nat) (a1 : Nat) (k34 : Int32 → Mem → Option Mem) (a2 : Int32) (M : Mem) : Option Mem :=
  if (M o 2) ≤ a2 then
    some M
  else
    if gin (3 * a2) (ln (a1 + 1)) then
      if gin a2 10 then
        bnd (mset M (o + 1) a2.toNatClampNeg (f_Table_valueOf (M (a1 + 1) (3 * a2).toNatClampNeg))) fun M6 =>
        if gin ((3 * a2) + 1) (ln (a1 + 1)) then
          if gin a2 10 then
            bnd (mset M6 (o + 2) a2.toNatClampNeg (f_Table_valueOf (M6 (a1 + 1) ((3 * a2) + 1).toNatClampNeg))) fun M9 =>
            k34 (a2 + 1) M9
          else none
        else none
      else none
    else none
set_option maxRecDepth 20000 in
theorem v_Table_parse_l34B {S : SE} {X : MX} {q : Mem} {o : Nat} {a1 : Nat} {k34 : Int32 → Mem → Option Mem} {a2 : Int32} {M : Mem} (C : CX S X cX8_parse 3 RX8 2) (K : RT S X none none q) (ho : kd o = 8) (ha1 : kd a1 = 10) (hk34 : ∀ (a2 : Int32) (M : Mem), k34 a2 M = some q → V S X 3 M 34 [(0, .ref (S.2.1 o)), (1, .ref (S.2.1 a1)), (2, .int a2)] []) (h : f_Table_parse_l34B o a1 k34 a2 M = some q) : V S X 3 M 34 [(0, .ref (S.2.1 o)), (1, .ref (S.2.1 a1)), (2, .int a2)] [] := by
  unfold f_Table_parse_l34B at h
  refine v_iload_n C 2 dX8_parse_34 rfl ?_
  refine v_aload_n C 0 dX8_parse_35 rfl ?_
  refine g_Table_size C ho fl_X8_18 dX8_parse_36 ?_
  refine v_icmp_ge C 84 dX8_parse_39 (by decide) (fun c10 => ?_) (fun c10 => ?_)
  · replace h := (ite_h h).1 c10
    obtain rfl := Option.some.inj h
    exact v_vret C K dX8_parse_84
  · replace h := (ite_h h).2 c10
    refine v_aload_n C 0 dX8_parse_42 rfl ?_
    refine g_Table_keys C ho fl_X8_9 dX8_parse_43 ?_
    refine v_iload_n C 2 dX8_parse_46 rfl ?_
    refine v_aload_n C 1 dX8_parse_47 rfl ?_
    refine g_Text_bytes C ha1 fl_X8_32 dX8_parse_48 ?_
    refine v_iconst C 3 dX8_parse_51 rfl ?_
    refine v_iload_n C 2 dX8_parse_52 rfl ?_
    refine v_imul C dX8_parse_53 ?_
    obtain ⟨g4, h⟩ := gd_h h
    refine v_iald C (kd_Text_bytes ha1) rfl g4 dX8_parse_54 ?_
    refine cs C [.int a2, .ref (S.2.1 (o + 1))] (m_Table_valueOf C.inj M (M (a1 + 1) (3 * a2).toNatClampNeg) _ rfl) ci_Table_valueOf lk_X8_35 (by decide) rfl rfl (Nat.le_of_ble_eq_true rfl) dX8_parse_55 ?_
    obtain ⟨g5, h⟩ := gd_h h
    refine v_iast C (kd_Table_keys ho) (ln_Table_keys ho) g5 dX8_parse_58 ?_
    refine v_nmm h (fun M6 h => ?_)
    refine v_aload_n C 0 dX8_parse_59 rfl ?_
    refine g_Table_values C ho fl_X8_15 dX8_parse_60 ?_
    refine v_iload_n C 2 dX8_parse_63 rfl ?_
    refine v_aload_n C 1 dX8_parse_64 rfl ?_
    refine g_Text_bytes C ha1 fl_X8_32 dX8_parse_65 ?_
    refine v_iconst C 3 dX8_parse_68 rfl ?_
    refine v_iload_n C 2 dX8_parse_69 rfl ?_
    refine v_imul C dX8_parse_70 ?_
    refine v_iconst C 1 dX8_parse_71 rfl ?_
    refine v_iadd C dX8_parse_72 ?_
    obtain ⟨g7, h⟩ := gd_h h
    refine v_iald C (kd_Text_bytes ha1) rfl g7 dX8_parse_73 ?_
    refine cs C [.int a2, .ref (S.2.1 (o + 2))] (m_Table_valueOf C.inj M6 (M6 (a1 + 1) ((3 * a2) + 1).toNatClampNeg) _ rfl) ci_Table_valueOf lk_X8_35 (by decide) rfl rfl (Nat.le_of_ble_eq_true rfl) dX8_parse_74 ?_
    obtain ⟨g8, h⟩ := gd_h h
    refine v_iast C (kd_Table_values ho) (ln_Table_values ho) g8 dX8_parse_77 ?_
    refine v_nmm h (fun M9 h => ?_)
    refine v_iinc C [(2, .int (a2 + 1)), (0, .ref (S.2.1 o)), (1, .ref (S.2.1 a1))] 2 (a2 + 1) dX8_parse_78 rfl rfl (by decide) rfl ?_
    refine v_goto C 34 dX8_parse_81 (by decide) ?_
    refine v_sub [1, 2, 0] rfl ?_
    exact hk34 _ _ h
def f_Table_parse_l34 (o : Nat) (a1 : Nat) : Nat → Int32 → Mem → Option Mem
  | 0, _, _ => none
  | n + 1, a2, M => f_Table_parse_l34B o a1 (f_Table_parse_l34 o a1 n) a2 M
theorem v_Table_parse_l34 {S : SE} {X : MX} {q : Mem} {o : Nat} {a1 : Nat} (C : CX S X cX8_parse 3 RX8 2) (K : RT S X none none q) (ho : kd o = 8) (ha1 : kd a1 = 10) : ∀ (n : Nat) (a2 : Int32) (M : Mem), f_Table_parse_l34 o a1 n a2 M = some q → V S X 3 M 34 [(0, .ref (S.2.1 o)), (1, .ref (S.2.1 a1)), (2, .int a2)] [] := by
  intro n
  induction n with
  | zero => intro a2 M h; cases h
  | succ n ih => intro a2 M h; exact v_Table_parse_l34B C K ho ha1 ih h
def f_Table_parse_b29 (o : Nat) (a1 : Nat) (s0 : Int32) (M : Mem) : Option Mem :=
  bnd (mset M o 2 s0) fun M3 =>
  f_Table_parse_l34 o a1 FU 0 M3
set_option maxRecDepth 20000 in
theorem v_Table_parse_b29 {S : SE} {X : MX} {q : Mem} {o : Nat} {a1 : Nat} {s0 : Int32} {M : Mem} (C : CX S X cX8_parse 3 RX8 2) (K : RT S X none none q) (ho : kd o = 8) (ha1 : kd a1 = 10) (h : f_Table_parse_b29 o a1 s0 M = some q) : V S X 3 M 29 [(0, .ref (S.2.1 o)), (1, .ref (S.2.1 a1))] [.int s0, .ref (S.2.1 o)] := by
  unfold f_Table_parse_b29 at h
  refine p_Table_size C ho fl_X8_18 dX8_parse_29 ?_
  refine v_nmm h (fun M3 h => ?_)
  refine v_iconst C 0 dX8_parse_32 rfl ?_
  refine v_istore_n C [(2, .int 0), (0, .ref (S.2.1 o)), (1, .ref (S.2.1 a1))] dX8_parse_33 (by decide) rfl ?_
  refine v_sub [1, 2, 0] rfl ?_
  exact v_Table_parse_l34 C K ho ha1 FU _ _ h
def f_Table_parse (o : Nat) (a1 : Nat) (M : Mem) : Option Mem :=
  (f_Table_firstWrong a1 M).bind fun q1 =>
  bnd (mset M o 3 q1) fun M2 =>
  if (M2 o 3) = (-1) then
    f_Table_parse_b29 o a1 (((M2 a1 1) + 1) / 3) M2
  else
    f_Table_parse_b29 o a1 0 M2
set_option maxRecDepth 20000 in
theorem v_Table_parse {S : SE} {X : MX} {q : Mem} {o : Nat} {a1 : Nat} {M : Mem} (C : CX S X cX8_parse 3 RX8 2) (K : RT S X none none q) (ho : kd o = 8) (ha1 : kd a1 = 10) (h : f_Table_parse o a1 M = some q) : V S X 3 M 0 [(0, .ref (S.2.1 o)), (1, .ref (S.2.1 a1))] [] := by
  unfold f_Table_parse at h
  refine v_aload_n C 0 dX8_parse_0 rfl ?_
  refine v_aload_n C 1 dX8_parse_1 rfl ?_
  obtain ⟨q1, hq1, h⟩ := Option.bind_eq_some_iff.mp h
  refine cs C [.ref (S.2.1 o)] (m_Table_firstWrong C.inj a1 ha1 M q1 hq1) ci_Table_firstWrong lk_X8_25 (by decide) rfl rfl (Nat.le_of_ble_eq_true rfl) dX8_parse_2 ?_
  refine p_Table_fault C ho fl_X8_22 dX8_parse_5 ?_
  refine v_nmm h (fun M2 h => ?_)
  refine v_aload_n C 0 dX8_parse_8 rfl ?_
  refine v_aload_n C 0 dX8_parse_9 rfl ?_
  refine g_Table_fault C ho fl_X8_22 dX8_parse_10 ?_
  refine v_iconst C (-1) dX8_parse_13 rfl ?_
  refine v_icmp_ne C 28 dX8_parse_14 (by decide) (fun c11 => ?_) (fun c11 => ?_)
  · replace h := (ite_h h).2 c11
    refine v_iconst C 0 dX8_parse_28 rfl ?_
    exact v_Table_parse_b29 C K ho ha1 h
  · replace h := (ite_h h).1 c11
    refine v_aload_n C 1 dX8_parse_17 rfl ?_
    refine g_Text_size C ha1 fl_X8_29 dX8_parse_18 ?_
    refine v_iconst C 1 dX8_parse_21 rfl ?_
    refine v_iadd C dX8_parse_22 ?_
    refine v_iconst C 3 dX8_parse_23 rfl ?_
    refine v_idiv C (by decide) dX8_parse_24 ?_
    refine v_goto C 29 dX8_parse_25 (by decide) ?_
    exact v_Table_parse_b29 C K ho ha1 h
theorem m_Table_parse {S : SE} (hI : Inj S) (o : Nat) (a1 : Nat) (ho : kd o = 8) (ha1 : kd a1 = 10) (M : Mem) (q : Mem) (h : f_Table_parse o a1 M = some q) : CM S yX8_parse cX8_parse 3 none 2 [.ref (S.2.1 o), .ref (S.2.1 a1)] M none q :=
  CM.of [(0, .ref (S.2.1 o)), (1, .ref (S.2.1 a1))] hI (by decide) rfl (Nat.le_of_ble_eq_true rfl) (fun X C K => v_Table_parse C K ho ha1 h)
def f_Text_append (o : Nat) (M : Mem) (a1 : Int32) : Option (Int32 × Mem) :=
  if (M o 1) < (Int32.ofNat (ln (o + 1))) then
    if gin (M o 1) (ln (o + 1)) then
      bnd (mset M (o + 1) (M o 1).toNatClampNeg a1) fun M2 =>
      bnd (mset M2 o 1 ((M2 o 1) + 1)) fun M3 =>
      some (1, M3)
    else none
  else
    some (0, M)
set_option maxRecDepth 20000 in
theorem v_Text_append {S : SE} {X : MX} {q : (Int32 × Mem)} {o : Nat} {M : Mem} {a1 : Int32} (C : CX S X cX10_append 2 RX10 0) (K : RT S X (some .boolean) (some (.int q.1)) q.2) (ho : kd o = 10) (h : f_Text_append o M a1 = some q) : V S X 2 M 0 [(0, .ref (S.2.1 o)), (1, .int a1)] [] := by
  unfold f_Text_append at h
  refine v_aload_n C 0 dX10_append_0 rfl ?_
  refine g_Text_size C ho fl_X10_7 dX10_append_1 ?_
  refine v_aload_n C 0 dX10_append_4 rfl ?_
  refine g_Text_bytes C ho fl_X10_13 dX10_append_5 ?_
  refine v_alen C (kd_Text_bytes ho) rfl dX10_append_8 ?_
  refine v_icmp_lt C 14 dX10_append_9 (by decide) (fun c4 => ?_) (fun c4 => ?_)
  · replace h := (ite_h h).1 c4
    refine v_aload_n C 0 dX10_append_14 rfl ?_
    refine g_Text_bytes C ho fl_X10_13 dX10_append_15 ?_
    refine v_aload_n C 0 dX10_append_18 rfl ?_
    refine g_Text_size C ho fl_X10_7 dX10_append_19 ?_
    refine v_iload_n C 1 dX10_append_22 rfl ?_
    obtain ⟨g1, h⟩ := gd_h h
    refine v_iast C (kd_Text_bytes ho) rfl g1 dX10_append_23 ?_
    refine v_nmm h (fun M2 h => ?_)
    refine v_aload_n C 0 dX10_append_24 rfl ?_
    refine v_dup C dX10_append_25 rfl ?_
    refine g_Text_size C ho fl_X10_7 dX10_append_26 ?_
    refine v_iconst C 1 dX10_append_29 rfl ?_
    refine v_iadd C dX10_append_30 ?_
    refine p_Text_size C ho fl_X10_7 dX10_append_31 ?_
    refine v_nmm h (fun M3 h => ?_)
    refine v_iconst C 1 dX10_append_34 rfl ?_
    obtain rfl := Option.some.inj h
    exact v_zret C (Or.inr rfl) K dX10_append_35
  · replace h := (ite_h h).2 c4
    refine v_iconst C 0 dX10_append_12 rfl ?_
    obtain rfl := Option.some.inj h
    exact v_zret C (Or.inl rfl) K dX10_append_13
theorem m_Text_append {S : SE} (hI : Inj S) (o : Nat) (ho : kd o = 10) (M : Mem) (a1 : Int32) (q : (Int32 × Mem)) (h : f_Text_append o M a1 = some q) : CM S yX10_append cX10_append 2 (some .boolean) 0 [.ref (S.2.1 o), .int a1] M (some (.int q.1)) q.2 :=
  CM.of [(0, .ref (S.2.1 o)), (1, .int a1)] hI (by decide) rfl (Nat.le_of_ble_eq_true rfl) (fun X C K => v_Text_append C K ho h)
def f_U_isByte_b15 : Int32 :=
  0
set_option maxRecDepth 20000 in
theorem v_U_isByte_b15 {S : SE} {X : MX} {q : Int32} {M : Mem} (C : CX S X cX11_isByte 1 RX11 0) (K : RT S X (some .boolean) (some (.int q)) M) (h : f_U_isByte_b15 = q) : V S X 1 M 15 [] [] := by
  unfold f_U_isByte_b15 at h
  refine v_iconst C 0 dX11_isByte_15 rfl ?_
  subst h
  exact v_zret C (Or.inl rfl) K dX11_isByte_16
def f_U_isByte (a0 : Int32) : Int32 :=
  if a0 < 0 then
    f_U_isByte_b15
  else
    if 255 < a0 then
      f_U_isByte_b15
    else
      1
set_option maxRecDepth 20000 in
theorem v_U_isByte {S : SE} {X : MX} {q : Int32} {M : Mem} {a0 : Int32} (C : CX S X cX11_isByte 1 RX11 0) (K : RT S X (some .boolean) (some (.int q)) M) (h : f_U_isByte a0 = q) : V S X 1 M 0 [(0, .int a0)] [] := by
  unfold f_U_isByte at h
  refine v_iload_n C 0 dX11_isByte_0 rfl ?_
  refine v_if_lt C 15 dX11_isByte_1 (by decide) (fun c2 => ?_) (fun c2 => ?_)
  · replace h := (ite_h h).1 c2
    refine v_sub [] rfl ?_
    exact v_U_isByte_b15 C K h
  · replace h := (ite_h h).2 c2
    refine v_iload_n C 0 dX11_isByte_4 rfl ?_
    refine v_sipush C 255 dX11_isByte_5 rfl ?_
    refine v_icmp_gt C 15 dX11_isByte_8 (by decide) (fun c1 => ?_) (fun c1 => ?_)
    · replace h := (ite_h h).1 c1
      refine v_sub [] rfl ?_
      exact v_U_isByte_b15 C K h
    · replace h := (ite_h h).2 c1
      refine v_iconst C 1 dX11_isByte_11 rfl ?_
      refine v_goto C 16 dX11_isByte_12 (by decide) ?_
      subst h
      exact v_zret C (Or.inr rfl) K dX11_isByte_16
theorem m_U_isByte {S : SE} (hI : Inj S) (M : Mem) (a0 : Int32) (q : Int32) (h : f_U_isByte a0 = q) : CM S yX11_isByte cX11_isByte 1 (some .boolean) 0 [.int a0] M (some (.int q)) M :=
  CM.of [(0, .int a0)] hI (by decide) rfl (Nat.le_of_ble_eq_true rfl) (fun X C K => v_U_isByte C K  h)
theorem bz_U_isByte (a0 : Int32) : f_U_isByte a0 = 0 ∨ f_U_isByte a0 = 1 := by unfold f_U_isByte f_U_isByte_b15; (repeat' split) <;> first | exact Or.inl rfl | exact Or.inr rfl
def f_Text_appendFrom_b35 (o : Nat) (a1 : Nat) (a2 : Int32) (M : Mem) : Option (Int32 × Mem) :=
  some (a2, M)
set_option maxRecDepth 20000 in
theorem v_Text_appendFrom_b35 {S : SE} {X : MX} {q : (Int32 × Mem)} {o : Nat} {a1 : Nat} {a2 : Int32} {M : Mem} (C : CX S X cX10_appendFrom 3 RX10 1) (K : RT S X (some .int) (some (.int q.1)) q.2) (ho : kd o = 10) (ha1 : kd a1 = 6) (h : f_Text_appendFrom_b35 o a1 a2 M = some q) : V S X 3 M 35 [(2, .int a2)] [] := by
  unfold f_Text_appendFrom_b35 at h
  refine v_iload_n C 0 dX10_appendFrom_35 rfl ?_
  obtain rfl := Option.some.inj h
  exact v_iret C K dX10_appendFrom_36
def f_Text_appendFrom_l2B (o : Nat) (a1 : Nat) (k2 : Int32 → Mem → Option (Int32 × Mem)) (a2 : Int32) (M : Mem) : Option (Int32 × Mem) :=
  if (M a1 2) ≤ a2 then
    some ((M a1 2), M)
  else
    if gin a2 60 then
      if (f_U_isByte (M (a1 + 1) a2.toNatClampNeg)) = 0 then
        f_Text_appendFrom_b35 o a1 a2 M
      else
        if gin a2 60 then
          (f_Text_append o M (M (a1 + 1) a2.toNatClampNeg)).bind fun q3 =>
          if q3.1 = 0 then
            f_Text_appendFrom_b35 o a1 a2 q3.2
          else
            k2 (a2 + 1) q3.2
        else none
    else none
set_option maxRecDepth 20000 in
theorem v_Text_appendFrom_l2B {S : SE} {X : MX} {q : (Int32 × Mem)} {o : Nat} {a1 : Nat} {k2 : Int32 → Mem → Option (Int32 × Mem)} {a2 : Int32} {M : Mem} (C : CX S X cX10_appendFrom 3 RX10 1) (K : RT S X (some .int) (some (.int q.1)) q.2) (ho : kd o = 10) (ha1 : kd a1 = 6) (hk2 : ∀ (a2 : Int32) (M : Mem), k2 a2 M = some q → V S X 3 M 2 [(0, .ref (S.2.1 o)), (1, .ref (S.2.1 a1)), (2, .int a2)] []) (h : f_Text_appendFrom_l2B o a1 k2 a2 M = some q) : V S X 3 M 2 [(0, .ref (S.2.1 o)), (1, .ref (S.2.1 a1)), (2, .int a2)] [] := by
  unfold f_Text_appendFrom_l2B at h
  refine v_iload_n C 2 dX10_appendFrom_2 rfl ?_
  refine v_aload_n C 1 dX10_appendFrom_3 rfl ?_
  refine g_Sheet_size C ha1 fl_X10_17 dX10_appendFrom_4 ?_
  refine v_icmp_ge C 43 dX10_appendFrom_7 (by decide) (fun c6 => ?_) (fun c6 => ?_)
  · replace h := (ite_h h).1 c6
    refine v_aload_n C 1 dX10_appendFrom_43 rfl ?_
    refine g_Sheet_size C ha1 fl_X10_17 dX10_appendFrom_44 ?_
    obtain rfl := Option.some.inj h
    exact v_iret C K dX10_appendFrom_47
  · replace h := (ite_h h).2 c6
    refine v_aload_n C 1 dX10_appendFrom_10 rfl ?_
    refine g_Sheet_items C ha1 fl_X10_20 dX10_appendFrom_11 ?_
    refine v_iload_n C 2 dX10_appendFrom_14 rfl ?_
    obtain ⟨g1, h⟩ := gd_h h
    refine v_iald C (kd_Sheet_items ha1) (ln_Sheet_items ha1) g1 dX10_appendFrom_15 ?_
    refine csN C [] (m_U_isByte C.inj M (M (a1 + 1) a2.toNatClampNeg) _ rfl) ci_U_isByte lk_X10_23 (by decide) rfl rfl (Nat.le_of_ble_eq_true rfl) dX10_appendFrom_16 ?_
    refine v_if_eq C 35 dX10_appendFrom_19 (by decide) (fun c5 => ?_) (fun c5 => ?_)
    · replace h := (ite_h h).1 c5
      refine v_sub [2] rfl ?_
      exact v_Text_appendFrom_b35 C K ho ha1 h
    · replace h := (ite_h h).2 c5
      refine v_aload_n C 0 dX10_appendFrom_22 rfl ?_
      refine v_aload_n C 1 dX10_appendFrom_23 rfl ?_
      refine g_Sheet_items C ha1 fl_X10_20 dX10_appendFrom_24 ?_
      refine v_iload_n C 2 dX10_appendFrom_27 rfl ?_
      obtain ⟨g2, h⟩ := gd_h h
      refine v_iald C (kd_Sheet_items ha1) (ln_Sheet_items ha1) g2 dX10_appendFrom_28 ?_
      obtain ⟨q3, hq3, h⟩ := Option.bind_eq_some_iff.mp h
      refine cv10 C [] ho (m_Text_append C.inj o ho M (M (a1 + 1) a2.toNatClampNeg) q3 hq3) ci_Text_append rfl lk_X10_29 (by decide) rfl rfl (Nat.le_of_ble_eq_true rfl) dX10_appendFrom_29 ?_
      refine v_if_ne C 37 dX10_appendFrom_32 (by decide) (fun c4 => ?_) (fun c4 => ?_)
      · replace h := (ite_h h).2 c4
        refine v_iinc C [(2, .int (a2 + 1)), (0, .ref (S.2.1 o)), (1, .ref (S.2.1 a1))] 2 (a2 + 1) dX10_appendFrom_37 rfl rfl (by decide) rfl ?_
        refine v_goto C 2 dX10_appendFrom_40 (by decide) ?_
        refine v_sub [1, 2, 0] rfl ?_
        exact hk2 _ _ h
      · replace h := (ite_h h).1 c4
        refine v_sub [2] rfl ?_
        exact v_Text_appendFrom_b35 C K ho ha1 h
def f_Text_appendFrom_l2 (o : Nat) (a1 : Nat) : Nat → Int32 → Mem → Option (Int32 × Mem)
  | 0, _, _ => none
  | n + 1, a2, M => f_Text_appendFrom_l2B o a1 (f_Text_appendFrom_l2 o a1 n) a2 M
theorem v_Text_appendFrom_l2 {S : SE} {X : MX} {q : (Int32 × Mem)} {o : Nat} {a1 : Nat} (C : CX S X cX10_appendFrom 3 RX10 1) (K : RT S X (some .int) (some (.int q.1)) q.2) (ho : kd o = 10) (ha1 : kd a1 = 6) : ∀ (n : Nat) (a2 : Int32) (M : Mem), f_Text_appendFrom_l2 o a1 n a2 M = some q → V S X 3 M 2 [(0, .ref (S.2.1 o)), (1, .ref (S.2.1 a1)), (2, .int a2)] [] := by
  intro n
  induction n with
  | zero => intro a2 M h; cases h
  | succ n ih => intro a2 M h; exact v_Text_appendFrom_l2B C K ho ha1 ih h
def f_Text_appendFrom (o : Nat) (a1 : Nat) (M : Mem) : Option (Int32 × Mem) :=
  f_Text_appendFrom_l2 o a1 FU 0 M
set_option maxRecDepth 20000 in
theorem v_Text_appendFrom {S : SE} {X : MX} {q : (Int32 × Mem)} {o : Nat} {a1 : Nat} {M : Mem} (C : CX S X cX10_appendFrom 3 RX10 1) (K : RT S X (some .int) (some (.int q.1)) q.2) (ho : kd o = 10) (ha1 : kd a1 = 6) (h : f_Text_appendFrom o a1 M = some q) : V S X 3 M 0 [(0, .ref (S.2.1 o)), (1, .ref (S.2.1 a1))] [] := by
  unfold f_Text_appendFrom at h
  refine v_iconst C 0 dX10_appendFrom_0 rfl ?_
  refine v_istore_n C [(2, .int 0), (0, .ref (S.2.1 o)), (1, .ref (S.2.1 a1))] dX10_appendFrom_1 (by decide) rfl ?_
  refine v_sub [1, 2, 0] rfl ?_
  exact v_Text_appendFrom_l2 C K ho ha1 FU _ _ h
theorem m_Text_appendFrom {S : SE} (hI : Inj S) (o : Nat) (a1 : Nat) (ho : kd o = 10) (ha1 : kd a1 = 6) (M : Mem) (q : (Int32 × Mem)) (h : f_Text_appendFrom o a1 M = some q) : CM S yX10_appendFrom cX10_appendFrom 3 (some .int) 1 [.ref (S.2.1 o), .ref (S.2.1 a1)] M (some (.int q.1)) q.2 :=
  CM.of [(0, .ref (S.2.1 o)), (1, .ref (S.2.1 a1))] hI (by decide) rfl (Nat.le_of_ble_eq_true rfl) (fun X C K => v_Text_appendFrom C K ho ha1 h)
def f_U_isPlan_b9 : Int32 :=
  1
set_option maxRecDepth 20000 in
theorem v_U_isPlan_b9 {S : SE} {X : MX} {q : Int32} {M : Mem} (C : CX S X cX11_isPlan 1 RX11 0) (K : RT S X (some .boolean) (some (.int q)) M) (h : f_U_isPlan_b9 = q) : V S X 1 M 9 [] [] := by
  unfold f_U_isPlan_b9 at h
  refine v_iconst C 1 dX11_isPlan_9 rfl ?_
  refine v_goto C 14 dX11_isPlan_10 (by decide) ?_
  subst h
  exact v_zret C (Or.inr rfl) K dX11_isPlan_14
def f_U_isPlan (a0 : Int32) : Int32 :=
  if a0 = 0 then
    f_U_isPlan_b9
  else
    if a0 = 1 then
      f_U_isPlan_b9
    else
      0
set_option maxRecDepth 20000 in
theorem v_U_isPlan {S : SE} {X : MX} {q : Int32} {M : Mem} {a0 : Int32} (C : CX S X cX11_isPlan 1 RX11 0) (K : RT S X (some .boolean) (some (.int q)) M) (h : f_U_isPlan a0 = q) : V S X 1 M 0 [(0, .int a0)] [] := by
  unfold f_U_isPlan at h
  refine v_iload_n C 0 dX11_isPlan_0 rfl ?_
  refine v_if_eq C 9 dX11_isPlan_1 (by decide) (fun c2 => ?_) (fun c2 => ?_)
  · replace h := (ite_h h).1 c2
    refine v_sub [] rfl ?_
    exact v_U_isPlan_b9 C K h
  · replace h := (ite_h h).2 c2
    refine v_iload_n C 0 dX11_isPlan_4 rfl ?_
    refine v_iconst C 1 dX11_isPlan_5 rfl ?_
    refine v_icmp_ne C 13 dX11_isPlan_6 (by decide) (fun c1 => ?_) (fun c1 => ?_)
    · replace h := (ite_h h).2 c1
      refine v_iconst C 0 dX11_isPlan_13 rfl ?_
      subst h
      exact v_zret C (Or.inl rfl) K dX11_isPlan_14
    · replace h := (ite_h h).1 c1
      refine v_sub [] rfl ?_
      exact v_U_isPlan_b9 C K h
theorem m_U_isPlan {S : SE} (hI : Inj S) (M : Mem) (a0 : Int32) (q : Int32) (h : f_U_isPlan a0 = q) : CM S yX11_isPlan cX11_isPlan 1 (some .boolean) 0 [.int a0] M (some (.int q)) M :=
  CM.of [(0, .int a0)] hI (by decide) rfl (Nat.le_of_ble_eq_true rfl) (fun X C K => v_U_isPlan C K  h)
theorem bz_U_isPlan (a0 : Int32) : f_U_isPlan a0 = 0 ∨ f_U_isPlan a0 = 1 := by unfold f_U_isPlan f_U_isPlan_b9; (repeat' split) <;> first | exact Or.inl rfl | exact Or.inr rfl
def f_U_mix (a0 : Int64) (a2 : Int32) : Int64 :=
  ((31 * a0) + (Int32.toInt64 a2))
set_option maxRecDepth 20000 in
theorem v_U_mix {S : SE} {X : MX} {q : Int64} {M : Mem} {a0 : Int64} {a2 : Int32} (C : CX S X cX11_mix 3 RX11 0) (K : RT S X (some .long) (some (.long q)) M) (h : f_U_mix a0 a2 = q) : V S X 3 M 0 [(0, .long a0), (2, .int a2)] [] := by
  unfold f_U_mix at h
  refine v_ldc2 C kc_X11_276 dX11_mix_0 ?_
  refine v_lload_n C 0 dX11_mix_3 rfl ?_
  refine v_lmul C dX11_mix_4 ?_
  refine v_iload_n C 1 dX11_mix_5 rfl ?_
  refine v_i2l C dX11_mix_6 ?_
  refine v_ladd C dX11_mix_7 ?_
  subst h
  exact v_lret C K dX11_mix_8
theorem m_U_mix {S : SE} (hI : Inj S) (M : Mem) (a0 : Int64) (a2 : Int32) (q : Int64) (h : f_U_mix a0 a2 = q) : CM S yX11_mix cX11_mix 3 (some .long) 0 [.long a0, .int a2] M (some (.long q)) M :=
  CM.of [(0, .long a0), (2, .int a2)] hI (by decide) rfl (Nat.le_of_ble_eq_true rfl) (fun X C K => v_U_mix C K  h)
