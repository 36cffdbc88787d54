def f_Mo_total (M : Mem) : Option (Int32 × Mem) :=
  (f_Mo_totalOf M).bind fun q1 =>
  some (q1.1, q1.2)
set_option maxRecDepth 20000 in
theorem v_Mo_total {S : SE} {X : MX} {q : (Int32 × Mem)} {M : Mem} (C : CX S X cX12_total 1 RX12 8) (K : RT S X (some .int) (some (.int q.1)) q.2) (h : f_Mo_total M = some q) : V S X 1 M 0 [(0, .ref (S.2.1 91))] [] := by
  unfold f_Mo_total at h
  refine v_aload_n C 0 dX12_total_0 rfl ?_
  obtain ⟨q1, hq1, h⟩ := Option.bind_eq_some_iff.mp h
  refine cv12 C [] kk91 (m_Mo_totalOf C.inj M q1 hq1) ci_Mo_totalOf rfl lk_X12_310 (by decide) rfl rfl (Nat.le_of_ble_eq_true rfl) dX12_total_1 ?_
  obtain rfl := Option.some.inj h
  exact v_iret C K dX12_total_4
theorem m_Mo_total {S : SE} (hI : Inj S) (M : Mem) (q : (Int32 × Mem)) (h : f_Mo_total M = some q) : CM S yX12_total cX12_total 1 (some .int) 8 [.ref (S.2.1 91)] M (some (.int q.1)) q.2 :=
  CM.of [(0, .ref (S.2.1 91))] hI (by decide) rfl (Nat.le_of_ble_eq_true rfl) (fun X C K => v_Mo_total C K  h)
def f_Mo_speaksOf (M : Mem) : Option (Int32 × Mem) :=
  (f_Mo_runsTold M).bind fun q1 =>
  (f_Mo_speaksNow q1).bind fun q2 =>
  some (q2, q1)
set_option maxRecDepth 20000 in
theorem v_Mo_speaksOf {S : SE} {X : MX} {q : (Int32 × Mem)} {M : Mem} (C : CX S X cX12_speaksOf 1 RX12 7) (K : RT S X (some .int) (some (.int q.1)) q.2) (h : f_Mo_speaksOf M = some q) : V S X 1 M 0 [(0, .ref (S.2.1 91))] [] := by
  unfold f_Mo_speaksOf at h
  refine v_aload_n C 0 dX12_speaksOf_0 rfl ?_
  obtain ⟨q1, hq1, h⟩ := Option.bind_eq_some_iff.mp h
  refine cv12v C [] kk91 (m_Mo_runsTold C.inj M q1 hq1) ci_Mo_runsTold rfl lk_X12_292 (by decide) rfl rfl (Nat.le_of_ble_eq_true rfl) dX12_speaksOf_1 ?_
  refine v_aload_n C 0 dX12_speaksOf_4 rfl ?_
  obtain ⟨q2, hq2, h⟩ := Option.bind_eq_some_iff.mp h
  refine cv12 C [] kk91 (m_Mo_speaksNow C.inj q1 q2 hq2) ci_Mo_speaksNow rfl lk_X12_247 (by decide) rfl rfl (Nat.le_of_ble_eq_true rfl) dX12_speaksOf_5 ?_
  obtain rfl := Option.some.inj h
  exact v_iret C K dX12_speaksOf_8
theorem m_Mo_speaksOf {S : SE} (hI : Inj S) (M : Mem) (q : (Int32 × Mem)) (h : f_Mo_speaksOf M = some q) : CM S yX12_speaksOf cX12_speaksOf 1 (some .int) 7 [.ref (S.2.1 91)] M (some (.int q.1)) q.2 :=
  CM.of [(0, .ref (S.2.1 91))] hI (by decide) rfl (Nat.le_of_ble_eq_true rfl) (fun X C K => v_Mo_speaksOf C K  h)
def f_Mo_speaks (M : Mem) : Option (Int32 × Mem) :=
  (f_Mo_speaksOf M).bind fun q1 =>
  some (q1.1, q1.2)
set_option maxRecDepth 20000 in
theorem v_Mo_speaks {S : SE} {X : MX} {q : (Int32 × Mem)} {M : Mem} (C : CX S X cX12_speaks 1 RX12 8) (K : RT S X (some .int) (some (.int q.1)) q.2) (h : f_Mo_speaks M = some q) : V S X 1 M 0 [(0, .ref (S.2.1 91))] [] := by
  unfold f_Mo_speaks at h
  refine v_aload_n C 0 dX12_speaks_0 rfl ?_
  obtain ⟨q1, hq1, h⟩ := Option.bind_eq_some_iff.mp h
  refine cv12 C [] kk91 (m_Mo_speaksOf C.inj M q1 hq1) ci_Mo_speaksOf rfl lk_X12_313 (by decide) rfl rfl (Nat.le_of_ble_eq_true rfl) dX12_speaks_1 ?_
  obtain rfl := Option.some.inj h
  exact v_iret C K dX12_speaks_4
theorem m_Mo_speaks {S : SE} (hI : Inj S) (M : Mem) (q : (Int32 × Mem)) (h : f_Mo_speaks M = some q) : CM S yX12_speaks cX12_speaks 1 (some .int) 8 [.ref (S.2.1 91)] M (some (.int q.1)) q.2 :=
  CM.of [(0, .ref (S.2.1 91))] hI (by decide) rfl (Nat.le_of_ble_eq_true rfl) (fun X C K => v_Mo_speaks C K  h)
def f_Mo_domainOf (M : Mem) (a1 : Int32) (a2 : Int32) : Option (Int32 × Mem) :=
  (f_Mo_runsTold M).bind fun q1 =>
  if a1 = (-1) then
    some ((q1 91 31), q1)
  else
    if a1 < (q1 91 31) then
      if a2 = 0 then
        if gin a1 10 then
          some ((q1 114 a1.toNatClampNeg), q1)
        else none
      else
        if gin a1 10 then
          some ((q1 115 a1.toNatClampNeg), q1)
        else none
    else
      some ((-3), q1)
set_option maxRecDepth 20000 in
theorem v_Mo_domainOf {S : SE} {X : MX} {q : (Int32 × Mem)} {M : Mem} {a1 : Int32} {a2 : Int32} (C : CX S X cX12_domainOf 3 RX12 7) (K : RT S X (some .int) (some (.int q.1)) q.2) (h : f_Mo_domainOf M a1 a2 = some q) : V S X 3 M 0 [(0, .ref (S.2.1 91)), (1, .int a1), (2, .int a2)] [] := by
  unfold f_Mo_domainOf at h
  refine v_aload_n C 0 dX12_domainOf_0 rfl ?_
  obtain ⟨q1, hq1, h⟩ := Option.bind_eq_some_iff.mp h
  refine cv12v C [] kk91 (m_Mo_runsTold C.inj M q1 hq1) ci_Mo_runsTold rfl lk_X12_292 (by decide) rfl rfl (Nat.le_of_ble_eq_true rfl) dX12_domainOf_1 ?_
  refine v_iload_n C 1 dX12_domainOf_4 rfl ?_
  refine v_iconst C (-1) dX12_domainOf_5 rfl ?_
  refine v_icmp_ne C 16 dX12_domainOf_6 (by decide) (fun c6 => ?_) (fun c6 => ?_)
  · replace h := (ite_h h).2 c6
    refine v_iload_n C 1 dX12_domainOf_16 rfl ?_
    refine v_aload_n C 0 dX12_domainOf_17 rfl ?_
    refine g_Mo_pairs C kk91 fl_X12_244 dX12_domainOf_18 ?_
    refine v_icmp_lt C 29 dX12_domainOf_21 (by decide) (fun c5 => ?_) (fun c5 => ?_)
    · replace h := (ite_h h).1 c5
      refine v_iload_n C 2 dX12_domainOf_29 rfl ?_
      refine v_if_ne C 42 dX12_domainOf_30 (by decide) (fun c4 => ?_) (fun c4 => ?_)
      · replace h := (ite_h h).2 c4
        refine v_aload_n C 0 dX12_domainOf_42 rfl ?_
        refine g_Mo_pairV C kk91 fl_X12_79 dX12_domainOf_43 ?_
        refine v_iload_n C 1 dX12_domainOf_46 rfl ?_
        obtain ⟨g2, h⟩ := gd_h h
        refine v_iald C kk115 ll115 g2 dX12_domainOf_47 ?_
        obtain rfl := Option.some.inj h
        exact v_iret C K dX12_domainOf_48
      · replace h := (ite_h h).1 c4
        refine v_aload_n C 0 dX12_domainOf_33 rfl ?_
        refine g_Mo_pairK C kk91 fl_X12_76 dX12_domainOf_34 ?_
        refine v_iload_n C 1 dX12_domainOf_37 rfl ?_
        obtain ⟨g3, h⟩ := gd_h h
        refine v_iald C kk114 ll114 g3 dX12_domainOf_38 ?_
        refine v_goto C 48 dX12_domainOf_39 (by decide) ?_
        obtain rfl := Option.some.inj h
        exact v_iret C K dX12_domainOf_48
    · replace h := (ite_h h).2 c5
      refine v_bipush C (-3) dX12_domainOf_24 rfl ?_
      refine v_goto C 48 dX12_domainOf_26 (by decide) ?_
      obtain rfl := Option.some.inj h
      exact v_iret C K dX12_domainOf_48
  · replace h := (ite_h h).1 c6
    refine v_aload_n C 0 dX12_domainOf_9 rfl ?_
    refine g_Mo_pairs C kk91 fl_X12_244 dX12_domainOf_10 ?_
    refine v_goto C 48 dX12_domainOf_13 (by decide) ?_
    obtain rfl := Option.some.inj h
    exact v_iret C K dX12_domainOf_48
theorem m_Mo_domainOf {S : SE} (hI : Inj S) (M : Mem) (a1 : Int32) (a2 : Int32) (q : (Int32 × Mem)) (h : f_Mo_domainOf M a1 a2 = some q) : CM S yX12_domainOf cX12_domainOf 3 (some .int) 7 [.ref (S.2.1 91), .int a1, .int a2] M (some (.int q.1)) q.2 :=
  CM.of [(0, .ref (S.2.1 91)), (1, .int a1), (2, .int a2)] hI (by decide) rfl (Nat.le_of_ble_eq_true rfl) (fun X C K => v_Mo_domainOf C K  h)
def f_Mo_domain_b26 (M : Mem) : Option (Int32 × Mem) :=
  some ((-2), M)
set_option maxRecDepth 20000 in
theorem v_Mo_domain_b26 {S : SE} {X : MX} {q : (Int32 × Mem)} {M : Mem} (C : CX S X cX12_domain 3 RX12 8) (K : RT S X (some .int) (some (.int q.1)) q.2) (h : f_Mo_domain_b26 M = some q) : V S X 3 M 26 [] [] := by
  unfold f_Mo_domain_b26 at h
  refine v_bipush C (-2) dX12_domain_26 rfl ?_
  obtain rfl := Option.some.inj h
  exact v_iret C K dX12_domain_28
def f_Mo_domain (M : Mem) (a1 : Int32) (a2 : Int32) : Option (Int32 × Mem) :=
  if (f_Mo_in a1 (-1) 9) = 0 then
    f_Mo_domain_b26 M
  else
    if (f_Mo_isTwo a2) = 0 then
      f_Mo_domain_b26 M
    else
      (f_Mo_domainOf M a1 a2).bind fun q1 =>
      some (q1.1, q1.2)
set_option maxRecDepth 20000 in
theorem v_Mo_domain {S : SE} {X : MX} {q : (Int32 × Mem)} {M : Mem} {a1 : Int32} {a2 : Int32} (C : CX S X cX12_domain 3 RX12 8) (K : RT S X (some .int) (some (.int q.1)) q.2) (h : f_Mo_domain M a1 a2 = some q) : V S X 3 M 0 [(0, .ref (S.2.1 91)), (1, .int a1), (2, .int a2)] [] := by
  unfold f_Mo_domain at h
  refine v_iload_n C 1 dX12_domain_0 rfl ?_
  refine v_iconst C (-1) dX12_domain_1 rfl ?_
  refine v_bipush C 9 dX12_domain_2 rfl ?_
  refine cs C [] (m_Mo_in C.inj M a1 (-1) 9 _ rfl) ci_Mo_in lk_X12_107 (by decide) rfl rfl (Nat.le_of_ble_eq_true rfl) dX12_domain_4 ?_
  refine v_if_eq C 26 dX12_domain_7 (by decide) (fun c3 => ?_) (fun c3 => ?_)
  · replace h := (ite_h h).1 c3
    refine v_sub [] rfl ?_
    exact v_Mo_domain_b26 C K h
  · replace h := (ite_h h).2 c3
    refine v_iload_n C 2 dX12_domain_10 rfl ?_
    refine cs C [] (m_Mo_isTwo C.inj M a2 _ rfl) ci_Mo_isTwo lk_X12_165 (by decide) rfl rfl (Nat.le_of_ble_eq_true rfl) dX12_domain_11 ?_
    refine v_if_eq C 26 dX12_domain_14 (by decide) (fun c2 => ?_) (fun c2 => ?_)
    · replace h := (ite_h h).1 c2
      refine v_sub [] rfl ?_
      exact v_Mo_domain_b26 C K h
    · replace h := (ite_h h).2 c2
      refine v_aload_n C 0 dX12_domain_17 rfl ?_
      refine v_iload_n C 1 dX12_domain_18 rfl ?_
      refine v_iload_n C 2 dX12_domain_19 rfl ?_
      obtain ⟨q1, hq1, h⟩ := Option.bind_eq_some_iff.mp h
      refine cv12 C [] kk91 (m_Mo_domainOf C.inj M a1 a2 q1 hq1) ci_Mo_domainOf rfl lk_X12_316 (by decide) rfl rfl (Nat.le_of_ble_eq_true rfl) dX12_domain_20 ?_
      refine v_goto C 28 dX12_domain_23 (by decide) ?_
      obtain rfl := Option.some.inj h
      exact v_iret C K dX12_domain_28
theorem m_Mo_domain {S : SE} (hI : Inj S) (M : Mem) (a1 : Int32) (a2 : Int32) (q : (Int32 × Mem)) (h : f_Mo_domain M a1 a2 = some q) : CM S yX12_domain cX12_domain 3 (some .int) 8 [.ref (S.2.1 91), .int a1, .int a2] M (some (.int q.1)) q.2 :=
  CM.of [(0, .ref (S.2.1 91)), (1, .int a1), (2, .int a2)] hI (by decide) rfl (Nat.le_of_ble_eq_true rfl) (fun X C K => v_Mo_domain C K  h)
def f_Mo_planOf (M : Mem) (a1 : Int32) : Option (Int32 × Mem) :=
  (f_Mo_runsTold M).bind fun q1 =>
  if (q1 91 35) ≤ a1 then
    some ((-1), q1)
  else
    if gin a1 20 then
      some ((q1 117 a1.toNatClampNeg), q1)
    else none
set_option maxRecDepth 20000 in
theorem v_Mo_planOf {S : SE} {X : MX} {q : (Int32 × Mem)} {M : Mem} {a1 : Int32} (C : CX S X cX12_planOf 2 RX12 7) (K : RT S X (some .int) (some (.int q.1)) q.2) (h : f_Mo_planOf M a1 = some q) : V S X 2 M 0 [(0, .ref (S.2.1 91)), (1, .int a1)] [] := by
  unfold f_Mo_planOf at h
  refine v_aload_n C 0 dX12_planOf_0 rfl ?_
  obtain ⟨q1, hq1, h⟩ := Option.bind_eq_some_iff.mp h
  refine cv12v C [] kk91 (m_Mo_runsTold C.inj M q1 hq1) ci_Mo_runsTold rfl lk_X12_292 (by decide) rfl rfl (Nat.le_of_ble_eq_true rfl) dX12_planOf_1 ?_
  refine v_iload_n C 1 dX12_planOf_4 rfl ?_
  refine v_aload_n C 0 dX12_planOf_5 rfl ?_
  refine g_Mo_planMany C kk91 fl_X12_261 dX12_planOf_6 ?_
  refine v_icmp_ge C 21 dX12_planOf_9 (by decide) (fun c3 => ?_) (fun c3 => ?_)
  · replace h := (ite_h h).1 c3
    refine v_iconst C (-1) dX12_planOf_21 rfl ?_
    obtain rfl := Option.some.inj h
    exact v_iret C K dX12_planOf_22
  · replace h := (ite_h h).2 c3
    refine v_aload_n C 0 dX12_planOf_12 rfl ?_
    refine g_Mo_planRow C kk91 fl_X12_85 dX12_planOf_13 ?_
    refine v_iload_n C 1 dX12_planOf_16 rfl ?_
    obtain ⟨g2, h⟩ := gd_h h
    refine v_iald C kk117 ll117 g2 dX12_planOf_17 ?_
    refine v_goto C 22 dX12_planOf_18 (by decide) ?_
    obtain rfl := Option.some.inj h
    exact v_iret C K dX12_planOf_22
theorem m_Mo_planOf {S : SE} (hI : Inj S) (M : Mem) (a1 : Int32) (q : (Int32 × Mem)) (h : f_Mo_planOf M a1 = some q) : CM S yX12_planOf cX12_planOf 2 (some .int) 7 [.ref (S.2.1 91), .int a1] M (some (.int q.1)) q.2 :=
  CM.of [(0, .ref (S.2.1 91)), (1, .int a1)] hI (by decide) rfl (Nat.le_of_ble_eq_true rfl) (fun X C K => v_Mo_planOf C K  h)
def f_Mo_plan (M : Mem) (a1 : Int32) : Option (Int32 × Mem) :=
  if (f_Mo_in a1 0 19) = 0 then
    some ((-2), M)
  else
    (f_Mo_planOf M a1).bind fun q1 =>
    some (q1.1, q1.2)
set_option maxRecDepth 20000 in
theorem v_Mo_plan {S : SE} {X : MX} {q : (Int32 × Mem)} {M : Mem} {a1 : Int32} (C : CX S X cX12_plan 2 RX12 8) (K : RT S X (some .int) (some (.int q.1)) q.2) (h : f_Mo_plan M a1 = some q) : V S X 2 M 0 [(0, .ref (S.2.1 91)), (1, .int a1)] [] := by
  unfold f_Mo_plan at h
  refine v_iload_n C 1 dX12_plan_0 rfl ?_
  refine v_iconst C 0 dX12_plan_1 rfl ?_
  refine v_bipush C 19 dX12_plan_2 rfl ?_
  refine cs C [] (m_Mo_in C.inj M a1 0 19 _ rfl) ci_Mo_in lk_X12_107 (by decide) rfl rfl (Nat.le_of_ble_eq_true rfl) dX12_plan_4 ?_
  refine v_if_eq C 18 dX12_plan_7 (by decide) (fun c2 => ?_) (fun c2 => ?_)
  · replace h := (ite_h h).1 c2
    refine v_bipush C (-2) dX12_plan_18 rfl ?_
    obtain rfl := Option.some.inj h
    exact v_iret C K dX12_plan_20
  · replace h := (ite_h h).2 c2
    refine v_aload_n C 0 dX12_plan_10 rfl ?_
    refine v_iload_n C 1 dX12_plan_11 rfl ?_
    obtain ⟨q1, hq1, h⟩ := Option.bind_eq_some_iff.mp h
    refine cv12 C [] kk91 (m_Mo_planOf C.inj M a1 q1 hq1) ci_Mo_planOf rfl lk_X12_319 (by decide) rfl rfl (Nat.le_of_ble_eq_true rfl) dX12_plan_12 ?_
    refine v_goto C 20 dX12_plan_15 (by decide) ?_
    obtain rfl := Option.some.inj h
    exact v_iret C K dX12_plan_20
theorem m_Mo_plan {S : SE} (hI : Inj S) (M : Mem) (a1 : Int32) (q : (Int32 × Mem)) (h : f_Mo_plan M a1 = some q) : CM S yX12_plan cX12_plan 2 (some .int) 8 [.ref (S.2.1 91), .int a1] M (some (.int q.1)) q.2 :=
  CM.of [(0, .ref (S.2.1 91)), (1, .int a1)] hI (by decide) rfl (Nat.le_of_ble_eq_true rfl) (fun X C K => v_Mo_plan C K  h)
def f_Mo_costOf (M : Mem) (a1 : Int32) (a2 : Int32) : Option (Int32 × Mem) :=
  (f_Mo_runsTold M).bind fun q1 =>
  if gin ((5 * a1) + a2) 10 then
    some ((q1 102 ((5 * a1) + a2).toNatClampNeg), q1)
  else none
set_option maxRecDepth 20000 in
theorem v_Mo_costOf {S : SE} {X : MX} {q : (Int32 × Mem)} {M : Mem} {a1 : Int32} {a2 : Int32} (C : CX S X cX12_costOf 3 RX12 7) (K : RT S X (some .int) (some (.int q.1)) q.2) (h : f_Mo_costOf M a1 a2 = some q) : V S X 3 M 0 [(0, .ref (S.2.1 91)), (1, .int a1), (2, .int a2)] [] := by
  unfold f_Mo_costOf at h
  refine v_aload_n C 0 dX12_costOf_0 rfl ?_
  obtain ⟨q1, hq1, h⟩ := Option.bind_eq_some_iff.mp h
  refine cv12v C [] kk91 (m_Mo_runsTold C.inj M q1 hq1) ci_Mo_runsTold rfl lk_X12_292 (by decide) rfl rfl (Nat.le_of_ble_eq_true rfl) dX12_costOf_1 ?_
  refine v_aload_n C 0 dX12_costOf_4 rfl ?_
  refine g_Mo_costs C kk91 fl_X12_40 dX12_costOf_5 ?_
  refine v_iconst C 5 dX12_costOf_8 rfl ?_
  refine v_iload_n C 1 dX12_costOf_9 rfl ?_
  refine v_imul C dX12_costOf_10 ?_
  refine v_iload_n C 2 dX12_costOf_11 rfl ?_
  refine v_iadd C dX12_costOf_12 ?_
  obtain ⟨g2, h⟩ := gd_h h
  refine v_iald C kk102 ll102 g2 dX12_costOf_13 ?_
  obtain rfl := Option.some.inj h
  exact v_iret C K dX12_costOf_14
theorem m_Mo_costOf {S : SE} (hI : Inj S) (M : Mem) (a1 : Int32) (a2 : Int32) (q : (Int32 × Mem)) (h : f_Mo_costOf M a1 a2 = some q) : CM S yX12_costOf cX12_costOf 3 (some .int) 7 [.ref (S.2.1 91), .int a1, .int a2] M (some (.int q.1)) q.2 :=
  CM.of [(0, .ref (S.2.1 91)), (1, .int a1), (2, .int a2)] hI (by decide) rfl (Nat.le_of_ble_eq_true rfl) (fun X C K => v_Mo_costOf C K  h)
def f_Mo_cost_b25 (M : Mem) : Option (Int32 × Mem) :=
  some ((-2), M)
set_option maxRecDepth 20000 in
theorem v_Mo_cost_b25 {S : SE} {X : MX} {q : (Int32 × Mem)} {M : Mem} (C : CX S X cX12_cost 3 RX12 8) (K : RT S X (some .int) (some (.int q.1)) q.2) (h : f_Mo_cost_b25 M = some q) : V S X 3 M 25 [] [] := by
  unfold f_Mo_cost_b25 at h
  refine v_bipush C (-2) dX12_cost_25 rfl ?_
  obtain rfl := Option.some.inj h
  exact v_iret C K dX12_cost_27
def f_Mo_cost (M : Mem) (a1 : Int32) (a2 : Int32) : Option (Int32 × Mem) :=
  if (f_Mo_isTwo a1) = 0 then
    f_Mo_cost_b25 M
  else
    if (f_Mo_in a2 0 4) = 0 then
      f_Mo_cost_b25 M
    else
      (f_Mo_costOf M a1 a2).bind fun q1 =>
      some (q1.1, q1.2)
set_option maxRecDepth 20000 in
theorem v_Mo_cost {S : SE} {X : MX} {q : (Int32 × Mem)} {M : Mem} {a1 : Int32} {a2 : Int32} (C : CX S X cX12_cost 3 RX12 8) (K : RT S X (some .int) (some (.int q.1)) q.2) (h : f_Mo_cost M a1 a2 = some q) : V S X 3 M 0 [(0, .ref (S.2.1 91)), (1, .int a1), (2, .int a2)] [] := by
  unfold f_Mo_cost at h
  refine v_iload_n C 1 dX12_cost_0 rfl ?_
  refine cs C [] (m_Mo_isTwo C.inj M a1 _ rfl) ci_Mo_isTwo lk_X12_165 (by decide) rfl rfl (Nat.le_of_ble_eq_true rfl) dX12_cost_1 ?_
  refine v_if_eq C 25 dX12_cost_4 (by decide) (fun c3 => ?_) (fun c3 => ?_)
  · replace h := (ite_h h).1 c3
    refine v_sub [] rfl ?_
    exact v_Mo_cost_b25 C K h
  · replace h := (ite_h h).2 c3
    refine v_iload_n C 2 dX12_cost_7 rfl ?_
    refine v_iconst C 0 dX12_cost_8 rfl ?_
    refine v_iconst C 4 dX12_cost_9 rfl ?_
    refine cs C [] (m_Mo_in C.inj M a2 0 4 _ rfl) ci_Mo_in lk_X12_107 (by decide) rfl rfl (Nat.le_of_ble_eq_true rfl) dX12_cost_10 ?_
    refine v_if_eq C 25 dX12_cost_13 (by decide) (fun c2 => ?_) (fun c2 => ?_)
    · replace h := (ite_h h).1 c2
      refine v_sub [] rfl ?_
      exact v_Mo_cost_b25 C K h
    · replace h := (ite_h h).2 c2
      refine v_aload_n C 0 dX12_cost_16 rfl ?_
      refine v_iload_n C 1 dX12_cost_17 rfl ?_
      refine v_iload_n C 2 dX12_cost_18 rfl ?_
      obtain ⟨q1, hq1, h⟩ := Option.bind_eq_some_iff.mp h
      refine cv12 C [] kk91 (m_Mo_costOf C.inj M a1 a2 q1 hq1) ci_Mo_costOf rfl lk_X12_322 (by decide) rfl rfl (Nat.le_of_ble_eq_true rfl) dX12_cost_19 ?_
      refine v_goto C 27 dX12_cost_22 (by decide) ?_
      obtain rfl := Option.some.inj h
      exact v_iret C K dX12_cost_27
theorem m_Mo_cost {S : SE} (hI : Inj S) (M : Mem) (a1 : Int32) (a2 : Int32) (q : (Int32 × Mem)) (h : f_Mo_cost M a1 a2 = some q) : CM S yX12_cost cX12_cost 3 (some .int) 8 [.ref (S.2.1 91), .int a1, .int a2] M (some (.int q.1)) q.2 :=
  CM.of [(0, .ref (S.2.1 91)), (1, .int a1), (2, .int a2)] hI (by decide) rfl (Nat.le_of_ble_eq_true rfl) (fun X C K => v_Mo_cost C K  h)
def f_Mo_logOf (M : Mem) (a1 : Int32) (a2 : Int32) : Option (Int32 × Mem) :=
  (f_Mo_runsTold M).bind fun q1 =>
  if gin a1 2 then
    if (q1 103 a1.toNatClampNeg) ≤ a2 then
      some ((-1), q1)
    else
      if gin ((200 * a1) + a2) 400 then
        some ((q1 104 ((200 * a1) + a2).toNatClampNeg), q1)
      else none
  else none
set_option maxRecDepth 20000 in
theorem v_Mo_logOf {S : SE} {X : MX} {q : (Int32 × Mem)} {M : Mem} {a1 : Int32} {a2 : Int32} (C : CX S X cX12_logOf 3 RX12 7) (K : RT S X (some .int) (some (.int q.1)) q.2) (h : f_Mo_logOf M a1 a2 = some q) : V S X 3 M 0 [(0, .ref (S.2.1 91)), (1, .int a1), (2, .int a2)] [] := by
  unfold f_Mo_logOf at h
  refine v_aload_n C 0 dX12_logOf_0 rfl ?_
  obtain ⟨q1, hq1, h⟩ := Option.bind_eq_some_iff.mp h
  refine cv12v C [] kk91 (m_Mo_runsTold C.inj M q1 hq1) ci_Mo_runsTold rfl lk_X12_292 (by decide) rfl rfl (Nat.le_of_ble_eq_true rfl) dX12_logOf_1 ?_
  refine v_iload_n C 2 dX12_logOf_4 rfl ?_
  refine v_aload_n C 0 dX12_logOf_5 rfl ?_
  refine g_Mo_logged C kk91 fl_X12_43 dX12_logOf_6 ?_
  refine v_iload_n C 1 dX12_logOf_9 rfl ?_
  obtain ⟨g2, h⟩ := gd_h h
  refine v_iald C kk103 ll103 g2 dX12_logOf_10 ?_
  refine v_icmp_ge C 29 dX12_logOf_11 (by decide) (fun c4 => ?_) (fun c4 => ?_)
  · replace h := (ite_h h).1 c4
    refine v_iconst C (-1) dX12_logOf_29 rfl ?_
    obtain rfl := Option.some.inj h
    exact v_iret C K dX12_logOf_30
  · replace h := (ite_h h).2 c4
    refine v_aload_n C 0 dX12_logOf_14 rfl ?_
    refine g_Mo_logs C kk91 fl_X12_46 dX12_logOf_15 ?_
    refine v_sipush C 200 dX12_logOf_18 rfl ?_
    refine v_iload_n C 1 dX12_logOf_21 rfl ?_
    refine v_imul C dX12_logOf_22 ?_
    refine v_iload_n C 2 dX12_logOf_23 rfl ?_
    refine v_iadd C dX12_logOf_24 ?_
    obtain ⟨g3, h⟩ := gd_h h
    refine v_iald C kk104 ll104 g3 dX12_logOf_25 ?_
    refine v_goto C 30 dX12_logOf_26 (by decide) ?_
    obtain rfl := Option.some.inj h
    exact v_iret C K dX12_logOf_30
theorem m_Mo_logOf {S : SE} (hI : Inj S) (M : Mem) (a1 : Int32) (a2 : Int32) (q : (Int32 × Mem)) (h : f_Mo_logOf M a1 a2 = some q) : CM S yX12_logOf cX12_logOf 3 (some .int) 7 [.ref (S.2.1 91), .int a1, .int a2] M (some (.int q.1)) q.2 :=
  CM.of [(0, .ref (S.2.1 91)), (1, .int a1), (2, .int a2)] hI (by decide) rfl (Nat.le_of_ble_eq_true rfl) (fun X C K => v_Mo_logOf C K  h)
def f_Mo_log_b27 (M : Mem) : Option (Int32 × Mem) :=
  some ((-2), M)
set_option maxRecDepth 20000 in
theorem v_Mo_log_b27 {S : SE} {X : MX} {q : (Int32 × Mem)} {M : Mem} (C : CX S X cX12_log 3 RX12 8) (K : RT S X (some .int) (some (.int q.1)) q.2) (h : f_Mo_log_b27 M = some q) : V S X 3 M 27 [] [] := by
  unfold f_Mo_log_b27 at h
  refine v_bipush C (-2) dX12_log_27 rfl ?_
  obtain rfl := Option.some.inj h
  exact v_iret C K dX12_log_29
def f_Mo_log (M : Mem) (a1 : Int32) (a2 : Int32) : Option (Int32 × Mem) :=
  if (f_Mo_isTwo a1) = 0 then
    f_Mo_log_b27 M
  else
    if (f_Mo_in a2 0 199) = 0 then
      f_Mo_log_b27 M
    else
      (f_Mo_logOf M a1 a2).bind fun q1 =>
      some (q1.1, q1.2)
set_option maxRecDepth 20000 in
theorem v_Mo_log {S : SE} {X : MX} {q : (Int32 × Mem)} {M : Mem} {a1 : Int32} {a2 : Int32} (C : CX S X cX12_log 3 RX12 8) (K : RT S X (some .int) (some (.int q.1)) q.2) (h : f_Mo_log M a1 a2 = some q) : V S X 3 M 0 [(0, .ref (S.2.1 91)), (1, .int a1), (2, .int a2)] [] := by
  unfold f_Mo_log at h
  refine v_iload_n C 1 dX12_log_0 rfl ?_
  refine cs C [] (m_Mo_isTwo C.inj M a1 _ rfl) ci_Mo_isTwo lk_X12_165 (by decide) rfl rfl (Nat.le_of_ble_eq_true rfl) dX12_log_1 ?_
  refine v_if_eq C 27 dX12_log_4 (by decide) (fun c3 => ?_) (fun c3 => ?_)
  · replace h := (ite_h h).1 c3
    refine v_sub [] rfl ?_
    exact v_Mo_log_b27 C K h
  · replace h := (ite_h h).2 c3
    refine v_iload_n C 2 dX12_log_7 rfl ?_
    refine v_iconst C 0 dX12_log_8 rfl ?_
    refine v_sipush C 199 dX12_log_9 rfl ?_
    refine cs C [] (m_Mo_in C.inj M a2 0 199 _ rfl) ci_Mo_in lk_X12_107 (by decide) rfl rfl (Nat.le_of_ble_eq_true rfl) dX12_log_12 ?_
    refine v_if_eq C 27 dX12_log_15 (by decide) (fun c2 => ?_) (fun c2 => ?_)
    · replace h := (ite_h h).1 c2
      refine v_sub [] rfl ?_
      exact v_Mo_log_b27 C K h
    · replace h := (ite_h h).2 c2
      refine v_aload_n C 0 dX12_log_18 rfl ?_
      refine v_iload_n C 1 dX12_log_19 rfl ?_
      refine v_iload_n C 2 dX12_log_20 rfl ?_
      obtain ⟨q1, hq1, h⟩ := Option.bind_eq_some_iff.mp h
      refine cv12 C [] kk91 (m_Mo_logOf C.inj M a1 a2 q1 hq1) ci_Mo_logOf rfl lk_X12_325 (by decide) rfl rfl (Nat.le_of_ble_eq_true rfl) dX12_log_21 ?_
      refine v_goto C 29 dX12_log_24 (by decide) ?_
      obtain rfl := Option.some.inj h
      exact v_iret C K dX12_log_29
theorem m_Mo_log {S : SE} (hI : Inj S) (M : Mem) (a1 : Int32) (a2 : Int32) (q : (Int32 × Mem)) (h : f_Mo_log M a1 a2 = some q) : CM S yX12_log cX12_log 3 (some .int) 8 [.ref (S.2.1 91), .int a1, .int a2] M (some (.int q.1)) q.2 :=
  CM.of [(0, .ref (S.2.1 91)), (1, .int a1), (2, .int a2)] hI (by decide) rfl (Nat.le_of_ble_eq_true rfl) (fun X C K => v_Mo_log C K  h)
def f_Mo_spareOf_b146 (k45 : Int32 → Int32 → Int32 → Mem → Option (Int32 × Mem)) (a1 : Int32) (a3 : Int32) (s0 : Int32) (s1 : Int32) (M : Mem) : Option (Int32 × Mem) :=
  bnd (s1 ||| s0) fun x5 =>
  k45 a1 x5 (a3 + 1) M
set_option maxRecDepth 20000 in
theorem v_Mo_spareOf_b146 {S : SE} {X : MX} {q : (Int32 × Mem)} {k45 : Int32 → Int32 → Int32 → Mem → Option (Int32 × Mem)} {a1 : Int32} {a3 : Int32} {s0 : Int32} {s1 : Int32} {M : Mem} (C : CX S X cX12_spareOf 6 RX12 7) (K : RT S X (some .int) (some (.int q.1)) q.2) (hk45 : ∀ (a1 : Int32) (a2 : Int32) (a3 : Int32) (M : Mem), k45 a1 a2 a3 M = some q → V S X 6 M 45 [(0, .ref (S.2.1 91)), (1, .int a1), (2, .int a2), (3, .int a3)] []) (h : f_Mo_spareOf_b146 k45 a1 a3 s0 s1 M = some q) : V S X 6 M 146 [(0, .ref (S.2.1 91)), (1, .int a1), (3, .int a3)] [.int s0, .int s1] := by
  unfold f_Mo_spareOf_b146 at h
  refine v_ior C dX12_spareOf_146 ?_
  refine v_nmi h (fun x5 h => ?_)
  refine v_istore_n C [(2, .int x5), (0, .ref (S.2.1 91)), (1, .int a1), (3, .int a3)] dX12_spareOf_147 (by decide) rfl ?_
  refine v_iinc C [(3, .int (a3 + 1)), (2, .int x5), (0, .ref (S.2.1 91)), (1, .int a1)] 3 (a3 + 1) dX12_spareOf_148 rfl rfl (by decide) rfl ?_
  refine v_goto C 45 dX12_spareOf_151 (by decide) ?_
  refine v_sub [2, 3, 1, 0] rfl ?_
  exact hk45 _ _ _ _ h
def f_Mo_spareOf_b133 (k45 : Int32 → Int32 → Int32 → Mem → Option (Int32 × Mem)) (a1 : Int32) (a2 : Int32) (a3 : Int32) (a4 : Int32) (M : Mem) : Option (Int32 × Mem) :=
  if a4 = 0 then
    f_Mo_spareOf_b146 k45 a1 a3 0 a2 M
  else
    f_Mo_spareOf_b146 k45 a1 a3 (1 <<< (a3 &&& 31)) a2 M
set_option maxRecDepth 20000 in
theorem v_Mo_spareOf_b133 {S : SE} {X : MX} {q : (Int32 × Mem)} {k45 : Int32 → Int32 → Int32 → Mem → Option (Int32 × Mem)} {a1 : Int32} {a2 : Int32} {a3 : Int32} {a4 : Int32} {M : Mem} (C : CX S X cX12_spareOf 6 RX12 7) (K : RT S X (some .int) (some (.int q.1)) q.2) (hk45 : ∀ (a1 : Int32) (a2 : Int32) (a3 : Int32) (M : Mem), k45 a1 a2 a3 M = some q → V S X 6 M 45 [(0, .ref (S.2.1 91)), (1, .int a1), (2, .int a2), (3, .int a3)] []) (h : f_Mo_spareOf_b133 k45 a1 a2 a3 a4 M = some q) : V S X 6 M 133 [(0, .ref (S.2.1 91)), (1, .int a1), (2, .int a2), (3, .int a3), (4, .int a4)] [] := by
  unfold f_Mo_spareOf_b133 at h
  refine v_iload_n C 2 dX12_spareOf_133 rfl ?_
  refine v_iload C 4 dX12_spareOf_134 rfl ?_
  refine v_if_eq C 145 dX12_spareOf_136 (by decide) (fun c6 => ?_) (fun c6 => ?_)
  · replace h := (ite_h h).1 c6
    refine v_iconst C 0 dX12_spareOf_145 rfl ?_
    refine v_sub [0, 1, 3] rfl ?_
    exact v_Mo_spareOf_b146 C K hk45 h
  · replace h := (ite_h h).2 c6
    refine v_iconst C 1 dX12_spareOf_139 rfl ?_
    refine v_iload_n C 3 dX12_spareOf_140 rfl ?_
    refine v_ishl C dX12_spareOf_141 ?_
    refine v_goto C 146 dX12_spareOf_142 (by decide) ?_
    refine v_sub [0, 1, 3] rfl ?_
    exact v_Mo_spareOf_b146 C K hk45 h
def f_Mo_spareOf_b125 (k45 : Int32 → Int32 → Int32 → Mem → Option (Int32 × Mem)) (k82 : Int32 → Int32 → Int32 → Int32 → Int32 → Mem → Option (Int32 × Mem)) (a1 : Int32) (a2 : Int32) (a3 : Int32) (a5 : Int32) (s0 : Int32) (M : Mem) : Option (Int32 × Mem) :=
  k82 a1 a2 a3 s0 (a5 + 1) M
set_option maxRecDepth 20000 in
theorem v_Mo_spareOf_b125 {S : SE} {X : MX} {q : (Int32 × Mem)} {k45 : Int32 → Int32 → Int32 → Mem → Option (Int32 × Mem)} {k82 : Int32 → Int32 → Int32 → Int32 → Int32 → Mem → Option (Int32 × Mem)} {a1 : Int32} {a2 : Int32} {a3 : Int32} {a5 : Int32} {s0 : Int32} {M : Mem} (C : CX S X cX12_spareOf 6 RX12 7) (K : RT S X (some .int) (some (.int q.1)) q.2) (hk45 : ∀ (a1 : Int32) (a2 : Int32) (a3 : Int32) (M : Mem), k45 a1 a2 a3 M = some q → V S X 6 M 45 [(0, .ref (S.2.1 91)), (1, .int a1), (2, .int a2), (3, .int a3)] []) (hk82 : ∀ (a1 : Int32) (a2 : Int32) (a3 : Int32) (a4 : Int32) (a5 : Int32) (M : Mem), k82 a1 a2 a3 a4 a5 M = some q → V S X 6 M 82 [(0, .ref (S.2.1 91)), (1, .int a1), (2, .int a2), (3, .int a3), (4, .int a4), (5, .int a5)] []) (h : f_Mo_spareOf_b125 k45 k82 a1 a2 a3 a5 s0 M = some q) : V S X 6 M 125 [(0, .ref (S.2.1 91)), (1, .int a1), (2, .int a2), (3, .int a3), (5, .int a5)] [.int s0] := by
  unfold f_Mo_spareOf_b125 at h
  refine v_istore C [(4, .int s0), (0, .ref (S.2.1 91)), (1, .int a1), (2, .int a2), (3, .int a3), (5, .int a5)] dX12_spareOf_125 (by decide) rfl ?_
  refine v_iinc C [(5, .int (a5 + 1)), (4, .int s0), (0, .ref (S.2.1 91)), (1, .int a1), (2, .int a2), (3, .int a3)] 5 (a5 + 1) dX12_spareOf_127 rfl rfl (by decide) rfl ?_
  refine v_goto C 82 dX12_spareOf_130 (by decide) ?_
  refine v_sub [2, 3, 4, 5, 1, 0] rfl ?_
  exact hk82 _ _ _ _ _ _ h
def f_Mo_spareOf_b124 (k45 : Int32 → Int32 → Int32 → Mem → Option (Int32 × Mem)) (k82 : Int32 → Int32 → Int32 → Int32 → Int32 → Mem → Option (Int32 × Mem)) (a1 : Int32) (a2 : Int32) (a3 : Int32) (a5 : Int32) (M : Mem) : Option (Int32 × Mem) :=
  f_Mo_spareOf_b125 k45 k82 a1 a2 a3 a5 0 M
set_option maxRecDepth 20000 in
theorem v_Mo_spareOf_b124 {S : SE} {X : MX} {q : (Int32 × Mem)} {k45 : Int32 → Int32 → Int32 → Mem → Option (Int32 × Mem)} {k82 : Int32 → Int32 → Int32 → Int32 → Int32 → Mem → Option (Int32 × Mem)} {a1 : Int32} {a2 : Int32} {a3 : Int32} {a5 : Int32} {M : Mem} (C : CX S X cX12_spareOf 6 RX12 7) (K : RT S X (some .int) (some (.int q.1)) q.2) (hk45 : ∀ (a1 : Int32) (a2 : Int32) (a3 : Int32) (M : Mem), k45 a1 a2 a3 M = some q → V S X 6 M 45 [(0, .ref (S.2.1 91)), (1, .int a1), (2, .int a2), (3, .int a3)] []) (hk82 : ∀ (a1 : Int32) (a2 : Int32) (a3 : Int32) (a4 : Int32) (a5 : Int32) (M : Mem), k82 a1 a2 a3 a4 a5 M = some q → V S X 6 M 82 [(0, .ref (S.2.1 91)), (1, .int a1), (2, .int a2), (3, .int a3), (4, .int a4), (5, .int a5)] []) (h : f_Mo_spareOf_b124 k45 k82 a1 a2 a3 a5 M = some q) : V S X 6 M 124 [(0, .ref (S.2.1 91)), (1, .int a1), (2, .int a2), (3, .int a3), (5, .int a5)] [] := by
  unfold f_Mo_spareOf_b124 at h
  refine v_iconst C 0 dX12_spareOf_124 rfl ?_
  exact v_Mo_spareOf_b125 C K hk45 hk82 h
def f_Mo_spareOf_l82B (k45 : Int32 → Int32 → Int32 → Mem → Option (Int32 × Mem)) (k82 : Int32 → Int32 → Int32 → Int32 → Int32 → Mem → Option (Int32 × Mem)) (a1 : Int32) (a2 : Int32) (a3 : Int32) (a4 : Int32) (a5 : Int32) (M : Mem) : Option (Int32 × Mem) :=
  if (M 95 (0 : Int32).toNatClampNeg) ≤ a5 then
    f_Mo_spareOf_b133 k45 a1 a2 a3 a4 M
  else
    if a1 = (-1) then
      if a4 = 0 then
        f_Mo_spareOf_b124 k45 k82 a1 a2 a3 a5 M
      else
        if gin a5 20 then
          if gin a5 10 then
            if (M 101 a5.toNatClampNeg) = (M 118 a5.toNatClampNeg) then
              f_Mo_spareOf_b125 k45 k82 a1 a2 a3 a5 1 M
            else
              f_Mo_spareOf_b124 k45 k82 a1 a2 a3 a5 M
          else none
        else none
    else
      f_Mo_spareOf_b133 k45 a1 a2 a3 a4 M
set_option maxRecDepth 20000 in
theorem v_Mo_spareOf_l82B {S : SE} {X : MX} {q : (Int32 × Mem)} {k45 : Int32 → Int32 → Int32 → Mem → Option (Int32 × Mem)} {k82 : Int32 → Int32 → Int32 → Int32 → Int32 → Mem → Option (Int32 × Mem)} {a1 : Int32} {a2 : Int32} {a3 : Int32} {a4 : Int32} {a5 : Int32} {M : Mem} (C : CX S X cX12_spareOf 6 RX12 7) (K : RT S X (some .int) (some (.int q.1)) q.2) (hk45 : ∀ (a1 : Int32) (a2 : Int32) (a3 : Int32) (M : Mem), k45 a1 a2 a3 M = some q → V S X 6 M 45 [(0, .ref (S.2.1 91)), (1, .int a1), (2, .int a2), (3, .int a3)] []) (hk82 : ∀ (a1 : Int32) (a2 : Int32) (a3 : Int32) (a4 : Int32) (a5 : Int32) (M : Mem), k82 a1 a2 a3 a4 a5 M = some q → V S X 6 M 82 [(0, .ref (S.2.1 91)), (1, .int a1), (2, .int a2), (3, .int a3), (4, .int a4), (5, .int a5)] []) (h : f_Mo_spareOf_l82B k45 k82 a1 a2 a3 a4 a5 M = some q) : V S X 6 M 82 [(0, .ref (S.2.1 91)), (1, .int a1), (2, .int a2), (3, .int a3), (4, .int a4), (5, .int a5)] [] := by
  unfold f_Mo_spareOf_l82B at h
  refine v_iload C 5 dX12_spareOf_82 rfl ?_
  refine v_aload_n C 0 dX12_spareOf_84 rfl ?_
  refine g_Mo_rows C kk91 fl_X12_19 dX12_spareOf_85 ?_
  refine v_iconst C 0 dX12_spareOf_88 rfl ?_
  refine v_iald C kk95 ll95 (by decide) dX12_spareOf_89 ?_
  refine v_icmp_ge C 133 dX12_spareOf_90 (by decide) (fun c12 => ?_) (fun c12 => ?_)
  · replace h := (ite_h h).1 c12
    refine v_sub [0, 1, 2, 3, 4] rfl ?_
    exact v_Mo_spareOf_b133 C K hk45 h
  · replace h := (ite_h h).2 c12
    refine v_iload_n C 1 dX12_spareOf_93 rfl ?_
    refine v_iconst C (-1) dX12_spareOf_94 rfl ?_
    refine v_icmp_ne C 133 dX12_spareOf_95 (by decide) (fun c11 => ?_) (fun c11 => ?_)
    · replace h := (ite_h h).2 c11
      refine v_sub [0, 1, 2, 3, 4] rfl ?_
      exact v_Mo_spareOf_b133 C K hk45 h
    · replace h := (ite_h h).1 c11
      refine v_iload C 4 dX12_spareOf_98 rfl ?_
      refine v_if_eq C 124 dX12_spareOf_100 (by decide) (fun c10 => ?_) (fun c10 => ?_)
      · replace h := (ite_h h).1 c10
        refine v_sub [0, 1, 2, 3, 5] rfl ?_
        exact v_Mo_spareOf_b124 C K hk45 hk82 h
      · replace h := (ite_h h).2 c10
        refine v_aload_n C 0 dX12_spareOf_103 rfl ?_
        refine g_Mo_answers C kk91 fl_X12_37 dX12_spareOf_104 ?_
        refine v_iload C 5 dX12_spareOf_107 rfl ?_
        obtain ⟨g7, h⟩ := gd_h h
        refine v_iald C kk101 ll101 g7 dX12_spareOf_109 ?_
        refine v_aload_n C 0 dX12_spareOf_110 rfl ?_
        refine g_Mo_ownAnswers C kk91 fl_X12_88 dX12_spareOf_111 ?_
        refine v_iload C 5 dX12_spareOf_114 rfl ?_
        obtain ⟨g8, h⟩ := gd_h h
        refine v_iald C kk118 ll118 g8 dX12_spareOf_116 ?_
        refine v_icmp_ne C 124 dX12_spareOf_117 (by decide) (fun c9 => ?_) (fun c9 => ?_)
        · replace h := (ite_h h).2 c9
          refine v_sub [0, 1, 2, 3, 5] rfl ?_
          exact v_Mo_spareOf_b124 C K hk45 hk82 h
        · replace h := (ite_h h).1 c9
          refine v_iconst C 1 dX12_spareOf_120 rfl ?_
          refine v_goto C 125 dX12_spareOf_121 (by decide) ?_
          refine v_sub [0, 1, 2, 3, 5] rfl ?_
          exact v_Mo_spareOf_b125 C K hk45 hk82 h
def f_Mo_spareOf_l82 (k45 : Int32 → Int32 → Int32 → Mem → Option (Int32 × Mem)) : Nat → Int32 → Int32 → Int32 → Int32 → Int32 → Mem → Option (Int32 × Mem)
  | 0, _, _, _, _, _, _ => none
  | n + 1, a1, a2, a3, a4, a5, M => f_Mo_spareOf_l82B k45 (f_Mo_spareOf_l82 k45 n) a1 a2 a3 a4 a5 M
theorem v_Mo_spareOf_l82 {S : SE} {X : MX} {q : (Int32 × Mem)} {k45 : Int32 → Int32 → Int32 → Mem → Option (Int32 × Mem)} (C : CX S X cX12_spareOf 6 RX12 7) (K : RT S X (some .int) (some (.int q.1)) q.2) (hk45 : ∀ (a1 : Int32) (a2 : Int32) (a3 : Int32) (M : Mem), k45 a1 a2 a3 M = some q → V S X 6 M 45 [(0, .ref (S.2.1 91)), (1, .int a1), (2, .int a2), (3, .int a3)] []) : ∀ (n : Nat) (a1 : Int32) (a2 : Int32) (a3 : Int32) (a4 : Int32) (a5 : Int32) (M : Mem), f_Mo_spareOf_l82 k45 n a1 a2 a3 a4 a5 M = some q → V S X 6 M 82 [(0, .ref (S.2.1 91)), (1, .int a1), (2, .int a2), (3, .int a3), (4, .int a4), (5, .int a5)] [] := by
  intro n
  induction n with
  | zero => intro a1 a2 a3 a4 a5 M h; cases h
  | succ n ih => intro a1 a2 a3 a4 a5 M h; exact v_Mo_spareOf_l82B C K hk45 ih h
def f_Mo_spareOf_b77 (k45 : Int32 → Int32 → Int32 → Mem → Option (Int32 × Mem)) (a1 : Int32) (a2 : Int32) (a3 : Int32) (s0 : Int32) (M : Mem) : Option (Int32 × Mem) :=
  f_Mo_spareOf_l82 k45 FU a1 a2 a3 s0 0 M
set_option maxRecDepth 20000 in
theorem v_Mo_spareOf_b77 {S : SE} {X : MX} {q : (Int32 × Mem)} {k45 : Int32 → Int32 → Int32 → Mem → Option (Int32 × Mem)} {a1 : Int32} {a2 : Int32} {a3 : Int32} {s0 : Int32} {M : Mem} (C : CX S X cX12_spareOf 6 RX12 7) (K : RT S X (some .int) (some (.int q.1)) q.2) (hk45 : ∀ (a1 : Int32) (a2 : Int32) (a3 : Int32) (M : Mem), k45 a1 a2 a3 M = some q → V S X 6 M 45 [(0, .ref (S.2.1 91)), (1, .int a1), (2, .int a2), (3, .int a3)] []) (h : f_Mo_spareOf_b77 k45 a1 a2 a3 s0 M = some q) : V S X 6 M 77 [(0, .ref (S.2.1 91)), (1, .int a1), (2, .int a2), (3, .int a3)] [.int s0] := by
  unfold f_Mo_spareOf_b77 at h
  refine v_istore C [(4, .int s0), (0, .ref (S.2.1 91)), (1, .int a1), (2, .int a2), (3, .int a3)] dX12_spareOf_77 (by decide) rfl ?_
  refine v_iconst C 0 dX12_spareOf_79 rfl ?_
  refine v_istore C [(5, .int 0), (4, .int s0), (0, .ref (S.2.1 91)), (1, .int a1), (2, .int a2), (3, .int a3)] dX12_spareOf_80 (by decide) rfl ?_
  refine v_sub [2, 3, 4, 5, 1, 0] rfl ?_
  exact v_Mo_spareOf_l82 C K hk45 FU _ _ _ _ _ _ h
def f_Mo_spareOf_l45B (k45 : Int32 → Int32 → Int32 → Mem → Option (Int32 × Mem)) (a1 : Int32) (a2 : Int32) (a3 : Int32) (M : Mem) : Option (Int32 × Mem) :=
  if (M 91 6) ≤ a3 then
    some (a2, M)
  else
    bnd (mset M 91 11 a3) fun M3 =>
    (f_Mo_rowByRow M3).bind fun q4 =>
    if (q4 100 (0 : Int32).toNatClampNeg) = a1 then
      f_Mo_spareOf_b77 k45 a1 a2 a3 1 q4
    else
      f_Mo_spareOf_b77 k45 a1 a2 a3 0 q4
set_option maxRecDepth 20000 in
theorem v_Mo_spareOf_l45B {S : SE} {X : MX} {q : (Int32 × Mem)} {k45 : Int32 → Int32 → Int32 → Mem → Option (Int32 × Mem)} {a1 : Int32} {a2 : Int32} {a3 : Int32} {M : Mem} (C : CX S X cX12_spareOf 6 RX12 7) (K : RT S X (some .int) (some (.int q.1)) q.2) (hk45 : ∀ (a1 : Int32) (a2 : Int32) (a3 : Int32) (M : Mem), k45 a1 a2 a3 M = some q → V S X 6 M 45 [(0, .ref (S.2.1 91)), (1, .int a1), (2, .int a2), (3, .int a3)] []) (h : f_Mo_spareOf_l45B k45 a1 a2 a3 M = some q) : V S X 6 M 45 [(0, .ref (S.2.1 91)), (1, .int a1), (2, .int a2), (3, .int a3)] [] := by
  unfold f_Mo_spareOf_l45B at h
  refine v_iload_n C 3 dX12_spareOf_45 rfl ?_
  refine v_aload_n C 0 dX12_spareOf_46 rfl ?_
  refine g_Mo_stepsTold C kk91 fl_X12_145 dX12_spareOf_47 ?_
  refine v_icmp_ge C 154 dX12_spareOf_50 (by decide) (fun c14 => ?_) (fun c14 => ?_)
  · replace h := (ite_h h).1 c14
    refine v_iload_n C 2 dX12_spareOf_154 rfl ?_
    obtain rfl := Option.some.inj h
    exact v_iret C K dX12_spareOf_155
  · replace h := (ite_h h).2 c14
    refine v_aload_n C 0 dX12_spareOf_53 rfl ?_
    refine v_iload_n C 3 dX12_spareOf_54 rfl ?_
    refine p_Mo_without C kk91 fl_X12_190 dX12_spareOf_55 ?_
    refine v_nmm h (fun M3 h => ?_)
    refine v_aload_n C 0 dX12_spareOf_58 rfl ?_
    obtain ⟨q4, hq4, h⟩ := Option.bind_eq_some_iff.mp h
    refine cv12v C [] kk91 (m_Mo_rowByRow C.inj M3 q4 hq4) ci_Mo_rowByRow rfl lk_X12_283 (by decide) rfl rfl (Nat.le_of_ble_eq_true rfl) dX12_spareOf_59 ?_
    refine v_aload_n C 0 dX12_spareOf_62 rfl ?_
    refine g_Mo_errorAt C kk91 fl_X12_34 dX12_spareOf_63 ?_
    refine v_iconst C 0 dX12_spareOf_66 rfl ?_
    refine v_iald C kk100 ll100 (by decide) dX12_spareOf_67 ?_
    refine v_iload_n C 1 dX12_spareOf_68 rfl ?_
    refine v_icmp_ne C 76 dX12_spareOf_69 (by decide) (fun c13 => ?_) (fun c13 => ?_)
    · replace h := (ite_h h).2 c13
      refine v_iconst C 0 dX12_spareOf_76 rfl ?_
      exact v_Mo_spareOf_b77 C K hk45 h
    · replace h := (ite_h h).1 c13
      refine v_iconst C 1 dX12_spareOf_72 rfl ?_
      refine v_goto C 77 dX12_spareOf_73 (by decide) ?_
      exact v_Mo_spareOf_b77 C K hk45 h
def f_Mo_spareOf_l45 : Nat → Int32 → Int32 → Int32 → Mem → Option (Int32 × Mem)
  | 0, _, _, _, _ => none
  | n + 1, a1, a2, a3, M => f_Mo_spareOf_l45B (f_Mo_spareOf_l45 n) a1 a2 a3 M
theorem v_Mo_spareOf_l45 {S : SE} {X : MX} {q : (Int32 × Mem)} (C : CX S X cX12_spareOf 6 RX12 7) (K : RT S X (some .int) (some (.int q.1)) q.2) : ∀ (n : Nat) (a1 : Int32) (a2 : Int32) (a3 : Int32) (M : Mem), f_Mo_spareOf_l45 n a1 a2 a3 M = some q → V S X 6 M 45 [(0, .ref (S.2.1 91)), (1, .int a1), (2, .int a2), (3, .int a3)] [] := by
  intro n
  induction n with
  | zero => intro a1 a2 a3 M h; cases h
  | succ n ih => intro a1 a2 a3 M h; exact v_Mo_spareOf_l45B C K ih h
def f_Mo_spareOf_l15B (k15 : Int32 → Int32 → Int32 → Mem → Option (Int32 × Mem)) (a1 : Int32) (a2 : Int32) (a3 : Int32) (M : Mem) : Option (Int32 × Mem) :=
  if (M 95 (0 : Int32).toNatClampNeg) ≤ a3 then
    f_Mo_spareOf_l45 FU a1 a2 0 M
  else
    if gin a3 20 then
      if gin a3 10 then
        bnd (mset M 118 a3.toNatClampNeg (M 101 a3.toNatClampNeg)) fun M17 =>
        k15 a1 a2 (a3 + 1) M17
      else none
    else none
set_option maxRecDepth 20000 in
theorem v_Mo_spareOf_l15B {S : SE} {X : MX} {q : (Int32 × Mem)} {k15 : Int32 → Int32 → Int32 → Mem → Option (Int32 × Mem)} {a1 : Int32} {a2 : Int32} {a3 : Int32} {M : Mem} (C : CX S X cX12_spareOf 6 RX12 7) (K : RT S X (some .int) (some (.int q.1)) q.2) (hk15 : ∀ (a1 : Int32) (a2 : Int32) (a3 : Int32) (M : Mem), k15 a1 a2 a3 M = some q → V S X 6 M 15 [(0, .ref (S.2.1 91)), (1, .int a1), (2, .int a2), (3, .int a3)] []) (h : f_Mo_spareOf_l15B k15 a1 a2 a3 M = some q) : V S X 6 M 15 [(0, .ref (S.2.1 91)), (1, .int a1), (2, .int a2), (3, .int a3)] [] := by
  unfold f_Mo_spareOf_l15B at h
  refine v_iload_n C 3 dX12_spareOf_15 rfl ?_
  refine v_aload_n C 0 dX12_spareOf_16 rfl ?_
  refine g_Mo_rows C kk91 fl_X12_19 dX12_spareOf_17 ?_
  refine v_iconst C 0 dX12_spareOf_20 rfl ?_
  refine v_iald C kk95 ll95 (by decide) dX12_spareOf_21 ?_
  refine v_icmp_ge C 43 dX12_spareOf_22 (by decide) (fun c18 => ?_) (fun c18 => ?_)
  · replace h := (ite_h h).1 c18
    refine v_iconst C 0 dX12_spareOf_43 rfl ?_
    refine v_istore_n C [(3, .int 0), (0, .ref (S.2.1 91)), (1, .int a1), (2, .int a2)] dX12_spareOf_44 (by decide) rfl ?_
    refine v_sub [1, 2, 3, 0] rfl ?_
    exact v_Mo_spareOf_l45 C K FU _ _ _ _ h
  · replace h := (ite_h h).2 c18
    refine v_aload_n C 0 dX12_spareOf_25 rfl ?_
    refine g_Mo_ownAnswers C kk91 fl_X12_88 dX12_spareOf_26 ?_
    refine v_iload_n C 3 dX12_spareOf_29 rfl ?_
    refine v_aload_n C 0 dX12_spareOf_30 rfl ?_
    refine g_Mo_answers C kk91 fl_X12_37 dX12_spareOf_31 ?_
    refine v_iload_n C 3 dX12_spareOf_34 rfl ?_
    obtain ⟨g15, h⟩ := gd_h h
    refine v_iald C kk101 ll101 g15 dX12_spareOf_35 ?_
    obtain ⟨g16, h⟩ := gd_h h
    refine v_iast C kk118 ll118 g16 dX12_spareOf_36 ?_
    refine v_nmm h (fun M17 h => ?_)
    refine v_iinc C [(3, .int (a3 + 1)), (0, .ref (S.2.1 91)), (1, .int a1), (2, .int a2)] 3 (a3 + 1) dX12_spareOf_37 rfl rfl (by decide) rfl ?_
    refine v_goto C 15 dX12_spareOf_40 (by decide) ?_
    refine v_sub [1, 2, 3, 0] rfl ?_
    exact hk15 _ _ _ _ h
def f_Mo_spareOf_l15 : Nat → Int32 → Int32 → Int32 → Mem → Option (Int32 × Mem)
  | 0, _, _, _, _ => none
  | n + 1, a1, a2, a3, M => f_Mo_spareOf_l15B (f_Mo_spareOf_l15 n) a1 a2 a3 M
theorem v_Mo_spareOf_l15 {S : SE} {X : MX} {q : (Int32 × Mem)} (C : CX S X cX12_spareOf 6 RX12 7) (K : RT S X (some .int) (some (.int q.1)) q.2) : ∀ (n : Nat) (a1 : Int32) (a2 : Int32) (a3 : Int32) (M : Mem), f_Mo_spareOf_l15 n a1 a2 a3 M = some q → V S X 6 M 15 [(0, .ref (S.2.1 91)), (1, .int a1), (2, .int a2), (3, .int a3)] [] := by
  intro n
  induction n with
  | zero => intro a1 a2 a3 M h; cases h
  | succ n ih => intro a1 a2 a3 M h; exact v_Mo_spareOf_l15B C K ih h
def f_Mo_spareOf (M : Mem) : Option (Int32 × Mem) :=
  (f_Mo_runsTold M).bind fun q1 =>
  bnd (q1 100 (0 : Int32).toNatClampNeg) fun x2 =>
  f_Mo_spareOf_l15 FU x2 0 0 q1
set_option maxRecDepth 20000 in
theorem v_Mo_spareOf {S : SE} {X : MX} {q : (Int32 × Mem)} {M : Mem} (C : CX S X cX12_spareOf 6 RX12 7) (K : RT S X (some .int) (some (.int q.1)) q.2) (h : f_Mo_spareOf M = some q) : V S X 6 M 0 [(0, .ref (S.2.1 91))] [] := by
  unfold f_Mo_spareOf at h
  refine v_aload_n C 0 dX12_spareOf_0 rfl ?_
  obtain ⟨q1, hq1, h⟩ := Option.bind_eq_some_iff.mp h
  refine cv12v C [] kk91 (m_Mo_runsTold C.inj M q1 hq1) ci_Mo_runsTold rfl lk_X12_292 (by decide) rfl rfl (Nat.le_of_ble_eq_true rfl) dX12_spareOf_1 ?_
  refine v_aload_n C 0 dX12_spareOf_4 rfl ?_
  refine g_Mo_errorAt C kk91 fl_X12_34 dX12_spareOf_5 ?_
  refine v_iconst C 0 dX12_spareOf_8 rfl ?_
  refine v_iald C kk100 ll100 (by decide) dX12_spareOf_9 ?_
  refine v_nmi h (fun x2 h => ?_)
  refine v_istore_n C [(1, .int x2), (0, .ref (S.2.1 91))] dX12_spareOf_10 (by decide) rfl ?_
  refine v_iconst C 0 dX12_spareOf_11 rfl ?_
  refine v_istore_n C [(2, .int 0), (1, .int x2), (0, .ref (S.2.1 91))] dX12_spareOf_12 (by decide) rfl ?_
  refine v_iconst C 0 dX12_spareOf_13 rfl ?_
  refine v_istore_n C [(3, .int 0), (2, .int 0), (1, .int x2), (0, .ref (S.2.1 91))] dX12_spareOf_14 (by decide) rfl ?_
  refine v_sub [3, 2, 1, 0] rfl ?_
  exact v_Mo_spareOf_l15 C K FU _ _ _ _ h
theorem m_Mo_spareOf {S : SE} (hI : Inj S) (M : Mem) (q : (Int32 × Mem)) (h : f_Mo_spareOf M = some q) : CM S yX12_spareOf cX12_spareOf 6 (some .int) 7 [.ref (S.2.1 91)] M (some (.int q.1)) q.2 :=
  CM.of [(0, .ref (S.2.1 91))] hI (by decide) rfl (Nat.le_of_ble_eq_true rfl) (fun X C K => v_Mo_spareOf C K  h)
def f_Mo_spare (M : Mem) : Option (Int32 × Mem) :=
  (f_Mo_spareOf M).bind fun q1 =>
  some (q1.1, q1.2)
set_option maxRecDepth 20000 in
theorem v_Mo_spare {S : SE} {X : MX} {q : (Int32 × Mem)} {M : Mem} (C : CX S X cX12_spare 1 RX12 8) (K : RT S X (some .int) (some (.int q.1)) q.2) (h : f_Mo_spare M = some q) : V S X 1 M 0 [(0, .ref (S.2.1 91))] [] := by
  unfold f_Mo_spare at h
  refine v_aload_n C 0 dX12_spare_0 rfl ?_
  obtain ⟨q1, hq1, h⟩ := Option.bind_eq_some_iff.mp h
  refine cv12 C [] kk91 (m_Mo_spareOf C.inj M q1 hq1) ci_Mo_spareOf rfl lk_X12_328 (by decide) rfl rfl (Nat.le_of_ble_eq_true rfl) dX12_spare_1 ?_
  obtain rfl := Option.some.inj h
  exact v_iret C K dX12_spare_4
theorem m_Mo_spare {S : SE} (hI : Inj S) (M : Mem) (q : (Int32 × Mem)) (h : f_Mo_spare M = some q) : CM S yX12_spare cX12_spare 1 (some .int) 8 [.ref (S.2.1 91)] M (some (.int q.1)) q.2 :=
  CM.of [(0, .ref (S.2.1 91))] hI (by decide) rfl (Nat.le_of_ble_eq_true rfl) (fun X C K => v_Mo_spare C K  h)
def f_Mo_sheet_b22 (M : Mem) : Option (Int32 × Mem) :=
  some ((-2), M)
set_option maxRecDepth 20000 in
theorem v_Mo_sheet_b22 {S : SE} {X : MX} {q : (Int32 × Mem)} {M : Mem} (C : CX S X cX12_sheet 5 RX12 2) (K : RT S X (some .int) (some (.int q.1)) q.2) (h : f_Mo_sheet_b22 M = some q) : V S X 5 M 22 [] [] := by
  unfold f_Mo_sheet_b22 at h
  refine v_bipush C (-2) dX12_sheet_22 rfl ?_
  obtain rfl := Option.some.inj h
  exact v_iret C K dX12_sheet_24
def f_Mo_sheet_l59B (k59 : Int32 → Int32 → Int32 → Mem → Option (Int32 × Mem)) (a1 : Int32) (a3 : Int32) (a4 : Int32) (M : Mem) : Option (Int32 × Mem) :=
  if 60 ≤ a4 then
    some (a3, M)
  else
    if gin ((60 * a1) + a4) 240 then
      bnd (mset M 122 ((60 * a1) + a4).toNatClampNeg 0) fun M8 =>
      k59 a1 a3 (a4 + 1) M8
    else none
set_option maxRecDepth 20000 in
theorem v_Mo_sheet_l59B {S : SE} {X : MX} {q : (Int32 × Mem)} {k59 : Int32 → Int32 → Int32 → Mem → Option (Int32 × Mem)} {a1 : Int32} {a3 : Int32} {a4 : Int32} {M : Mem} (C : CX S X cX12_sheet 5 RX12 2) (K : RT S X (some .int) (some (.int q.1)) q.2) (hk59 : ∀ (a1 : Int32) (a3 : Int32) (a4 : Int32) (M : Mem), k59 a1 a3 a4 M = some q → V S X 5 M 59 [(0, .ref (S.2.1 91)), (1, .int a1), (3, .int a3), (4, .int a4)] []) (h : f_Mo_sheet_l59B k59 a1 a3 a4 M = some q) : V S X 5 M 59 [(0, .ref (S.2.1 91)), (1, .int a1), (3, .int a3), (4, .int a4)] [] := by
  unfold f_Mo_sheet_l59B at h
  refine v_iload C 3 dX12_sheet_59 rfl ?_
  refine v_bipush C 60 dX12_sheet_61 rfl ?_
  refine v_icmp_ge C 85 dX12_sheet_63 (by decide) (fun c9 => ?_) (fun c9 => ?_)
  · replace h := (ite_h h).1 c9
    refine v_iload_n C 2 dX12_sheet_85 rfl ?_
    obtain rfl := Option.some.inj h
    exact v_iret C K dX12_sheet_86
  · replace h := (ite_h h).2 c9
    refine v_aload_n C 0 dX12_sheet_66 rfl ?_
    refine g_Mo_items C kk91 fl_X12_101 dX12_sheet_67 ?_
    refine v_bipush C 60 dX12_sheet_70 rfl ?_
    refine v_iload_n C 1 dX12_sheet_72 rfl ?_
    refine v_imul C dX12_sheet_73 ?_
    refine v_iload C 3 dX12_sheet_74 rfl ?_
    refine v_iadd C dX12_sheet_76 ?_
    refine v_iconst C 0 dX12_sheet_77 rfl ?_
    obtain ⟨g7, h⟩ := gd_h h
    refine v_iast C kk122 ll122 g7 dX12_sheet_78 ?_
    refine v_nmm h (fun M8 h => ?_)
    refine v_iinc C [(4, .int (a4 + 1)), (0, .ref (S.2.1 91)), (1, .int a1), (3, .int a3)] 3 (a4 + 1) dX12_sheet_79 rfl rfl (by decide) rfl ?_
    refine v_goto C 59 dX12_sheet_82 (by decide) ?_
    refine v_sub [1, 2, 3, 0] rfl ?_
    exact hk59 _ _ _ _ h
def f_Mo_sheet_l59 : Nat → Int32 → Int32 → Int32 → Mem → Option (Int32 × Mem)
  | 0, _, _, _, _ => none
  | n + 1, a1, a3, a4, M => f_Mo_sheet_l59B (f_Mo_sheet_l59 n) a1 a3 a4 M
theorem v_Mo_sheet_l59 {S : SE} {X : MX} {q : (Int32 × Mem)} (C : CX S X cX12_sheet 5 RX12 2) (K : RT S X (some .int) (some (.int q.1)) q.2) : ∀ (n : Nat) (a1 : Int32) (a3 : Int32) (a4 : Int32) (M : Mem), f_Mo_sheet_l59 n a1 a3 a4 M = some q → V S X 5 M 59 [(0, .ref (S.2.1 91)), (1, .int a1), (3, .int a3), (4, .int a4)] [] := by
  intro n
  induction n with
  | zero => intro a1 a3 a4 M h; cases h
  | succ n ih => intro a1 a3 a4 M h; exact v_Mo_sheet_l59B C K ih h
def f_Mo_sheet (M : Mem) (a1 : Int32) (a2 : Int32) (a3 : Int32) : Option (Int32 × Mem) :=
  if (f_Mo_isSheet a1) = 0 then
    f_Mo_sheet_b22 M
  else
    if (f_Mo_in a2 0 2) = 0 then
      f_Mo_sheet_b22 M
    else
      if a3 ≤ 60 then
        if 0 ≤ a3 then
          if gin a1 4 then
            bnd (mset M 119 a1.toNatClampNeg 1) fun M2 =>
            if gin a1 4 then
              bnd (mset M2 120 a1.toNatClampNeg a2) fun M4 =>
              if gin a1 4 then
                bnd (mset M4 121 a1.toNatClampNeg a3) fun M6 =>
                f_Mo_sheet_l59 FU a1 a3 0 M6
              else none
            else none
          else none
        else
          bnd (f_Mo_meets M 5) fun q10 =>
          some (q10.1, q10.2)
      else
        f_Mo_sheet_b22 M
set_option maxRecDepth 20000 in
theorem v_Mo_sheet {S : SE} {X : MX} {q : (Int32 × Mem)} {M : Mem} {a1 : Int32} {a2 : Int32} {a3 : Int32} (C : CX S X cX12_sheet 5 RX12 2) (K : RT S X (some .int) (some (.int q.1)) q.2) (h : f_Mo_sheet M a1 a2 a3 = some q) : V S X 5 M 0 [(0, .ref (S.2.1 91)), (1, .int a1), (2, .int a2), (3, .int a3)] [] := by
  unfold f_Mo_sheet at h
  refine v_iload_n C 1 dX12_sheet_0 rfl ?_
  refine cs C [] (m_Mo_isSheet C.inj M a1 _ rfl) ci_Mo_isSheet lk_X12_129 (by decide) rfl rfl (Nat.le_of_ble_eq_true rfl) dX12_sheet_1 ?_
  refine v_if_eq C 22 dX12_sheet_4 (by decide) (fun c14 => ?_) (fun c14 => ?_)
  · replace h := (ite_h h).1 c14
    refine v_sub [] rfl ?_
    exact v_Mo_sheet_b22 C K h
  · replace h := (ite_h h).2 c14
    refine v_iload_n C 2 dX12_sheet_7 rfl ?_
    refine v_iconst C 0 dX12_sheet_8 rfl ?_
    refine v_iconst C 2 dX12_sheet_9 rfl ?_
    refine cs C [] (m_Mo_in C.inj M a2 0 2 _ rfl) ci_Mo_in lk_X12_107 (by decide) rfl rfl (Nat.le_of_ble_eq_true rfl) dX12_sheet_10 ?_
    refine v_if_eq C 22 dX12_sheet_13 (by decide) (fun c13 => ?_) (fun c13 => ?_)
    · replace h := (ite_h h).1 c13
      refine v_sub [] rfl ?_
      exact v_Mo_sheet_b22 C K h
    · replace h := (ite_h h).2 c13
      refine v_iload_n C 3 dX12_sheet_16 rfl ?_
      refine v_bipush C 60 dX12_sheet_17 rfl ?_
      refine v_icmp_le C 25 dX12_sheet_19 (by decide) (fun c12 => ?_) (fun c12 => ?_)
      · replace h := (ite_h h).1 c12
        refine v_iload_n C 3 dX12_sheet_25 rfl ?_
        refine v_if_ge C 35 dX12_sheet_26 (by decide) (fun c11 => ?_) (fun c11 => ?_)
        · replace h := (ite_h h).1 c11
          refine v_aload_n C 0 dX12_sheet_35 rfl ?_
          refine g_Mo_isThere C kk91 fl_X12_91 dX12_sheet_36 ?_
          refine v_iload_n C 1 dX12_sheet_39 rfl ?_
          refine v_iconst C 1 dX12_sheet_40 rfl ?_
          obtain ⟨g1, h⟩ := gd_h h
          refine v_zast C kk119 ll119 g1 (Or.inr rfl) dX12_sheet_41 ?_
          refine v_nmm h (fun M2 h => ?_)
          refine v_aload_n C 0 dX12_sheet_42 rfl ?_
          refine g_Mo_forms C kk91 fl_X12_95 dX12_sheet_43 ?_
          refine v_iload_n C 1 dX12_sheet_46 rfl ?_
          refine v_iload_n C 2 dX12_sheet_47 rfl ?_
          obtain ⟨g3, h⟩ := gd_h h
          refine v_iast C kk120 ll120 g3 dX12_sheet_48 ?_
          refine v_nmm h (fun M4 h => ?_)
          refine v_aload_n C 0 dX12_sheet_49 rfl ?_
          refine g_Mo_sizes C kk91 fl_X12_98 dX12_sheet_50 ?_
          refine v_iload_n C 1 dX12_sheet_53 rfl ?_
          refine v_iload_n C 3 dX12_sheet_54 rfl ?_
          obtain ⟨g5, h⟩ := gd_h h
          refine v_iast C kk121 ll121 g5 dX12_sheet_55 ?_
          refine v_nmm h (fun M6 h => ?_)
          refine v_iconst C 0 dX12_sheet_56 rfl ?_
          refine v_istore C [(4, .int 0), (0, .ref (S.2.1 91)), (1, .int a1), (2, .int a2), (3, .int a3)] dX12_sheet_57 (by decide) rfl ?_
          refine v_sub [1, 2, 4, 0] rfl ?_
          exact v_Mo_sheet_l59 C K FU _ _ _ _ h
        · replace h := (ite_h h).2 c11
          refine v_aload_n C 0 dX12_sheet_29 rfl ?_
          refine v_iconst C 5 dX12_sheet_30 rfl ?_
          obtain ⟨q10, hq10, h⟩ := bnd_ex h
          refine cv12 C [] kk91 (m_Mo_meets C.inj M 5 q10 hq10) ci_Mo_meets rfl lk_X12_132 (by decide) rfl rfl (Nat.le_of_ble_eq_true rfl) dX12_sheet_31 ?_
          obtain rfl := Option.some.inj h
          exact v_iret C K dX12_sheet_34
      · replace h := (ite_h h).2 c12
        refine v_sub [] rfl ?_
        exact v_Mo_sheet_b22 C K h
theorem m_Mo_sheet {S : SE} (hI : Inj S) (M : Mem) (a1 : Int32) (a2 : Int32) (a3 : Int32) (q : (Int32 × Mem)) (h : f_Mo_sheet M a1 a2 a3 = some q) : CM S yX12_sheet cX12_sheet 5 (some .int) 2 [.ref (S.2.1 91), .int a1, .int a2, .int a3] M (some (.int q.1)) q.2 :=
  CM.of [(0, .ref (S.2.1 91)), (1, .int a1), (2, .int a2), (3, .int a3)] hI (by decide) rfl (Nat.le_of_ble_eq_true rfl) (fun X C K => v_Mo_sheet C K  h)
def f_Mo_lose (M : Mem) (a1 : Int32) : Option (Int32 × Mem) :=
  if (f_Mo_isSheet a1) = 0 then
    some ((-2), M)
  else
    if gin a1 4 then
      if (M 119 a1.toNatClampNeg) = 0 then
        bnd (f_Mo_meets M 1) fun q5 =>
        some (q5.1, q5.2)
      else
        if gin a1 4 then
          bnd (mset M 119 a1.toNatClampNeg 0) fun M3 =>
          if gin a1 4 then
            some ((M3 121 a1.toNatClampNeg), M3)
          else none
        else none
    else none
set_option maxRecDepth 20000 in
theorem v_Mo_lose {S : SE} {X : MX} {q : (Int32 × Mem)} {M : Mem} {a1 : Int32} (C : CX S X cX12_lose 2 RX12 2) (K : RT S X (some .int) (some (.int q.1)) q.2) (h : f_Mo_lose M a1 = some q) : V S X 2 M 0 [(0, .ref (S.2.1 91)), (1, .int a1)] [] := by
  unfold f_Mo_lose at h
  refine v_iload_n C 1 dX12_lose_0 rfl ?_
  refine cs C [] (m_Mo_isSheet C.inj M a1 _ rfl) ci_Mo_isSheet lk_X12_129 (by decide) rfl rfl (Nat.le_of_ble_eq_true rfl) dX12_lose_1 ?_
  refine v_if_ne C 10 dX12_lose_4 (by decide) (fun c7 => ?_) (fun c7 => ?_)
  · replace h := (ite_h h).2 c7
    refine v_aload_n C 0 dX12_lose_10 rfl ?_
    refine g_Mo_isThere C kk91 fl_X12_91 dX12_lose_11 ?_
    refine v_iload_n C 1 dX12_lose_14 rfl ?_
    obtain ⟨g1, h⟩ := gd_h h
    refine v_zald C kk119 ll119 g1 dX12_lose_15 ?_
    refine v_if_ne C 25 dX12_lose_16 (by decide) (fun c6 => ?_) (fun c6 => ?_)
    · replace h := (ite_h h).2 c6
      refine v_aload_n C 0 dX12_lose_25 rfl ?_
      refine g_Mo_isThere C kk91 fl_X12_91 dX12_lose_26 ?_
      refine v_iload_n C 1 dX12_lose_29 rfl ?_
      refine v_iconst C 0 dX12_lose_30 rfl ?_
      obtain ⟨g2, h⟩ := gd_h h
      refine v_zast C kk119 ll119 g2 (Or.inl rfl) dX12_lose_31 ?_
      refine v_nmm h (fun M3 h => ?_)
      refine v_aload_n C 0 dX12_lose_32 rfl ?_
      refine g_Mo_sizes C kk91 fl_X12_98 dX12_lose_33 ?_
      refine v_iload_n C 1 dX12_lose_36 rfl ?_
      obtain ⟨g4, h⟩ := gd_h h
      refine v_iald C kk121 ll121 g4 dX12_lose_37 ?_
      obtain rfl := Option.some.inj h
      exact v_iret C K dX12_lose_38
    · replace h := (ite_h h).1 c6
      refine v_aload_n C 0 dX12_lose_19 rfl ?_
      refine v_iconst C 1 dX12_lose_20 rfl ?_
      obtain ⟨q5, hq5, h⟩ := bnd_ex h
      refine cv12 C [] kk91 (m_Mo_meets C.inj M 1 q5 hq5) ci_Mo_meets rfl lk_X12_132 (by decide) rfl rfl (Nat.le_of_ble_eq_true rfl) dX12_lose_21 ?_
      obtain rfl := Option.some.inj h
      exact v_iret C K dX12_lose_24
  · replace h := (ite_h h).1 c7
    refine v_bipush C (-2) dX12_lose_7 rfl ?_
    obtain rfl := Option.some.inj h
    exact v_iret C K dX12_lose_9
theorem m_Mo_lose {S : SE} (hI : Inj S) (M : Mem) (a1 : Int32) (q : (Int32 × Mem)) (h : f_Mo_lose M a1 = some q) : CM S yX12_lose cX12_lose 2 (some .int) 2 [.ref (S.2.1 91), .int a1] M (some (.int q.1)) q.2 :=
  CM.of [(0, .ref (S.2.1 91)), (1, .int a1)] hI (by decide) rfl (Nat.le_of_ble_eq_true rfl) (fun X C K => v_Mo_lose C K  h)
def f_Mo_lacks (M : Mem) (a1 : Int32) (a2 : Int32) (a3 : Int32) : Option Int32 :=
  if gin a1 4 then
    if (M 119 a1.toNatClampNeg) = 0 then
      some 1
    else
      if gin a1 4 then
        if (M 120 a1.toNatClampNeg) = a2 then
          if gin a1 4 then
            if (f_Mo_in a3 0 ((M 121 a1.toNatClampNeg) - 1)) = 0 then
              some 2
            else
              some 0
          else none
        else
          some 3
      else none
  else none
set_option maxRecDepth 20000 in
theorem v_Mo_lacks {S : SE} {X : MX} {q : Int32} {M : Mem} {a1 : Int32} {a2 : Int32} {a3 : Int32} (C : CX S X cX12_lacks 4 RX12 1) (K : RT S X (some .int) (some (.int q)) M) (h : f_Mo_lacks M a1 a2 a3 = some q) : V S X 4 M 0 [(0, .ref (S.2.1 91)), (1, .int a1), (2, .int a2), (3, .int a3)] [] := by
  unfold f_Mo_lacks at h
  refine v_aload_n C 0 dX12_lacks_0 rfl ?_
  refine g_Mo_isThere C kk91 fl_X12_91 dX12_lacks_1 ?_
  refine v_iload_n C 1 dX12_lacks_4 rfl ?_
  obtain ⟨g1, h⟩ := gd_h h
  refine v_zald C kk119 ll119 g1 dX12_lacks_5 ?_
  refine v_if_ne C 13 dX12_lacks_6 (by decide) (fun c6 => ?_) (fun c6 => ?_)
  · replace h := (ite_h h).2 c6
    refine v_aload_n C 0 dX12_lacks_13 rfl ?_
    refine g_Mo_forms C kk91 fl_X12_95 dX12_lacks_14 ?_
    refine v_iload_n C 1 dX12_lacks_17 rfl ?_
    obtain ⟨g2, h⟩ := gd_h h
    refine v_iald C kk120 ll120 g2 dX12_lacks_18 ?_
    refine v_iload_n C 2 dX12_lacks_19 rfl ?_
    refine v_icmp_eq C 27 dX12_lacks_20 (by decide) (fun c5 => ?_) (fun c5 => ?_)
    · replace h := (ite_h h).1 c5
      refine v_iload_n C 3 dX12_lacks_27 rfl ?_
      refine v_iconst C 0 dX12_lacks_28 rfl ?_
      refine v_aload_n C 0 dX12_lacks_29 rfl ?_
      refine g_Mo_sizes C kk91 fl_X12_98 dX12_lacks_30 ?_
      refine v_iload_n C 1 dX12_lacks_33 rfl ?_
      obtain ⟨g3, h⟩ := gd_h h
      refine v_iald C kk121 ll121 g3 dX12_lacks_34 ?_
      refine v_iconst C 1 dX12_lacks_35 rfl ?_
      refine v_isub C dX12_lacks_36 ?_
      refine cs C [] (m_Mo_in C.inj M a3 0 ((M 121 a1.toNatClampNeg) - 1) _ rfl) ci_Mo_in lk_X12_107 (by decide) rfl rfl (Nat.le_of_ble_eq_true rfl) dX12_lacks_37 ?_
      refine v_if_eq C 47 dX12_lacks_40 (by decide) (fun c4 => ?_) (fun c4 => ?_)
      · replace h := (ite_h h).1 c4
        refine v_iconst C 2 dX12_lacks_47 rfl ?_
        obtain rfl := Option.some.inj h
        exact v_iret C K dX12_lacks_48
      · replace h := (ite_h h).2 c4
        refine v_iconst C 0 dX12_lacks_43 rfl ?_
        refine v_goto C 48 dX12_lacks_44 (by decide) ?_
        obtain rfl := Option.some.inj h
        exact v_iret C K dX12_lacks_48
    · replace h := (ite_h h).2 c5
      refine v_iconst C 3 dX12_lacks_23 rfl ?_
      refine v_goto C 48 dX12_lacks_24 (by decide) ?_
      obtain rfl := Option.some.inj h
      exact v_iret C K dX12_lacks_48
  · replace h := (ite_h h).1 c6
    refine v_iconst C 1 dX12_lacks_9 rfl ?_
    refine v_goto C 48 dX12_lacks_10 (by decide) ?_
    obtain rfl := Option.some.inj h
    exact v_iret C K dX12_lacks_48
theorem m_Mo_lacks {S : SE} (hI : Inj S) (M : Mem) (a1 : Int32) (a2 : Int32) (a3 : Int32) (q : Int32) (h : f_Mo_lacks M a1 a2 a3 = some q) : CM S yX12_lacks cX12_lacks 4 (some .int) 1 [.ref (S.2.1 91), .int a1, .int a2, .int a3] M (some (.int q)) M :=
  CM.of [(0, .ref (S.2.1 91)), (1, .int a1), (2, .int a2), (3, .int a3)] hI (by decide) rfl (Nat.le_of_ble_eq_true rfl) (fun X C K => v_Mo_lacks C K  h)
def f_Mo_keep_b40 (s0 : Int32) (s1 : Int32) (M : Mem) : Option Mem :=
  if gin s1 240 then
    bnd (mset M 122 s1.toNatClampNeg s0) fun M4 =>
    some M4
  else none
set_option maxRecDepth 20000 in
theorem v_Mo_keep_b40 {S : SE} {X : MX} {q : Mem} {s0 : Int32} {s1 : Int32} {M : Mem} (C : CX S X cX12_keep 4 RX12 0) (K : RT S X none none q) (h : f_Mo_keep_b40 s0 s1 M = some q) : V S X 4 M 40 [] [.int s0, .int s1, .ref (S.2.1 122)] := by
  unfold f_Mo_keep_b40 at h
  obtain ⟨g3, h⟩ := gd_h h
  refine v_iast C kk122 ll122 g3 dX12_keep_40 ?_
  refine v_nmm h (fun M4 h => ?_)
  obtain rfl := Option.some.inj h
  exact v_vret C K dX12_keep_41
def f_Mo_keep (M : Mem) (a1 : Int32) (a2 : Int32) (a3 : Int32) : Option Mem :=
  if gin a1 4 then
    if (M 120 a1.toNatClampNeg) = 0 then
      f_Mo_keep_b40 ((Int32.toInt8 a3).toInt32) ((60 * a1) + a2) M
    else
      if gin a1 4 then
        if (M 120 a1.toNatClampNeg) = 1 then
          f_Mo_keep_b40 ((Int32.toInt16 a3).toInt32) ((60 * a1) + a2) M
        else
          f_Mo_keep_b40 a3 ((60 * a1) + a2) M
      else none
  else none
set_option maxRecDepth 20000 in
theorem v_Mo_keep {S : SE} {X : MX} {q : Mem} {M : Mem} {a1 : Int32} {a2 : Int32} {a3 : Int32} (C : CX S X cX12_keep 4 RX12 0) (K : RT S X none none q) (h : f_Mo_keep M a1 a2 a3 = some q) : V S X 4 M 0 [(0, .ref (S.2.1 91)), (1, .int a1), (2, .int a2), (3, .int a3)] [] := by
  unfold f_Mo_keep at h
  refine v_aload_n C 0 dX12_keep_0 rfl ?_
  refine g_Mo_items C kk91 fl_X12_101 dX12_keep_1 ?_
  refine v_bipush C 60 dX12_keep_4 rfl ?_
  refine v_iload_n C 1 dX12_keep_6 rfl ?_
  refine v_imul C dX12_keep_7 ?_
  refine v_iload_n C 2 dX12_keep_8 rfl ?_
  refine v_iadd C dX12_keep_9 ?_
  refine v_aload_n C 0 dX12_keep_10 rfl ?_
  refine g_Mo_forms C kk91 fl_X12_95 dX12_keep_11 ?_
  refine v_iload_n C 1 dX12_keep_14 rfl ?_
  obtain ⟨g1, h⟩ := gd_h h
  refine v_iald C kk120 ll120 g1 dX12_keep_15 ?_
  refine v_if_ne C 24 dX12_keep_16 (by decide) (fun c6 => ?_) (fun c6 => ?_)
  · replace h := (ite_h h).2 c6
    refine v_aload_n C 0 dX12_keep_24 rfl ?_
    refine g_Mo_forms C kk91 fl_X12_95 dX12_keep_25 ?_
    refine v_iload_n C 1 dX12_keep_28 rfl ?_
    obtain ⟨g2, h⟩ := gd_h h
    refine v_iald C kk120 ll120 g2 dX12_keep_29 ?_
    refine v_iconst C 1 dX12_keep_30 rfl ?_
    refine v_icmp_ne C 39 dX12_keep_31 (by decide) (fun c5 => ?_) (fun c5 => ?_)
    · replace h := (ite_h h).2 c5
      refine v_iload_n C 3 dX12_keep_39 rfl ?_
      refine v_sub [] rfl ?_
      exact v_Mo_keep_b40 C K h
    · replace h := (ite_h h).1 c5
      refine v_iload_n C 3 dX12_keep_34 rfl ?_
      refine v_i2s C dX12_keep_35 ?_
      refine v_goto C 40 dX12_keep_36 (by decide) ?_
      refine v_sub [] rfl ?_
      exact v_Mo_keep_b40 C K h
  · replace h := (ite_h h).1 c6
    refine v_iload_n C 3 dX12_keep_19 rfl ?_
    refine v_i2b C dX12_keep_20 ?_
    refine v_goto C 40 dX12_keep_21 (by decide) ?_
    refine v_sub [] rfl ?_
    exact v_Mo_keep_b40 C K h
theorem m_Mo_keep {S : SE} (hI : Inj S) (M : Mem) (a1 : Int32) (a2 : Int32) (a3 : Int32) (q : Mem) (h : f_Mo_keep M a1 a2 a3 = some q) : CM S yX12_keep cX12_keep 4 none 0 [.ref (S.2.1 91), .int a1, .int a2, .int a3] M none q :=
  CM.of [(0, .ref (S.2.1 91)), (1, .int a1), (2, .int a2), (3, .int a3)] hI (by decide) rfl (Nat.le_of_ble_eq_true rfl) (fun X C K => v_Mo_keep C K  h)
def f_Mo_put_b16 (M : Mem) : Option (Int32 × Mem) :=
  some ((-2), M)
set_option maxRecDepth 20000 in
theorem v_Mo_put_b16 {S : SE} {X : MX} {q : (Int32 × Mem)} {M : Mem} (C : CX S X cX12_put 6 RX12 2) (K : RT S X (some .int) (some (.int q.1)) q.2) (h : f_Mo_put_b16 M = some q) : V S X 6 M 16 [] [] := by
  unfold f_Mo_put_b16 at h
  refine v_bipush C (-2) dX12_put_16 rfl ?_
  obtain rfl := Option.some.inj h
  exact v_iret C K dX12_put_18
def f_Mo_put (M : Mem) (a1 : Int32) (a2 : Int32) (a3 : Int32) (a4 : Int32) : Option (Int32 × Mem) :=
  if (f_Mo_isSheet a1) = 0 then
    f_Mo_put_b16 M
  else
    if (f_Mo_in a2 0 2) = 0 then
      f_Mo_put_b16 M
    else
      (f_Mo_lacks M a1 a2 a3).bind fun q1 =>
      if q1 ≤ 0 then
        (f_Mo_keep M a1 a3 a4).bind fun q2 =>
        some (1, q2)
      else
        bnd (f_Mo_meets M q1) fun q3 =>
        some (q3.1, q3.2)
set_option maxRecDepth 20000 in
theorem v_Mo_put {S : SE} {X : MX} {q : (Int32 × Mem)} {M : Mem} {a1 : Int32} {a2 : Int32} {a3 : Int32} {a4 : Int32} (C : CX S X cX12_put 6 RX12 2) (K : RT S X (some .int) (some (.int q.1)) q.2) (h : f_Mo_put M a1 a2 a3 a4 = some q) : V S X 6 M 0 [(0, .ref (S.2.1 91)), (1, .int a1), (2, .int a2), (3, .int a3), (4, .int a4)] [] := by
  unfold f_Mo_put at h
  refine v_iload_n C 1 dX12_put_0 rfl ?_
  refine cs C [] (m_Mo_isSheet C.inj M a1 _ rfl) ci_Mo_isSheet lk_X12_129 (by decide) rfl rfl (Nat.le_of_ble_eq_true rfl) dX12_put_1 ?_
  refine v_if_eq C 16 dX12_put_4 (by decide) (fun c6 => ?_) (fun c6 => ?_)
  · replace h := (ite_h h).1 c6
    refine v_sub [] rfl ?_
    exact v_Mo_put_b16 C K h
  · replace h := (ite_h h).2 c6
    refine v_iload_n C 2 dX12_put_7 rfl ?_
    refine v_iconst C 0 dX12_put_8 rfl ?_
    refine v_iconst C 2 dX12_put_9 rfl ?_
    refine cs C [] (m_Mo_in C.inj M a2 0 2 _ rfl) ci_Mo_in lk_X12_107 (by decide) rfl rfl (Nat.le_of_ble_eq_true rfl) dX12_put_10 ?_
    refine v_if_ne C 19 dX12_put_13 (by decide) (fun c5 => ?_) (fun c5 => ?_)
    · replace h := (ite_h h).2 c5
      refine v_aload_n C 0 dX12_put_19 rfl ?_
      refine v_iload_n C 1 dX12_put_20 rfl ?_
      refine v_iload_n C 2 dX12_put_21 rfl ?_
      refine v_iload_n C 3 dX12_put_22 rfl ?_
      obtain ⟨q1, hq1, h⟩ := Option.bind_eq_some_iff.mp h
      refine cv12 C [] kk91 (m_Mo_lacks C.inj M a1 a2 a3 q1 hq1) ci_Mo_lacks rfl lk_X12_334 (by decide) rfl rfl (Nat.le_of_ble_eq_true rfl) dX12_put_23 ?_
      refine v_istore C [(5, .int q1), (0, .ref (S.2.1 91)), (1, .int a1), (2, .int a2), (3, .int a3), (4, .int a4)] dX12_put_26 (by decide) rfl ?_
      refine v_iload C 0 dX12_put_28 rfl ?_
      refine v_if_le C 40 dX12_put_30 (by decide) (fun c4 => ?_) (fun c4 => ?_)
      · replace h := (ite_h h).1 c4
        refine v_aload_n C 1 dX12_put_40 rfl ?_
        refine v_iload_n C 2 dX12_put_41 rfl ?_
        refine v_iload_n C 4 dX12_put_42 rfl ?_
        refine v_iload C 5 dX12_put_43 rfl ?_
        obtain ⟨q2, hq2, h⟩ := Option.bind_eq_some_iff.mp h
        refine cv12v C [] kk91 (m_Mo_keep C.inj M a1 a3 a4 q2 hq2) ci_Mo_keep rfl lk_X12_337 (by decide) rfl rfl (Nat.le_of_ble_eq_true rfl) dX12_put_45 ?_
        refine v_iconst C 1 dX12_put_48 rfl ?_
        obtain rfl := Option.some.inj h
        exact v_iret C K dX12_put_49
      · replace h := (ite_h h).2 c4
        refine v_aload_n C 1 dX12_put_33 rfl ?_
        refine v_iload C 0 dX12_put_34 rfl ?_
        obtain ⟨q3, hq3, h⟩ := bnd_ex h
        refine cv12 C [] kk91 (m_Mo_meets C.inj M q1 q3 hq3) ci_Mo_meets rfl lk_X12_132 (by decide) rfl rfl (Nat.le_of_ble_eq_true rfl) dX12_put_36 ?_
        obtain rfl := Option.some.inj h
        exact v_iret C K dX12_put_39
    · replace h := (ite_h h).1 c5
      refine v_sub [] rfl ?_
      exact v_Mo_put_b16 C K h
theorem m_Mo_put {S : SE} (hI : Inj S) (M : Mem) (a1 : Int32) (a2 : Int32) (a3 : Int32) (a4 : Int32) (q : (Int32 × Mem)) (h : f_Mo_put M a1 a2 a3 a4 = some q) : CM S yX12_put cX12_put 6 (some .int) 2 [.ref (S.2.1 91), .int a1, .int a2, .int a3, .int a4] M (some (.int q.1)) q.2 :=
  CM.of [(0, .ref (S.2.1 91)), (1, .int a1), (2, .int a2), (3, .int a3), (4, .int a4)] hI (by decide) rfl (Nat.le_of_ble_eq_true rfl) (fun X C K => v_Mo_put C K  h)
def f_Mo_get_b16 (M : Mem) : Option (Int32 × Mem) :=
  some ((-2147483648), M)
set_option maxRecDepth 20000 in
theorem v_Mo_get_b16 {S : SE} {X : MX} {q : (Int32 × Mem)} {M : Mem} (C : CX S X cX12_get 5 RX12 2) (K : RT S X (some .int) (some (.int q.1)) q.2) (h : f_Mo_get_b16 M = some q) : V S X 5 M 16 [] [] := by
  unfold f_Mo_get_b16 at h
  refine v_ldcw C kc_X12_340 dX12_get_16 ?_
  obtain rfl := Option.some.inj h
  exact v_iret C K dX12_get_19
def f_Mo_get (M : Mem) (a1 : Int32) (a2 : Int32) (a3 : Int32) : Option (Int32 × Mem) :=
  if (f_Mo_isSheet a1) = 0 then
    f_Mo_get_b16 M
  else
    if (f_Mo_in a2 0 2) = 0 then
      f_Mo_get_b16 M
    else
      (f_Mo_lacks M a1 a2 a3).bind fun q1 =>
      if q1 ≤ 0 then
        if gin ((60 * a1) + a3) 240 then
          some ((M 122 ((60 * a1) + a3).toNatClampNeg), M)
        else none
      else
        bnd (mset M 91 43 q1) fun M3 =>
        some ((-2147483648), M3)
set_option maxRecDepth 20000 in
theorem v_Mo_get {S : SE} {X : MX} {q : (Int32 × Mem)} {M : Mem} {a1 : Int32} {a2 : Int32} {a3 : Int32} (C : CX S X cX12_get 5 RX12 2) (K : RT S X (some .int) (some (.int q.1)) q.2) (h : f_Mo_get M a1 a2 a3 = some q) : V S X 5 M 0 [(0, .ref (S.2.1 91)), (1, .int a1), (2, .int a2), (3, .int a3)] [] := by
  unfold f_Mo_get at h
  refine v_iload_n C 1 dX12_get_0 rfl ?_
  refine cs C [] (m_Mo_isSheet C.inj M a1 _ rfl) ci_Mo_isSheet lk_X12_129 (by decide) rfl rfl (Nat.le_of_ble_eq_true rfl) dX12_get_1 ?_
  refine v_if_eq C 16 dX12_get_4 (by decide) (fun c6 => ?_) (fun c6 => ?_)
  · replace h := (ite_h h).1 c6
    refine v_sub [] rfl ?_
    exact v_Mo_get_b16 C K h
  · replace h := (ite_h h).2 c6
    refine v_iload_n C 2 dX12_get_7 rfl ?_
    refine v_iconst C 0 dX12_get_8 rfl ?_
    refine v_iconst C 2 dX12_get_9 rfl ?_
    refine cs C [] (m_Mo_in C.inj M a2 0 2 _ rfl) ci_Mo_in lk_X12_107 (by decide) rfl rfl (Nat.le_of_ble_eq_true rfl) dX12_get_10 ?_
    refine v_if_ne C 20 dX12_get_13 (by decide) (fun c5 => ?_) (fun c5 => ?_)
    · replace h := (ite_h h).2 c5
      refine v_aload_n C 0 dX12_get_20 rfl ?_
      refine v_iload_n C 1 dX12_get_21 rfl ?_
      refine v_iload_n C 2 dX12_get_22 rfl ?_
      refine v_iload_n C 3 dX12_get_23 rfl ?_
      obtain ⟨q1, hq1, h⟩ := Option.bind_eq_some_iff.mp h
      refine cv12 C [] kk91 (m_Mo_lacks C.inj M a1 a2 a3 q1 hq1) ci_Mo_lacks rfl lk_X12_334 (by decide) rfl rfl (Nat.le_of_ble_eq_true rfl) dX12_get_24 ?_
      refine v_istore C [(4, .int q1), (0, .ref (S.2.1 91)), (1, .int a1), (2, .int a2), (3, .int a3)] dX12_get_27 (by decide) rfl ?_
      refine v_iload C 0 dX12_get_29 rfl ?_
      refine v_if_le C 44 dX12_get_31 (by decide) (fun c4 => ?_) (fun c4 => ?_)
      · replace h := (ite_h h).1 c4
        refine v_aload_n C 1 dX12_get_44 rfl ?_
        refine g_Mo_items C kk91 fl_X12_101 dX12_get_45 ?_
        refine v_bipush C 60 dX12_get_48 rfl ?_
        refine v_iload_n C 2 dX12_get_50 rfl ?_
        refine v_imul C dX12_get_51 ?_
        refine v_iload_n C 4 dX12_get_52 rfl ?_
        refine v_iadd C dX12_get_53 ?_
        obtain ⟨g2, h⟩ := gd_h h
        refine v_iald C kk122 ll122 g2 dX12_get_54 ?_
        obtain rfl := Option.some.inj h
        exact v_iret C K dX12_get_55
      · replace h := (ite_h h).2 c4
        refine v_aload_n C 1 dX12_get_34 rfl ?_
        refine v_iload C 0 dX12_get_35 rfl ?_
        refine p_Mo_finding C kk91 fl_X12_331 dX12_get_37 ?_
        refine v_nmm h (fun M3 h => ?_)
        refine v_ldcw C kc_X12_340 dX12_get_40 ?_
        obtain rfl := Option.some.inj h
        exact v_iret C K dX12_get_43
    · replace h := (ite_h h).1 c5
      refine v_sub [] rfl ?_
      exact v_Mo_get_b16 C K h
theorem m_Mo_get {S : SE} (hI : Inj S) (M : Mem) (a1 : Int32) (a2 : Int32) (a3 : Int32) (q : (Int32 × Mem)) (h : f_Mo_get M a1 a2 a3 = some q) : CM S yX12_get cX12_get 5 (some .int) 2 [.ref (S.2.1 91), .int a1, .int a2, .int a3] M (some (.int q.1)) q.2 :=
  CM.of [(0, .ref (S.2.1 91)), (1, .int a1), (2, .int a2), (3, .int a3)] hI (by decide) rfl (Nat.le_of_ble_eq_true rfl) (fun X C K => v_Mo_get C K  h)
def f_Mo_copy_b14 (M : Mem) : Option (Int32 × Mem) :=
  some ((-2), M)
set_option maxRecDepth 20000 in
theorem v_Mo_copy_b14 {S : SE} {X : MX} {q : (Int32 × Mem)} {M : Mem} (C : CX S X cX12_copy 7 RX12 2) (K : RT S X (some .int) (some (.int q.1)) q.2) (h : f_Mo_copy_b14 M = some q) : V S X 7 M 14 [] [] := by
  unfold f_Mo_copy_b14 at h
  refine v_bipush C (-2) dX12_copy_14 rfl ?_
  obtain rfl := Option.some.inj h
  exact v_iret C K dX12_copy_16
def f_Mo_copy_b35 (M : Mem) : Option (Int32 × Mem) :=
  bnd (f_Mo_meets M 1) fun q2 =>
  some (q2.1, q2.2)
set_option maxRecDepth 20000 in
theorem v_Mo_copy_b35 {S : SE} {X : MX} {q : (Int32 × Mem)} {M : Mem} (C : CX S X cX12_copy 7 RX12 2) (K : RT S X (some .int) (some (.int q.1)) q.2) (h : f_Mo_copy_b35 M = some q) : V S X 7 M 35 [(0, .ref (S.2.1 91))] [] := by
  unfold f_Mo_copy_b35 at h
  refine v_aload_n C 0 dX12_copy_35 rfl ?_
  refine v_iconst C 1 dX12_copy_36 rfl ?_
  obtain ⟨q2, hq2, h⟩ := bnd_ex h
  refine cv12 C [] kk91 (m_Mo_meets C.inj M 1 q2 hq2) ci_Mo_meets rfl lk_X12_132 (by decide) rfl rfl (Nat.le_of_ble_eq_true rfl) dX12_copy_37 ?_
  obtain rfl := Option.some.inj h
  exact v_iret C K dX12_copy_40
def f_Mo_copy_b111 (M : Mem) : Option (Int32 × Mem) :=
  bnd (f_Mo_meets M 2) fun q6 =>
  some (q6.1, q6.2)
set_option maxRecDepth 20000 in
theorem v_Mo_copy_b111 {S : SE} {X : MX} {q : (Int32 × Mem)} {M : Mem} (C : CX S X cX12_copy 7 RX12 2) (K : RT S X (some .int) (some (.int q.1)) q.2) (h : f_Mo_copy_b111 M = some q) : V S X 7 M 111 [(0, .ref (S.2.1 91))] [] := by
  unfold f_Mo_copy_b111 at h
  refine v_aload_n C 0 dX12_copy_111 rfl ?_
  refine v_iconst C 2 dX12_copy_112 rfl ?_
  obtain ⟨q6, hq6, h⟩ := bnd_ex h
  refine cv12 C [] kk91 (m_Mo_meets C.inj M 2 q6 hq6) ci_Mo_meets rfl lk_X12_132 (by decide) rfl rfl (Nat.le_of_ble_eq_true rfl) dX12_copy_113 ?_
  obtain rfl := Option.some.inj h
  exact v_iret C K dX12_copy_116
def f_Mo_copy_l157B (k157 : Int32 → Int32 → Int32 → Int32 → Mem → Option (Int32 × Mem)) (a3 : Int32) (a4 : Int32) (a5 : Int32) (a6 : Int32) (M : Mem) : Option (Int32 × Mem) :=
  if a5 ≤ a6 then
    some (1, M)
  else
    if gin a6 60 then
      if gin (((60 * a3) + a4) + a6) 240 then
        bnd (mset M 122 (((60 * a3) + a4) + a6).toNatClampNeg (M 123 a6.toNatClampNeg)) fun M11 =>
        k157 a3 a4 a5 (a6 + 1) M11
      else none
    else none
set_option maxRecDepth 20000 in
theorem v_Mo_copy_l157B {S : SE} {X : MX} {q : (Int32 × Mem)} {k157 : Int32 → Int32 → Int32 → Int32 → Mem → Option (Int32 × Mem)} {a3 : Int32} {a4 : Int32} {a5 : Int32} {a6 : Int32} {M : Mem} (C : CX S X cX12_copy 7 RX12 2) (K : RT S X (some .int) (some (.int q.1)) q.2) (hk157 : ∀ (a3 : Int32) (a4 : Int32) (a5 : Int32) (a6 : Int32) (M : Mem), k157 a3 a4 a5 a6 M = some q → V S X 7 M 157 [(0, .ref (S.2.1 91)), (3, .int a3), (4, .int a4), (5, .int a5), (6, .int a6)] []) (h : f_Mo_copy_l157B k157 a3 a4 a5 a6 M = some q) : V S X 7 M 157 [(0, .ref (S.2.1 91)), (3, .int a3), (4, .int a4), (5, .int a5), (6, .int a6)] [] := by
  unfold f_Mo_copy_l157B at h
  refine v_iload C 4 dX12_copy_157 rfl ?_
  refine v_iload C 3 dX12_copy_159 rfl ?_
  refine v_icmp_ge C 192 dX12_copy_161 (by decide) (fun c12 => ?_) (fun c12 => ?_)
  · replace h := (ite_h h).1 c12
    refine v_iconst C 1 dX12_copy_192 rfl ?_
    obtain rfl := Option.some.inj h
    exact v_iret C K dX12_copy_193
  · replace h := (ite_h h).2 c12
    refine v_aload_n C 0 dX12_copy_164 rfl ?_
    refine g_Mo_items C kk91 fl_X12_101 dX12_copy_165 ?_
    refine v_bipush C 60 dX12_copy_168 rfl ?_
    refine v_iload_n C 1 dX12_copy_170 rfl ?_
    refine v_imul C dX12_copy_171 ?_
    refine v_iload C 2 dX12_copy_172 rfl ?_
    refine v_iadd C dX12_copy_174 ?_
    refine v_iload C 4 dX12_copy_175 rfl ?_
    refine v_iadd C dX12_copy_177 ?_
    refine v_aload_n C 0 dX12_copy_178 rfl ?_
    refine g_Mo_moved C kk91 fl_X12_104 dX12_copy_179 ?_
    refine v_iload C 4 dX12_copy_182 rfl ?_
    obtain ⟨g9, h⟩ := gd_h h
    refine v_iald C kk123 ll123 g9 dX12_copy_184 ?_
    obtain ⟨g10, h⟩ := gd_h h
    refine v_iast C kk122 ll122 g10 dX12_copy_185 ?_
    refine v_nmm h (fun M11 h => ?_)
    refine v_iinc C [(6, .int (a6 + 1)), (0, .ref (S.2.1 91)), (3, .int a3), (4, .int a4), (5, .int a5)] 4 (a6 + 1) dX12_copy_186 rfl rfl (by decide) rfl ?_
    refine v_goto C 157 dX12_copy_189 (by decide) ?_
    refine v_sub [1, 2, 3, 4, 0] rfl ?_
    exact hk157 _ _ _ _ _ h
def f_Mo_copy_l157 : Nat → Int32 → Int32 → Int32 → Int32 → Mem → Option (Int32 × Mem)
  | 0, _, _, _, _, _ => none
  | n + 1, a3, a4, a5, a6, M => f_Mo_copy_l157B (f_Mo_copy_l157 n) a3 a4 a5 a6 M
theorem v_Mo_copy_l157 {S : SE} {X : MX} {q : (Int32 × Mem)} (C : CX S X cX12_copy 7 RX12 2) (K : RT S X (some .int) (some (.int q.1)) q.2) : ∀ (n : Nat) (a3 : Int32) (a4 : Int32) (a5 : Int32) (a6 : Int32) (M : Mem), f_Mo_copy_l157 n a3 a4 a5 a6 M = some q → V S X 7 M 157 [(0, .ref (S.2.1 91)), (3, .int a3), (4, .int a4), (5, .int a5), (6, .int a6)] [] := by
  intro n
  induction n with
  | zero => intro a3 a4 a5 a6 M h; cases h
  | succ n ih => intro a3 a4 a5 a6 M h; exact v_Mo_copy_l157B C K ih h
def f_Mo_copy_l120B (k120 : Int32 → Int32 → Int32 → Int32 → Int32 → Int32 → Mem → Option (Int32 × Mem)) (a1 : Int32) (a2 : Int32) (a3 : Int32) (a4 : Int32) (a5 : Int32) (a6 : Int32) (M : Mem) : Option (Int32 × Mem) :=
  if a5 ≤ a6 then
    f_Mo_copy_l157 FU a3 a4 a5 0 M
  else
    if gin (((60 * a1) + a2) + a6) 240 then
      if gin a6 60 then
        bnd (mset M 123 a6.toNatClampNeg (M 122 (((60 * a1) + a2) + a6).toNatClampNeg)) fun M15 =>
        k120 a1 a2 a3 a4 a5 (a6 + 1) M15
      else none
    else none
set_option maxRecDepth 20000 in
theorem v_Mo_copy_l120B {S : SE} {X : MX} {q : (Int32 × Mem)} {k120 : Int32 → Int32 → Int32 → Int32 → Int32 → Int32 → Mem → Option (Int32 × Mem)} {a1 : Int32} {a2 : Int32} {a3 : Int32} {a4 : Int32} {a5 : Int32} {a6 : Int32} {M : Mem} (C : CX S X cX12_copy 7 RX12 2) (K : RT S X (some .int) (some (.int q.1)) q.2) (hk120 : ∀ (a1 : Int32) (a2 : Int32) (a3 : Int32) (a4 : Int32) (a5 : Int32) (a6 : Int32) (M : Mem), k120 a1 a2 a3 a4 a5 a6 M = some q → V S X 7 M 120 [(0, .ref (S.2.1 91)), (1, .int a1), (2, .int a2), (3, .int a3), (4, .int a4), (5, .int a5), (6, .int a6)] []) (h : f_Mo_copy_l120B k120 a1 a2 a3 a4 a5 a6 M = some q) : V S X 7 M 120 [(0, .ref (S.2.1 91)), (1, .int a1), (2, .int a2), (3, .int a3), (4, .int a4), (5, .int a5), (6, .int a6)] [] := by
  unfold f_Mo_copy_l120B at h
  refine v_iload C 6 dX12_copy_120 rfl ?_
  refine v_iload C 5 dX12_copy_122 rfl ?_
  refine v_icmp_ge C 154 dX12_copy_124 (by decide) (fun c16 => ?_) (fun c16 => ?_)
  · replace h := (ite_h h).1 c16
    refine v_iconst C 0 dX12_copy_154 rfl ?_
    refine v_istore C [(6, .int 0), (0, .ref (S.2.1 91)), (1, .int a1), (2, .int a2), (3, .int a3), (4, .int a4), (5, .int a5)] dX12_copy_155 (by decide) rfl ?_
    refine v_sub [1, 4, 5, 6, 0] rfl ?_
    exact v_Mo_copy_l157 C K FU _ _ _ _ _ h
  · replace h := (ite_h h).2 c16
    refine v_aload_n C 0 dX12_copy_127 rfl ?_
    refine g_Mo_moved C kk91 fl_X12_104 dX12_copy_128 ?_
    refine v_iload C 6 dX12_copy_131 rfl ?_
    refine v_aload_n C 0 dX12_copy_133 rfl ?_
    refine g_Mo_items C kk91 fl_X12_101 dX12_copy_134 ?_
    refine v_bipush C 60 dX12_copy_137 rfl ?_
    refine v_iload_n C 1 dX12_copy_139 rfl ?_
    refine v_imul C dX12_copy_140 ?_
    refine v_iload_n C 2 dX12_copy_141 rfl ?_
    refine v_iadd C dX12_copy_142 ?_
    refine v_iload C 6 dX12_copy_143 rfl ?_
    refine v_iadd C dX12_copy_145 ?_
    obtain ⟨g13, h⟩ := gd_h h
    refine v_iald C kk122 ll122 g13 dX12_copy_146 ?_
    obtain ⟨g14, h⟩ := gd_h h
    refine v_iast C kk123 ll123 g14 dX12_copy_147 ?_
    refine v_nmm h (fun M15 h => ?_)
    refine v_iinc C [(6, .int (a6 + 1)), (0, .ref (S.2.1 91)), (1, .int a1), (2, .int a2), (3, .int a3), (4, .int a4), (5, .int a5)] 6 (a6 + 1) dX12_copy_148 rfl rfl (by decide) rfl ?_
    refine v_goto C 120 dX12_copy_151 (by decide) ?_
    refine v_sub [1, 2, 3, 4, 5, 6, 0] rfl ?_
    exact hk120 _ _ _ _ _ _ _ h
def f_Mo_copy_l120 : Nat → Int32 → Int32 → Int32 → Int32 → Int32 → Int32 → Mem → Option (Int32 × Mem)
  | 0, _, _, _, _, _, _, _ => none
  | n + 1, a1, a2, a3, a4, a5, a6, M => f_Mo_copy_l120B (f_Mo_copy_l120 n) a1 a2 a3 a4 a5 a6 M
theorem v_Mo_copy_l120 {S : SE} {X : MX} {q : (Int32 × Mem)} (C : CX S X cX12_copy 7 RX12 2) (K : RT S X (some .int) (some (.int q.1)) q.2) : ∀ (n : Nat) (a1 : Int32) (a2 : Int32) (a3 : Int32) (a4 : Int32) (a5 : Int32) (a6 : Int32) (M : Mem), f_Mo_copy_l120 n a1 a2 a3 a4 a5 a6 M = some q → V S X 7 M 120 [(0, .ref (S.2.1 91)), (1, .int a1), (2, .int a2), (3, .int a3), (4, .int a4), (5, .int a5), (6, .int a6)] [] := by
  intro n
  induction n with
  | zero => intro a1 a2 a3 a4 a5 a6 M h; cases h
  | succ n ih => intro a1 a2 a3 a4 a5 a6 M h; exact v_Mo_copy_l120B C K ih h
def f_Mo_copy (M : Mem) (a1 : Int32) (a2 : Int32) (a3 : Int32) (a4 : Int32) (a5 : Int32) : Option (Int32 × Mem) :=
  if (f_Mo_isSheet a1) = 0 then
    f_Mo_copy_b14 M
  else
    if (f_Mo_isSheet a3) = 0 then
      f_Mo_copy_b14 M
    else
      if gin a1 4 then
        if (M 119 a1.toNatClampNeg) = 0 then
          f_Mo_copy_b35 M
        else
          if gin a3 4 then
            if (M 119 a3.toNatClampNeg) = 0 then
              f_Mo_copy_b35 M
            else
              if gin a1 4 then
                if gin a3 4 then
                  if (M 120 a1.toNatClampNeg) = (M 120 a3.toNatClampNeg) then
                    if a2 < 0 then
                      f_Mo_copy_b111 M
                    else
                      if a4 < 0 then
                        f_Mo_copy_b111 M
                      else
                        if a5 < 0 then
                          f_Mo_copy_b111 M
                        else
                          if gin a1 4 then
                            if 0 < (lg_cmp ((Int32.toInt64 a2) + (Int32.toInt64 a5)) (Int32.toInt64 (M 121 a1.toNatClampNeg))) then
                              f_Mo_copy_b111 M
                            else
                              if gin a3 4 then
                                if (lg_cmp ((Int32.toInt64 a4) + (Int32.toInt64 a5)) (Int32.toInt64 (M 121 a3.toNatClampNeg))) ≤ 0 then
                                  f_Mo_copy_l120 FU a1 a2 a3 a4 a5 0 M
                                else
                                  f_Mo_copy_b111 M
                              else none
                          else none
                  else
                    bnd (f_Mo_meets M 4) fun q22 =>
                    some (q22.1, q22.2)
                else none
              else none
          else none
      else none
set_option maxRecDepth 20000 in
theorem v_Mo_copy {S : SE} {X : MX} {q : (Int32 × Mem)} {M : Mem} {a1 : Int32} {a2 : Int32} {a3 : Int32} {a4 : Int32} {a5 : Int32} (C : CX S X cX12_copy 7 RX12 2) (K : RT S X (some .int) (some (.int q.1)) q.2) (h : f_Mo_copy M a1 a2 a3 a4 a5 = some q) : V S X 7 M 0 [(0, .ref (S.2.1 91)), (1, .int a1), (2, .int a2), (3, .int a3), (4, .int a4), (5, .int a5)] [] := by
  unfold f_Mo_copy at h
  refine v_iload_n C 1 dX12_copy_0 rfl ?_
  refine cs C [] (m_Mo_isSheet C.inj M a1 _ rfl) ci_Mo_isSheet lk_X12_129 (by decide) rfl rfl (Nat.le_of_ble_eq_true rfl) dX12_copy_1 ?_
  refine v_if_eq C 14 dX12_copy_4 (by decide) (fun c27 => ?_) (fun c27 => ?_)
  · replace h := (ite_h h).1 c27
    refine v_sub [] rfl ?_
    exact v_Mo_copy_b14 C K h
  · replace h := (ite_h h).2 c27
    refine v_iload_n C 3 dX12_copy_7 rfl ?_
    refine cs C [] (m_Mo_isSheet C.inj M a3 _ rfl) ci_Mo_isSheet lk_X12_129 (by decide) rfl rfl (Nat.le_of_ble_eq_true rfl) dX12_copy_8 ?_
    refine v_if_ne C 17 dX12_copy_11 (by decide) (fun c26 => ?_) (fun c26 => ?_)
    · replace h := (ite_h h).2 c26
      refine v_aload_n C 0 dX12_copy_17 rfl ?_
      refine g_Mo_isThere C kk91 fl_X12_91 dX12_copy_18 ?_
      refine v_iload_n C 1 dX12_copy_21 rfl ?_
      obtain ⟨g1, h⟩ := gd_h h
      refine v_zald C kk119 ll119 g1 dX12_copy_22 ?_
      refine v_if_eq C 35 dX12_copy_23 (by decide) (fun c25 => ?_) (fun c25 => ?_)
      · replace h := (ite_h h).1 c25
        refine v_sub [0] rfl ?_
        exact v_Mo_copy_b35 C K h
      · replace h := (ite_h h).2 c25
        refine v_aload_n C 0 dX12_copy_26 rfl ?_
        refine g_Mo_isThere C kk91 fl_X12_91 dX12_copy_27 ?_
        refine v_iload_n C 3 dX12_copy_30 rfl ?_
        obtain ⟨g3, h⟩ := gd_h h
        refine v_zald C kk119 ll119 g3 dX12_copy_31 ?_
        refine v_if_ne C 41 dX12_copy_32 (by decide) (fun c24 => ?_) (fun c24 => ?_)
        · replace h := (ite_h h).2 c24
          refine v_aload_n C 0 dX12_copy_41 rfl ?_
          refine g_Mo_forms C kk91 fl_X12_95 dX12_copy_42 ?_
          refine v_iload_n C 1 dX12_copy_45 rfl ?_
          obtain ⟨g4, h⟩ := gd_h h
          refine v_iald C kk120 ll120 g4 dX12_copy_46 ?_
          refine v_aload_n C 0 dX12_copy_47 rfl ?_
          refine g_Mo_forms C kk91 fl_X12_95 dX12_copy_48 ?_
          refine v_iload_n C 3 dX12_copy_51 rfl ?_
          obtain ⟨g5, h⟩ := gd_h h
          refine v_iald C kk120 ll120 g5 dX12_copy_52 ?_
          refine v_icmp_eq C 62 dX12_copy_53 (by decide) (fun c23 => ?_) (fun c23 => ?_)
          · replace h := (ite_h h).1 c23
            refine v_iload_n C 2 dX12_copy_62 rfl ?_
            refine v_if_lt C 111 dX12_copy_63 (by decide) (fun c21 => ?_) (fun c21 => ?_)
            · replace h := (ite_h h).1 c21
              refine v_sub [0] rfl ?_
              exact v_Mo_copy_b111 C K h
            · replace h := (ite_h h).2 c21
              refine v_iload C 4 dX12_copy_66 rfl ?_
              refine v_if_lt C 111 dX12_copy_68 (by decide) (fun c20 => ?_) (fun c20 => ?_)
              · replace h := (ite_h h).1 c20
                refine v_sub [0] rfl ?_
                exact v_Mo_copy_b111 C K h
              · replace h := (ite_h h).2 c20
                refine v_iload C 5 dX12_copy_71 rfl ?_
                refine v_if_lt C 111 dX12_copy_73 (by decide) (fun c19 => ?_) (fun c19 => ?_)
                · replace h := (ite_h h).1 c19
                  refine v_sub [0] rfl ?_
                  exact v_Mo_copy_b111 C K h
                · replace h := (ite_h h).2 c19
                  refine v_iload_n C 2 dX12_copy_76 rfl ?_
                  refine v_i2l C dX12_copy_77 ?_
                  refine v_iload C 5 dX12_copy_78 rfl ?_
                  refine v_i2l C dX12_copy_80 ?_
                  refine v_ladd C dX12_copy_81 ?_
                  refine v_aload_n C 0 dX12_copy_82 rfl ?_
                  refine g_Mo_sizes C kk91 fl_X12_98 dX12_copy_83 ?_
                  refine v_iload_n C 1 dX12_copy_86 rfl ?_
                  obtain ⟨g7, h⟩ := gd_h h
                  refine v_iald C kk121 ll121 g7 dX12_copy_87 ?_
                  refine v_i2l C dX12_copy_88 ?_
                  refine v_lcmp C dX12_copy_89 ?_
                  refine v_if_gt C 111 dX12_copy_90 (by decide) (fun c18 => ?_) (fun c18 => ?_)
                  · replace h := (ite_h h).1 c18
                    refine v_sub [0] rfl ?_
                    exact v_Mo_copy_b111 C K h
                  · replace h := (ite_h h).2 c18
                    refine v_iload C 4 dX12_copy_93 rfl ?_
                    refine v_i2l C dX12_copy_95 ?_
                    refine v_iload C 5 dX12_copy_96 rfl ?_
                    refine v_i2l C dX12_copy_98 ?_
                    refine v_ladd C dX12_copy_99 ?_
                    refine v_aload_n C 0 dX12_copy_100 rfl ?_
                    refine g_Mo_sizes C kk91 fl_X12_98 dX12_copy_101 ?_
                    refine v_iload_n C 3 dX12_copy_104 rfl ?_
                    obtain ⟨g8, h⟩ := gd_h h
                    refine v_iald C kk121 ll121 g8 dX12_copy_105 ?_
                    refine v_i2l C dX12_copy_106 ?_
                    refine v_lcmp C dX12_copy_107 ?_
                    refine v_if_le C 117 dX12_copy_108 (by decide) (fun c17 => ?_) (fun c17 => ?_)
                    · replace h := (ite_h h).1 c17
                      refine v_iconst C 0 dX12_copy_117 rfl ?_
                      refine v_istore C [(6, .int 0), (0, .ref (S.2.1 91)), (1, .int a1), (2, .int a2), (3, .int a3), (4, .int a4), (5, .int a5)] dX12_copy_118 (by decide) rfl ?_
                      refine v_sub [1, 2, 3, 4, 5, 6, 0] rfl ?_
                      exact v_Mo_copy_l120 C K FU _ _ _ _ _ _ _ h
                    · replace h := (ite_h h).2 c17
                      refine v_sub [0] rfl ?_
                      exact v_Mo_copy_b111 C K h
          · replace h := (ite_h h).2 c23
            refine v_aload_n C 0 dX12_copy_56 rfl ?_
            refine v_iconst C 4 dX12_copy_57 rfl ?_
            obtain ⟨q22, hq22, h⟩ := bnd_ex h
            refine cv12 C [] kk91 (m_Mo_meets C.inj M 4 q22 hq22) ci_Mo_meets rfl lk_X12_132 (by decide) rfl rfl (Nat.le_of_ble_eq_true rfl) dX12_copy_58 ?_
            obtain rfl := Option.some.inj h
            exact v_iret C K dX12_copy_61
        · replace h := (ite_h h).1 c24
          refine v_sub [0] rfl ?_
          exact v_Mo_copy_b35 C K h
    · replace h := (ite_h h).1 c26
      refine v_sub [] rfl ?_
      exact v_Mo_copy_b14 C K h
theorem m_Mo_copy {S : SE} (hI : Inj S) (M : Mem) (a1 : Int32) (a2 : Int32) (a3 : Int32) (a4 : Int32) (a5 : Int32) (q : (Int32 × Mem)) (h : f_Mo_copy M a1 a2 a3 a4 a5 = some q) : CM S yX12_copy cX12_copy 7 (some .int) 2 [.ref (S.2.1 91), .int a1, .int a2, .int a3, .int a4, .int a5] M (some (.int q.1)) q.2 :=
  CM.of [(0, .ref (S.2.1 91)), (1, .int a1), (2, .int a2), (3, .int a3), (4, .int a4), (5, .int a5)] hI (by decide) rfl (Nat.le_of_ble_eq_true rfl) (fun X C K => v_Mo_copy C K  h)
def f_Mo_write_b14 (M : Mem) : Option (Int32 × Mem) :=
  some ((-2), M)
set_option maxRecDepth 20000 in
theorem v_Mo_write_b14 {S : SE} {X : MX} {q : (Int32 × Mem)} {M : Mem} (C : CX S X cX12_write 4 RX12 7) (K : RT S X (some .int) (some (.int q.1)) q.2) (h : f_Mo_write_b14 M = some q) : V S X 4 M 14 [] [] := by
  unfold f_Mo_write_b14 at h
  refine v_bipush C (-2) dX12_write_14 rfl ?_
  obtain rfl := Option.some.inj h
  exact v_iret C K dX12_write_16
def f_Mo_write_b94 (a3 : Int32) (M : Mem) : Option (Int32 × Mem) :=
  some (a3, M)
set_option maxRecDepth 20000 in
theorem v_Mo_write_b94 {S : SE} {X : MX} {q : (Int32 × Mem)} {a3 : Int32} {M : Mem} (C : CX S X cX12_write 4 RX12 7) (K : RT S X (some .int) (some (.int q.1)) q.2) (h : f_Mo_write_b94 a3 M = some q) : V S X 4 M 94 [(3, .int a3)] [] := by
  unfold f_Mo_write_b94 at h
  refine v_iload_n C 0 dX12_write_94 rfl ?_
  obtain rfl := Option.some.inj h
  exact v_iret C K dX12_write_95
def f_Mo_write_l51B (k51 : Int32 → Int32 → Int32 → Mem → Option (Int32 × Mem)) (a1 : Int32) (a2 : Int32) (a3 : Int32) (M : Mem) : Option (Int32 × Mem) :=
  if gin a2 4 then
    if (M 121 a2.toNatClampNeg) ≤ a3 then
      f_Mo_write_b94 a3 M
    else
      if (M 95 (0 : Int32).toNatClampNeg) ≤ a3 then
        f_Mo_write_b94 a3 M
      else
        if gin ((10 * a1) + a3) 20 then
          (f_Mo_keep M a2 a3 (M 101 ((10 * a1) + a3).toNatClampNeg)).bind fun q6 =>
          k51 a1 a2 (a3 + 1) q6
        else none
  else none
set_option maxRecDepth 20000 in
theorem v_Mo_write_l51B {S : SE} {X : MX} {q : (Int32 × Mem)} {k51 : Int32 → Int32 → Int32 → Mem → Option (Int32 × Mem)} {a1 : Int32} {a2 : Int32} {a3 : Int32} {M : Mem} (C : CX S X cX12_write 4 RX12 7) (K : RT S X (some .int) (some (.int q.1)) q.2) (hk51 : ∀ (a1 : Int32) (a2 : Int32) (a3 : Int32) (M : Mem), k51 a1 a2 a3 M = some q → V S X 4 M 51 [(0, .ref (S.2.1 91)), (1, .int a1), (2, .int a2), (3, .int a3)] []) (h : f_Mo_write_l51B k51 a1 a2 a3 M = some q) : V S X 4 M 51 [(0, .ref (S.2.1 91)), (1, .int a1), (2, .int a2), (3, .int a3)] [] := by
  unfold f_Mo_write_l51B at h
  refine v_iload_n C 3 dX12_write_51 rfl ?_
  refine v_aload_n C 0 dX12_write_52 rfl ?_
  refine g_Mo_sizes C kk91 fl_X12_98 dX12_write_53 ?_
  refine v_iload_n C 2 dX12_write_56 rfl ?_
  obtain ⟨g4, h⟩ := gd_h h
  refine v_iald C kk121 ll121 g4 dX12_write_57 ?_
  refine v_icmp_ge C 94 dX12_write_58 (by decide) (fun c8 => ?_) (fun c8 => ?_)
  · replace h := (ite_h h).1 c8
    refine v_sub [3] rfl ?_
    exact v_Mo_write_b94 C K h
  · replace h := (ite_h h).2 c8
    refine v_iload_n C 3 dX12_write_61 rfl ?_
    refine v_aload_n C 0 dX12_write_62 rfl ?_
    refine g_Mo_rows C kk91 fl_X12_19 dX12_write_63 ?_
    refine v_iconst C 0 dX12_write_66 rfl ?_
    refine v_iald C kk95 ll95 (by decide) dX12_write_67 ?_
    refine v_icmp_ge C 94 dX12_write_68 (by decide) (fun c7 => ?_) (fun c7 => ?_)
    · replace h := (ite_h h).1 c7
      refine v_sub [3] rfl ?_
      exact v_Mo_write_b94 C K h
    · replace h := (ite_h h).2 c7
      refine v_aload_n C 0 dX12_write_71 rfl ?_
      refine v_iload_n C 2 dX12_write_72 rfl ?_
      refine v_iload_n C 3 dX12_write_73 rfl ?_
      refine v_aload_n C 0 dX12_write_74 rfl ?_
      refine g_Mo_answers C kk91 fl_X12_37 dX12_write_75 ?_
      refine v_bipush C 10 dX12_write_78 rfl ?_
      refine v_iload_n C 1 dX12_write_80 rfl ?_
      refine v_imul C dX12_write_81 ?_
      refine v_iload_n C 3 dX12_write_82 rfl ?_
      refine v_iadd C dX12_write_83 ?_
      obtain ⟨g5, h⟩ := gd_h h
      refine v_iald C kk101 ll101 g5 dX12_write_84 ?_
      obtain ⟨q6, hq6, h⟩ := Option.bind_eq_some_iff.mp h
      refine cv12v C [] kk91 (m_Mo_keep C.inj M a2 a3 (M 101 ((10 * a1) + a3).toNatClampNeg) q6 hq6) ci_Mo_keep rfl lk_X12_337 (by decide) rfl rfl (Nat.le_of_ble_eq_true rfl) dX12_write_85 ?_
      refine v_iinc C [(3, .int (a3 + 1)), (0, .ref (S.2.1 91)), (1, .int a1), (2, .int a2)] 3 (a3 + 1) dX12_write_88 rfl rfl (by decide) rfl ?_
      refine v_goto C 51 dX12_write_91 (by decide) ?_
      refine v_sub [1, 2, 3, 0] rfl ?_
      exact hk51 _ _ _ _ h
def f_Mo_write_l51 : Nat → Int32 → Int32 → Int32 → Mem → Option (Int32 × Mem)
  | 0, _, _, _, _ => none
  | n + 1, a1, a2, a3, M => f_Mo_write_l51B (f_Mo_write_l51 n) a1 a2 a3 M
theorem v_Mo_write_l51 {S : SE} {X : MX} {q : (Int32 × Mem)} (C : CX S X cX12_write 4 RX12 7) (K : RT S X (some .int) (some (.int q.1)) q.2) : ∀ (n : Nat) (a1 : Int32) (a2 : Int32) (a3 : Int32) (M : Mem), f_Mo_write_l51 n a1 a2 a3 M = some q → V S X 4 M 51 [(0, .ref (S.2.1 91)), (1, .int a1), (2, .int a2), (3, .int a3)] [] := by
  intro n
  induction n with
  | zero => intro a1 a2 a3 M h; cases h
  | succ n ih => intro a1 a2 a3 M h; exact v_Mo_write_l51B C K ih h
def f_Mo_write (M : Mem) (a1 : Int32) (a2 : Int32) : Option (Int32 × Mem) :=
  if (f_Mo_isTwo a1) = 0 then
    f_Mo_write_b14 M
  else
    if (f_Mo_isSheet a2) = 0 then
      f_Mo_write_b14 M
    else
      if gin a2 4 then
        if (M 119 a2.toNatClampNeg) = 0 then
          bnd (f_Mo_meets M 1) fun q10 =>
          some (q10.1, q10.2)
        else
          (f_Mo_runsTold M).bind fun q2 =>
          if gin a1 2 then
            if (q2 100 a1.toNatClampNeg) = (-1) then
              f_Mo_write_l51 FU a1 a2 0 q2
            else
              some ((-3), q2)
          else none
      else none
set_option maxRecDepth 20000 in
theorem v_Mo_write {S : SE} {X : MX} {q : (Int32 × Mem)} {M : Mem} {a1 : Int32} {a2 : Int32} (C : CX S X cX12_write 4 RX12 7) (K : RT S X (some .int) (some (.int q.1)) q.2) (h : f_Mo_write M a1 a2 = some q) : V S X 4 M 0 [(0, .ref (S.2.1 91)), (1, .int a1), (2, .int a2)] [] := by
  unfold f_Mo_write at h
  refine v_iload_n C 1 dX12_write_0 rfl ?_
  refine cs C [] (m_Mo_isTwo C.inj M a1 _ rfl) ci_Mo_isTwo lk_X12_165 (by decide) rfl rfl (Nat.le_of_ble_eq_true rfl) dX12_write_1 ?_
  refine v_if_eq C 14 dX12_write_4 (by decide) (fun c13 => ?_) (fun c13 => ?_)
  · replace h := (ite_h h).1 c13
    refine v_sub [] rfl ?_
    exact v_Mo_write_b14 C K h
  · replace h := (ite_h h).2 c13
    refine v_iload_n C 2 dX12_write_7 rfl ?_
    refine cs C [] (m_Mo_isSheet C.inj M a2 _ rfl) ci_Mo_isSheet lk_X12_129 (by decide) rfl rfl (Nat.le_of_ble_eq_true rfl) dX12_write_8 ?_
    refine v_if_ne C 17 dX12_write_11 (by decide) (fun c12 => ?_) (fun c12 => ?_)
    · replace h := (ite_h h).2 c12
      refine v_aload_n C 0 dX12_write_17 rfl ?_
      refine g_Mo_isThere C kk91 fl_X12_91 dX12_write_18 ?_
      refine v_iload_n C 2 dX12_write_21 rfl ?_
      obtain ⟨g1, h⟩ := gd_h h
      refine v_zald C kk119 ll119 g1 dX12_write_22 ?_
      refine v_if_ne C 32 dX12_write_23 (by decide) (fun c11 => ?_) (fun c11 => ?_)
      · replace h := (ite_h h).2 c11
        refine v_aload_n C 0 dX12_write_32 rfl ?_
        obtain ⟨q2, hq2, h⟩ := Option.bind_eq_some_iff.mp h
        refine cv12v C [] kk91 (m_Mo_runsTold C.inj M q2 hq2) ci_Mo_runsTold rfl lk_X12_292 (by decide) rfl rfl (Nat.le_of_ble_eq_true rfl) dX12_write_33 ?_
        refine v_aload_n C 0 dX12_write_36 rfl ?_
        refine g_Mo_errorAt C kk91 fl_X12_34 dX12_write_37 ?_
        refine v_iload_n C 1 dX12_write_40 rfl ?_
        obtain ⟨g3, h⟩ := gd_h h
        refine v_iald C kk100 ll100 g3 dX12_write_41 ?_
        refine v_iconst C (-1) dX12_write_42 rfl ?_
        refine v_icmp_eq C 49 dX12_write_43 (by decide) (fun c9 => ?_) (fun c9 => ?_)
        · replace h := (ite_h h).1 c9
          refine v_iconst C 0 dX12_write_49 rfl ?_
          refine v_istore_n C [(3, .int 0), (0, .ref (S.2.1 91)), (1, .int a1), (2, .int a2)] dX12_write_50 (by decide) rfl ?_
          refine v_sub [1, 2, 3, 0] rfl ?_
          exact v_Mo_write_l51 C K FU _ _ _ _ h
        · replace h := (ite_h h).2 c9
          refine v_bipush C (-3) dX12_write_46 rfl ?_
          obtain rfl := Option.some.inj h
          exact v_iret C K dX12_write_48
      · replace h := (ite_h h).1 c11
        refine v_aload_n C 0 dX12_write_26 rfl ?_
        refine v_iconst C 1 dX12_write_27 rfl ?_
        obtain ⟨q10, hq10, h⟩ := bnd_ex h
        refine cv12 C [] kk91 (m_Mo_meets C.inj M 1 q10 hq10) ci_Mo_meets rfl lk_X12_132 (by decide) rfl rfl (Nat.le_of_ble_eq_true rfl) dX12_write_28 ?_
        obtain rfl := Option.some.inj h
        exact v_iret C K dX12_write_31
    · replace h := (ite_h h).1 c12
      refine v_sub [] rfl ?_
      exact v_Mo_write_b14 C K h
theorem m_Mo_write {S : SE} (hI : Inj S) (M : Mem) (a1 : Int32) (a2 : Int32) (q : (Int32 × Mem)) (h : f_Mo_write M a1 a2 = some q) : CM S yX12_write cX12_write 4 (some .int) 7 [.ref (S.2.1 91), .int a1, .int a2] M (some (.int q.1)) q.2 :=
  CM.of [(0, .ref (S.2.1 91)), (1, .int a1), (2, .int a2)] hI (by decide) rfl (Nat.le_of_ble_eq_true rfl) (fun X C K => v_Mo_write C K  h)
def f_Mo_tellOf (M : Mem) (a1 : Int32) : Option (Int32 × Mem) :=
  (f_Mo_runsTold M).bind fun q1 =>
  if 2 ≤ a1 then
    if a1 = 2 then
      some ((q1 91 6), q1)
    else
      if a1 = 5 then
        some ((q1 91 31), q1)
      else
        some ((q1 91 35), q1)
  else
    if gin a1 2 then
      some ((q1 95 a1.toNatClampNeg), q1)
    else none
set_option maxRecDepth 20000 in
theorem v_Mo_tellOf {S : SE} {X : MX} {q : (Int32 × Mem)} {M : Mem} {a1 : Int32} (C : CX S X cX12_tellOf 2 RX12 7) (K : RT S X (some .int) (some (.int q.1)) q.2) (h : f_Mo_tellOf M a1 = some q) : V S X 2 M 0 [(0, .ref (S.2.1 91)), (1, .int a1)] [] := by
  unfold f_Mo_tellOf at h
  refine v_aload_n C 0 dX12_tellOf_0 rfl ?_
  obtain ⟨q1, hq1, h⟩ := Option.bind_eq_some_iff.mp h
  refine cv12v C [] kk91 (m_Mo_runsTold C.inj M q1 hq1) ci_Mo_runsTold rfl lk_X12_292 (by decide) rfl rfl (Nat.le_of_ble_eq_true rfl) dX12_tellOf_1 ?_
  refine v_iload_n C 1 dX12_tellOf_4 rfl ?_
  refine v_iconst C 2 dX12_tellOf_5 rfl ?_
  refine v_icmp_ge C 18 dX12_tellOf_6 (by decide) (fun c5 => ?_) (fun c5 => ?_)
  · replace h := (ite_h h).1 c5
    refine v_iload_n C 1 dX12_tellOf_18 rfl ?_
    refine v_iconst C 2 dX12_tellOf_19 rfl ?_
    refine v_icmp_ne C 30 dX12_tellOf_20 (by decide) (fun c3 => ?_) (fun c3 => ?_)
    · replace h := (ite_h h).2 c3
      refine v_iload_n C 1 dX12_tellOf_30 rfl ?_
      refine v_iconst C 5 dX12_tellOf_31 rfl ?_
      refine v_icmp_ne C 42 dX12_tellOf_32 (by decide) (fun c2 => ?_) (fun c2 => ?_)
      · replace h := (ite_h h).2 c2
        refine v_aload_n C 0 dX12_tellOf_42 rfl ?_
        refine g_Mo_planMany C kk91 fl_X12_261 dX12_tellOf_43 ?_
        obtain rfl := Option.some.inj h
        exact v_iret C K dX12_tellOf_46
      · replace h := (ite_h h).1 c2
        refine v_aload_n C 0 dX12_tellOf_35 rfl ?_
        refine g_Mo_pairs C kk91 fl_X12_244 dX12_tellOf_36 ?_
        refine v_goto C 46 dX12_tellOf_39 (by decide) ?_
        obtain rfl := Option.some.inj h
        exact v_iret C K dX12_tellOf_46
    · replace h := (ite_h h).1 c3
      refine v_aload_n C 0 dX12_tellOf_23 rfl ?_
      refine g_Mo_stepsTold C kk91 fl_X12_145 dX12_tellOf_24 ?_
      refine v_goto C 46 dX12_tellOf_27 (by decide) ?_
      obtain rfl := Option.some.inj h
      exact v_iret C K dX12_tellOf_46
  · replace h := (ite_h h).2 c5
    refine v_aload_n C 0 dX12_tellOf_9 rfl ?_
    refine g_Mo_rows C kk91 fl_X12_19 dX12_tellOf_10 ?_
    refine v_iload_n C 1 dX12_tellOf_13 rfl ?_
    obtain ⟨g4, h⟩ := gd_h h
    refine v_iald C kk95 ll95 g4 dX12_tellOf_14 ?_
    refine v_goto C 46 dX12_tellOf_15 (by decide) ?_
    obtain rfl := Option.some.inj h
    exact v_iret C K dX12_tellOf_46
theorem m_Mo_tellOf {S : SE} (hI : Inj S) (M : Mem) (a1 : Int32) (q : (Int32 × Mem)) (h : f_Mo_tellOf M a1 = some q) : CM S yX12_tellOf cX12_tellOf 2 (some .int) 7 [.ref (S.2.1 91), .int a1] M (some (.int q.1)) q.2 :=
  CM.of [(0, .ref (S.2.1 91)), (1, .int a1)] hI (by decide) rfl (Nat.le_of_ble_eq_true rfl) (fun X C K => v_Mo_tellOf C K  h)
def f_Mo_count (M : Mem) (a1 : Int32) : Option (Int32 × Mem) :=
  if a1 = 0 then
    (f_Mo_tellOf M a1).bind fun q2 =>
    some (q2.1, q2.2)
  else
  if a1 = 1 then
    (f_Mo_tellOf M a1).bind fun q4 =>
    some (q4.1, q4.2)
  else
  if a1 = 2 then
    (f_Mo_tellOf M a1).bind fun q6 =>
    some (q6.1, q6.2)
  else
  if a1 = 3 then
    some ((M 91 9), M)
  else
  if a1 = 4 then
    some ((((M 92 (0 : Int32).toNatClampNeg) + (M 92 (1 : Int32).toNatClampNeg)) + (M 92 (2 : Int32).toNatClampNeg)), M)
  else
  if a1 = 5 then
    (f_Mo_tellOf M a1).bind fun q10 =>
    some (q10.1, q10.2)
  else
  if a1 = 6 then
    (f_Mo_tellOf M a1).bind fun q12 =>
    some (q12.1, q12.2)
  else
  if a1 = 7 then
    (f_Mo_costOf M 0 0).bind fun q14 =>
    some (q14.1, q14.2)
  else
  if a1 = 8 then
    some ((M 91 43), M)
  else
  some ((-2), M)
set_option maxRecDepth 20000 in
theorem v_Mo_count {S : SE} {X : MX} {q : (Int32 × Mem)} {M : Mem} {a1 : Int32} (C : CX S X cX12_count 2 RX12 8) (K : RT S X (some .int) (some (.int q.1)) q.2) (h : f_Mo_count M a1 = some q) : V S X 2 M 0 [(0, .ref (S.2.1 91)), (1, .int a1)] [] := by
  unfold f_Mo_count at h
  refine v_iload_n C 1 dX12_count_0 rfl ?_
  by_cases c1 : a1 = 0
  · replace h := (ite_h h).1 c1
    refine v_tableIn C 52 dX12_count_1 (by rw [c1]; decide) (by rw [c1]; decide) (by rw [c1]; rfl) (by decide) ?_
    refine v_aload_n C 0 dX12_count_52 rfl ?_
    refine v_iload_n C 1 dX12_count_53 rfl ?_
    obtain ⟨q2, hq2, h⟩ := Option.bind_eq_some_iff.mp h
    refine cv12 C [] kk91 (m_Mo_tellOf C.inj M a1 q2 hq2) ci_Mo_tellOf rfl lk_X12_341 (by decide) rfl rfl (Nat.le_of_ble_eq_true rfl) dX12_count_54 ?_
    obtain rfl := Option.some.inj h
    exact v_iret C K dX12_count_57
  replace h := (ite_h h).2 c1
  by_cases c3 : a1 = 1
  · replace h := (ite_h h).1 c3
    refine v_tableIn C 52 dX12_count_1 (by rw [c3]; decide) (by rw [c3]; decide) (by rw [c3]; rfl) (by decide) ?_
    refine v_aload_n C 0 dX12_count_52 rfl ?_
    refine v_iload_n C 1 dX12_count_53 rfl ?_
    obtain ⟨q4, hq4, h⟩ := Option.bind_eq_some_iff.mp h
    refine cv12 C [] kk91 (m_Mo_tellOf C.inj M a1 q4 hq4) ci_Mo_tellOf rfl lk_X12_341 (by decide) rfl rfl (Nat.le_of_ble_eq_true rfl) dX12_count_54 ?_
    obtain rfl := Option.some.inj h
    exact v_iret C K dX12_count_57
  replace h := (ite_h h).2 c3
  by_cases c5 : a1 = 2
  · replace h := (ite_h h).1 c5
    refine v_tableIn C 52 dX12_count_1 (by rw [c5]; decide) (by rw [c5]; decide) (by rw [c5]; rfl) (by decide) ?_
    refine v_aload_n C 0 dX12_count_52 rfl ?_
    refine v_iload_n C 1 dX12_count_53 rfl ?_
    obtain ⟨q6, hq6, h⟩ := Option.bind_eq_some_iff.mp h
    refine cv12 C [] kk91 (m_Mo_tellOf C.inj M a1 q6 hq6) ci_Mo_tellOf rfl lk_X12_341 (by decide) rfl rfl (Nat.le_of_ble_eq_true rfl) dX12_count_54 ?_
    obtain rfl := Option.some.inj h
    exact v_iret C K dX12_count_57
  replace h := (ite_h h).2 c5
  by_cases c7 : a1 = 3
  · replace h := (ite_h h).1 c7
    refine v_tableIn C 58 dX12_count_1 (by rw [c7]; decide) (by rw [c7]; decide) (by rw [c7]; rfl) (by decide) ?_
    refine v_aload_n C 0 dX12_count_58 rfl ?_
    refine g_Mo_endTold C kk91 fl_X12_175 dX12_count_59 ?_
    obtain rfl := Option.some.inj h
    exact v_iret C K dX12_count_62
  replace h := (ite_h h).2 c7
  by_cases c8 : a1 = 4
  · replace h := (ite_h h).1 c8
    refine v_tableIn C 63 dX12_count_1 (by rw [c8]; decide) (by rw [c8]; decide) (by rw [c8]; rfl) (by decide) ?_
    refine v_aload_n C 0 dX12_count_63 rfl ?_
    refine g_Mo_typed C kk91 fl_X12_7 dX12_count_64 ?_
    refine v_iconst C 0 dX12_count_67 rfl ?_
    refine v_iald C kk92 ll92 (by decide) dX12_count_68 ?_
    refine v_aload_n C 0 dX12_count_69 rfl ?_
    refine g_Mo_typed C kk91 fl_X12_7 dX12_count_70 ?_
    refine v_iconst C 1 dX12_count_73 rfl ?_
    refine v_iald C kk92 ll92 (by decide) dX12_count_74 ?_
    refine v_iadd C dX12_count_75 ?_
    refine v_aload_n C 0 dX12_count_76 rfl ?_
    refine g_Mo_typed C kk91 fl_X12_7 dX12_count_77 ?_
    refine v_iconst C 2 dX12_count_80 rfl ?_
    refine v_iald C kk92 ll92 (by decide) dX12_count_81 ?_
    refine v_iadd C dX12_count_82 ?_
    obtain rfl := Option.some.inj h
    exact v_iret C K dX12_count_83
  replace h := (ite_h h).2 c8
  by_cases c9 : a1 = 5
  · replace h := (ite_h h).1 c9
    refine v_tableIn C 52 dX12_count_1 (by rw [c9]; decide) (by rw [c9]; decide) (by rw [c9]; rfl) (by decide) ?_
    refine v_aload_n C 0 dX12_count_52 rfl ?_
    refine v_iload_n C 1 dX12_count_53 rfl ?_
    obtain ⟨q10, hq10, h⟩ := Option.bind_eq_some_iff.mp h
    refine cv12 C [] kk91 (m_Mo_tellOf C.inj M a1 q10 hq10) ci_Mo_tellOf rfl lk_X12_341 (by decide) rfl rfl (Nat.le_of_ble_eq_true rfl) dX12_count_54 ?_
    obtain rfl := Option.some.inj h
    exact v_iret C K dX12_count_57
  replace h := (ite_h h).2 c9
  by_cases c11 : a1 = 6
  · replace h := (ite_h h).1 c11
    refine v_tableIn C 52 dX12_count_1 (by rw [c11]; decide) (by rw [c11]; decide) (by rw [c11]; rfl) (by decide) ?_
    refine v_aload_n C 0 dX12_count_52 rfl ?_
    refine v_iload_n C 1 dX12_count_53 rfl ?_
    obtain ⟨q12, hq12, h⟩ := Option.bind_eq_some_iff.mp h
    refine cv12 C [] kk91 (m_Mo_tellOf C.inj M a1 q12 hq12) ci_Mo_tellOf rfl lk_X12_341 (by decide) rfl rfl (Nat.le_of_ble_eq_true rfl) dX12_count_54 ?_
    obtain rfl := Option.some.inj h
    exact v_iret C K dX12_count_57
  replace h := (ite_h h).2 c11
  by_cases c13 : a1 = 7
  · replace h := (ite_h h).1 c13
    refine v_tableIn C 84 dX12_count_1 (by rw [c13]; decide) (by rw [c13]; decide) (by rw [c13]; rfl) (by decide) ?_
    refine v_aload_n C 0 dX12_count_84 rfl ?_
    refine v_iconst C 0 dX12_count_85 rfl ?_
    refine v_iconst C 0 dX12_count_86 rfl ?_
    obtain ⟨q14, hq14, h⟩ := Option.bind_eq_some_iff.mp h
    refine cv12 C [] kk91 (m_Mo_costOf C.inj M 0 0 q14 hq14) ci_Mo_costOf rfl lk_X12_322 (by decide) rfl rfl (Nat.le_of_ble_eq_true rfl) dX12_count_87 ?_
    obtain rfl := Option.some.inj h
    exact v_iret C K dX12_count_90
  replace h := (ite_h h).2 c13
  by_cases c15 : a1 = 8
  · replace h := (ite_h h).1 c15
    refine v_tableIn C 91 dX12_count_1 (by rw [c15]; decide) (by rw [c15]; decide) (by rw [c15]; rfl) (by decide) ?_
    refine v_aload_n C 0 dX12_count_91 rfl ?_
    refine g_Mo_finding C kk91 fl_X12_331 dX12_count_92 ?_
    obtain rfl := Option.some.inj h
    exact v_iret C K dX12_count_95
  replace h := (ite_h h).2 c15
  refine v_tableOut C 96 dX12_count_1 (by
      have := ne_toInt c1 (0 : Int) rfl
      have := ne_toInt c3 (1 : Int) rfl
      have := ne_toInt c5 (2 : Int) rfl
      have := ne_toInt c7 (3 : Int) rfl
      have := ne_toInt c8 (4 : Int) rfl
      have := ne_toInt c9 (5 : Int) rfl
      have := ne_toInt c11 (6 : Int) rfl
      have := ne_toInt c13 (7 : Int) rfl
      have := ne_toInt c15 (8 : Int) rfl
      omega) (by decide) ?_
  refine v_bipush C (-2) dX12_count_96 rfl ?_
  obtain rfl := Option.some.inj h
  exact v_iret C K dX12_count_98
theorem m_Mo_count {S : SE} (hI : Inj S) (M : Mem) (a1 : Int32) (q : (Int32 × Mem)) (h : f_Mo_count M a1 = some q) : CM S yX12_count cX12_count 2 (some .int) 8 [.ref (S.2.1 91), .int a1] M (some (.int q.1)) q.2 :=
  CM.of [(0, .ref (S.2.1 91)), (1, .int a1)] hI (by decide) rfl (Nat.le_of_ble_eq_true rfl) (fun X C K => v_Mo_count C K  h)
def f_Mo_answerDigest_l18B (k18 : Int32 → Int64 → Int32 → Mem → Option Int64) (a3 : Int32) (a4 : Int64) (a6 : Int32) (M : Mem) : Option Int64 :=
  if (M 95 (0 : Int32).toNatClampNeg) ≤ a6 then
    some a4
  else
    (f_Mo_answerNow M a3 a6).bind fun q3 =>
    bnd ((31 * a4) + (Int32.toInt64 q3)) fun y4 =>
    k18 a3 y4 (a6 + 1) M
set_option maxRecDepth 20000 in
theorem v_Mo_answerDigest_l18B {S : SE} {X : MX} {q : Int64} {k18 : Int32 → Int64 → Int32 → Mem → Option Int64} {a3 : Int32} {a4 : Int64} {a6 : Int32} {M : Mem} (C : CX S X cX12_answerDigest 7 RX12 1) (K : RT S X (some .long) (some (.long q)) M) (hk18 : ∀ (a3 : Int32) (a4 : Int64) (a6 : Int32), k18 a3 a4 a6 M = some q → V S X 7 M 18 [(0, .ref (S.2.1 91)), (3, .int a3), (4, .long a4), (6, .int a6)] []) (h : f_Mo_answerDigest_l18B k18 a3 a4 a6 M = some q) : V S X 7 M 18 [(0, .ref (S.2.1 91)), (3, .int a3), (4, .long a4), (6, .int a6)] [] := by
  unfold f_Mo_answerDigest_l18B at h
  refine v_iload C 3 dX12_answerDigest_18 rfl ?_
  refine v_aload_n C 0 dX12_answerDigest_20 rfl ?_
  refine g_Mo_rows C kk91 fl_X12_19 dX12_answerDigest_21 ?_
  refine v_iconst C 0 dX12_answerDigest_24 rfl ?_
  refine v_iald C kk95 ll95 (by decide) dX12_answerDigest_25 ?_
  refine v_icmp_ge C 52 dX12_answerDigest_26 (by decide) (fun c5 => ?_) (fun c5 => ?_)
  · replace h := (ite_h h).1 c5
    refine v_lload C 2 dX12_answerDigest_52 rfl ?_
    obtain rfl := Option.some.inj h
    exact v_lret C K dX12_answerDigest_54
  · replace h := (ite_h h).2 c5
    refine v_ldc2 C kc_X12_344 dX12_answerDigest_29 ?_
    refine v_lload C 2 dX12_answerDigest_32 rfl ?_
    refine v_lmul C dX12_answerDigest_34 ?_
    refine v_aload_n C 0 dX12_answerDigest_35 rfl ?_
    refine v_iload_n C 1 dX12_answerDigest_36 rfl ?_
    refine v_iload C 3 dX12_answerDigest_37 rfl ?_
    obtain ⟨q3, hq3, h⟩ := Option.bind_eq_some_iff.mp h
    refine cv12 C [.long (31 * a4)] kk91 (m_Mo_answerNow C.inj M a3 a6 q3 hq3) ci_Mo_answerNow rfl lk_X12_298 (by decide) rfl rfl (Nat.le_of_ble_eq_true rfl) dX12_answerDigest_39 ?_
    refine v_i2l C dX12_answerDigest_42 ?_
    refine v_ladd C dX12_answerDigest_43 ?_
    refine v_nml h (fun y4 h => ?_)
    refine v_lstore C [(4, .long y4), (0, .ref (S.2.1 91)), (3, .int a3), (6, .int a6)] dX12_answerDigest_44 (by decide) rfl ?_
    refine v_iinc C [(6, .int (a6 + 1)), (4, .long y4), (0, .ref (S.2.1 91)), (3, .int a3)] 3 (a6 + 1) dX12_answerDigest_46 rfl rfl (by decide) rfl ?_
    refine v_goto C 18 dX12_answerDigest_49 (by decide) ?_
    refine v_sub [2, 3, 1, 0] rfl ?_
    exact hk18 _ _ _ h
def f_Mo_answerDigest_l18 : Nat → Int32 → Int64 → Int32 → Mem → Option Int64
  | 0, _, _, _, _ => none
  | n + 1, a3, a4, a6, M => f_Mo_answerDigest_l18B (f_Mo_answerDigest_l18 n) a3 a4 a6 M
theorem v_Mo_answerDigest_l18 {S : SE} {X : MX} {q : Int64} {M : Mem} (C : CX S X cX12_answerDigest 7 RX12 1) (K : RT S X (some .long) (some (.long q)) M) : ∀ (n : Nat) (a3 : Int32) (a4 : Int64) (a6 : Int32), f_Mo_answerDigest_l18 n a3 a4 a6 M = some q → V S X 7 M 18 [(0, .ref (S.2.1 91)), (3, .int a3), (4, .long a4), (6, .int a6)] [] := by
  intro n
  induction n with
  | zero => intro a3 a4 a6 h; cases h
  | succ n ih => intro a3 a4 a6 h; exact v_Mo_answerDigest_l18B C K ih h
def f_Mo_answerDigest (M : Mem) (a1 : Int64) (a3 : Int32) : Option Int64 :=
  if gin a3 2 then
    bnd ((31 * a1) + (Int32.toInt64 (M 100 a3.toNatClampNeg))) fun y2 =>
    f_Mo_answerDigest_l18 FU a3 y2 0 M
  else none
set_option maxRecDepth 20000 in
theorem v_Mo_answerDigest {S : SE} {X : MX} {q : Int64} {M : Mem} {a1 : Int64} {a3 : Int32} (C : CX S X cX12_answerDigest 7 RX12 1) (K : RT S X (some .long) (some (.long q)) M) (h : f_Mo_answerDigest M a1 a3 = some q) : V S X 7 M 0 [(0, .ref (S.2.1 91)), (1, .long a1), (3, .int a3)] [] := by
  unfold f_Mo_answerDigest at h
  refine v_ldc2 C kc_X12_344 dX12_answerDigest_0 ?_
  refine v_lload_n C 1 dX12_answerDigest_3 rfl ?_
  refine v_lmul C dX12_answerDigest_4 ?_
  refine v_aload_n C 0 dX12_answerDigest_5 rfl ?_
  refine g_Mo_errorAt C kk91 fl_X12_34 dX12_answerDigest_6 ?_
  refine v_iload_n C 2 dX12_answerDigest_9 rfl ?_
  obtain ⟨g1, h⟩ := gd_h h
  refine v_iald C kk100 ll100 g1 dX12_answerDigest_10 ?_
  refine v_i2l C dX12_answerDigest_11 ?_
  refine v_ladd C dX12_answerDigest_12 ?_
  refine v_nml h (fun y2 h => ?_)
  refine v_lstore C [(4, .long y2), (0, .ref (S.2.1 91)), (1, .long a1), (3, .int a3)] dX12_answerDigest_13 (by decide) rfl ?_
  refine v_iconst C 0 dX12_answerDigest_15 rfl ?_
  refine v_istore C [(6, .int 0), (4, .long y2), (0, .ref (S.2.1 91)), (1, .long a1), (3, .int a3)] dX12_answerDigest_16 (by decide) rfl ?_
  refine v_sub [2, 4, 1, 0] rfl ?_
  exact v_Mo_answerDigest_l18 C K FU _ _ _ h
theorem m_Mo_answerDigest {S : SE} (hI : Inj S) (M : Mem) (a1 : Int64) (a3 : Int32) (q : Int64) (h : f_Mo_answerDigest M a1 a3 = some q) : CM S yX12_answerDigest cX12_answerDigest 7 (some .long) 1 [.ref (S.2.1 91), .long a1, .int a3] M (some (.long q)) M :=
  CM.of [(0, .ref (S.2.1 91)), (1, .long a1), (3, .int a3)] hI (by decide) rfl (Nat.le_of_ble_eq_true rfl) (fun X C K => v_Mo_answerDigest C K  h)
def f_Mo_planDigest_l47B (k47 : Int32 → Int64 → Int32 → Mem → Option (Int64 × Mem)) (a3 : Int32) (a4 : Int64) (a6 : Int32) (M : Mem) : Option (Int64 × Mem) :=
  if 60 ≤ a6 then
    some (a4, M)
  else
    (f_Mo_logOf M a3 a6).bind fun q3 =>
    bnd ((31 * a4) + (Int32.toInt64 q3.1)) fun y4 =>
    k47 a3 y4 (a6 + 1) q3.2
set_option maxRecDepth 20000 in
theorem v_Mo_planDigest_l47B {S : SE} {X : MX} {q : (Int64 × Mem)} {k47 : Int32 → Int64 → Int32 → Mem → Option (Int64 × Mem)} {a3 : Int32} {a4 : Int64} {a6 : Int32} {M : Mem} (C : CX S X cX12_planDigest 7 RX12 8) (K : RT S X (some .long) (some (.long q.1)) q.2) (hk47 : ∀ (a3 : Int32) (a4 : Int64) (a6 : Int32) (M : Mem), k47 a3 a4 a6 M = some q → V S X 7 M 47 [(0, .ref (S.2.1 91)), (3, .int a3), (4, .long a4), (6, .int a6)] []) (h : f_Mo_planDigest_l47B k47 a3 a4 a6 M = some q) : V S X 7 M 47 [(0, .ref (S.2.1 91)), (3, .int a3), (4, .long a4), (6, .int a6)] [] := by
  unfold f_Mo_planDigest_l47B at h
  refine v_iload C 3 dX12_planDigest_47 rfl ?_
  refine v_bipush C 60 dX12_planDigest_49 rfl ?_
  refine v_icmp_ge C 77 dX12_planDigest_51 (by decide) (fun c5 => ?_) (fun c5 => ?_)
  · replace h := (ite_h h).1 c5
    refine v_lload C 2 dX12_planDigest_77 rfl ?_
    obtain rfl := Option.some.inj h
    exact v_lret C K dX12_planDigest_79
  · replace h := (ite_h h).2 c5
    refine v_ldc2 C kc_X12_344 dX12_planDigest_54 ?_
    refine v_lload C 2 dX12_planDigest_57 rfl ?_
    refine v_lmul C dX12_planDigest_59 ?_
    refine v_aload_n C 0 dX12_planDigest_60 rfl ?_
    refine v_iload_n C 1 dX12_planDigest_61 rfl ?_
    refine v_iload C 3 dX12_planDigest_62 rfl ?_
    obtain ⟨q3, hq3, h⟩ := Option.bind_eq_some_iff.mp h
    refine cv12 C [.long (31 * a4)] kk91 (m_Mo_logOf C.inj M a3 a6 q3 hq3) ci_Mo_logOf rfl lk_X12_325 (by decide) rfl rfl (Nat.le_of_ble_eq_true rfl) dX12_planDigest_64 ?_
    refine v_i2l C dX12_planDigest_67 ?_
    refine v_ladd C dX12_planDigest_68 ?_
    refine v_nml h (fun y4 h => ?_)
    refine v_lstore C [(4, .long y4), (0, .ref (S.2.1 91)), (3, .int a3), (6, .int a6)] dX12_planDigest_69 (by decide) rfl ?_
    refine v_iinc C [(6, .int (a6 + 1)), (4, .long y4), (0, .ref (S.2.1 91)), (3, .int a3)] 3 (a6 + 1) dX12_planDigest_71 rfl rfl (by decide) rfl ?_
    refine v_goto C 47 dX12_planDigest_74 (by decide) ?_
    refine v_sub [2, 3, 1, 0] rfl ?_
    exact hk47 _ _ _ _ h
def f_Mo_planDigest_l47 : Nat → Int32 → Int64 → Int32 → Mem → Option (Int64 × Mem)
  | 0, _, _, _, _ => none
  | n + 1, a3, a4, a6, M => f_Mo_planDigest_l47B (f_Mo_planDigest_l47 n) a3 a4 a6 M
theorem v_Mo_planDigest_l47 {S : SE} {X : MX} {q : (Int64 × Mem)} (C : CX S X cX12_planDigest 7 RX12 8) (K : RT S X (some .long) (some (.long q.1)) q.2) : ∀ (n : Nat) (a3 : Int32) (a4 : Int64) (a6 : Int32) (M : Mem), f_Mo_planDigest_l47 n a3 a4 a6 M = some q → V S X 7 M 47 [(0, .ref (S.2.1 91)), (3, .int a3), (4, .long a4), (6, .int a6)] [] := by
  intro n
  induction n with
  | zero => intro a3 a4 a6 M h; cases h
  | succ n ih => intro a3 a4 a6 M h; exact v_Mo_planDigest_l47B C K ih h
def f_Mo_planDigest_l15B (k15 : Int32 → Int64 → Int32 → Mem → Option (Int64 × Mem)) (a3 : Int32) (a4 : Int64) (a6 : Int32) (M : Mem) : Option (Int64 × Mem) :=
  if 5 ≤ a6 then
    f_Mo_planDigest_l47 FU a3 a4 0 M
  else
    (f_Mo_costOf M a3 a6).bind fun q6 =>
    bnd ((31 * a4) + (Int32.toInt64 q6.1)) fun y7 =>
    k15 a3 y7 (a6 + 1) q6.2
set_option maxRecDepth 20000 in
theorem v_Mo_planDigest_l15B {S : SE} {X : MX} {q : (Int64 × Mem)} {k15 : Int32 → Int64 → Int32 → Mem → Option (Int64 × Mem)} {a3 : Int32} {a4 : Int64} {a6 : Int32} {M : Mem} (C : CX S X cX12_planDigest 7 RX12 8) (K : RT S X (some .long) (some (.long q.1)) q.2) (hk15 : ∀ (a3 : Int32) (a4 : Int64) (a6 : Int32) (M : Mem), k15 a3 a4 a6 M = some q → V S X 7 M 15 [(0, .ref (S.2.1 91)), (3, .int a3), (4, .long a4), (6, .int a6)] []) (h : f_Mo_planDigest_l15B k15 a3 a4 a6 M = some q) : V S X 7 M 15 [(0, .ref (S.2.1 91)), (3, .int a3), (4, .long a4), (6, .int a6)] [] := by
  unfold f_Mo_planDigest_l15B at h
  refine v_iload C 3 dX12_planDigest_15 rfl ?_
  refine v_iconst C 5 dX12_planDigest_17 rfl ?_
  refine v_icmp_ge C 44 dX12_planDigest_18 (by decide) (fun c8 => ?_) (fun c8 => ?_)
  · replace h := (ite_h h).1 c8
    refine v_iconst C 0 dX12_planDigest_44 rfl ?_
    refine v_istore C [(6, .int 0), (0, .ref (S.2.1 91)), (3, .int a3), (4, .long a4)] dX12_planDigest_45 (by decide) rfl ?_
    refine v_sub [1, 2, 3, 0] rfl ?_
    exact v_Mo_planDigest_l47 C K FU _ _ _ _ h
  · replace h := (ite_h h).2 c8
    refine v_ldc2 C kc_X12_344 dX12_planDigest_21 ?_
    refine v_lload C 2 dX12_planDigest_24 rfl ?_
    refine v_lmul C dX12_planDigest_26 ?_
    refine v_aload_n C 0 dX12_planDigest_27 rfl ?_
    refine v_iload_n C 1 dX12_planDigest_28 rfl ?_
    refine v_iload C 3 dX12_planDigest_29 rfl ?_
    obtain ⟨q6, hq6, h⟩ := Option.bind_eq_some_iff.mp h
    refine cv12 C [.long (31 * a4)] kk91 (m_Mo_costOf C.inj M a3 a6 q6 hq6) ci_Mo_costOf rfl lk_X12_322 (by decide) rfl rfl (Nat.le_of_ble_eq_true rfl) dX12_planDigest_31 ?_
    refine v_i2l C dX12_planDigest_34 ?_
    refine v_ladd C dX12_planDigest_35 ?_
    refine v_nml h (fun y7 h => ?_)
    refine v_lstore C [(4, .long y7), (0, .ref (S.2.1 91)), (3, .int a3), (6, .int a6)] dX12_planDigest_36 (by decide) rfl ?_
    refine v_iinc C [(6, .int (a6 + 1)), (4, .long y7), (0, .ref (S.2.1 91)), (3, .int a3)] 3 (a6 + 1) dX12_planDigest_38 rfl rfl (by decide) rfl ?_
    refine v_goto C 15 dX12_planDigest_41 (by decide) ?_
    refine v_sub [2, 3, 1, 0] rfl ?_
    exact hk15 _ _ _ _ h
def f_Mo_planDigest_l15 : Nat → Int32 → Int64 → Int32 → Mem → Option (Int64 × Mem)
  | 0, _, _, _, _ => none
  | n + 1, a3, a4, a6, M => f_Mo_planDigest_l15B (f_Mo_planDigest_l15 n) a3 a4 a6 M
theorem v_Mo_planDigest_l15 {S : SE} {X : MX} {q : (Int64 × Mem)} (C : CX S X cX12_planDigest 7 RX12 8) (K : RT S X (some .long) (some (.long q.1)) q.2) : ∀ (n : Nat) (a3 : Int32) (a4 : Int64) (a6 : Int32) (M : Mem), f_Mo_planDigest_l15 n a3 a4 a6 M = some q → V S X 7 M 15 [(0, .ref (S.2.1 91)), (3, .int a3), (4, .long a4), (6, .int a6)] [] := by
  intro n
  induction n with
  | zero => intro a3 a4 a6 M h; cases h
  | succ n ih => intro a3 a4 a6 M h; exact v_Mo_planDigest_l15B C K ih h
def f_Mo_planDigest (M : Mem) (a1 : Int64) (a3 : Int32) : Option (Int64 × Mem) :=
  (f_Mo_runsTold M).bind fun q1 =>
  (f_Mo_answerDigest q1 a1 a3).bind fun q2 =>
  f_Mo_planDigest_l15 FU a3 q2 0 q1
set_option maxRecDepth 20000 in
theorem v_Mo_planDigest {S : SE} {X : MX} {q : (Int64 × Mem)} {M : Mem} {a1 : Int64} {a3 : Int32} (C : CX S X cX12_planDigest 7 RX12 8) (K : RT S X (some .long) (some (.long q.1)) q.2) (h : f_Mo_planDigest M a1 a3 = some q) : V S X 7 M 0 [(0, .ref (S.2.1 91)), (1, .long a1), (3, .int a3)] [] := by
  unfold f_Mo_planDigest at h
  refine v_aload_n C 0 dX12_planDigest_0 rfl ?_
  obtain ⟨q1, hq1, h⟩ := Option.bind_eq_some_iff.mp h
  refine cv12v C [] kk91 (m_Mo_runsTold C.inj M q1 hq1) ci_Mo_runsTold rfl lk_X12_292 (by decide) rfl rfl (Nat.le_of_ble_eq_true rfl) dX12_planDigest_1 ?_
  refine v_aload_n C 0 dX12_planDigest_4 rfl ?_
  refine v_lload_n C 1 dX12_planDigest_5 rfl ?_
  refine v_iload_n C 2 dX12_planDigest_6 rfl ?_
  obtain ⟨q2, hq2, h⟩ := Option.bind_eq_some_iff.mp h
  refine cv12 C [] kk91 (m_Mo_answerDigest C.inj q1 a1 a3 q2 hq2) ci_Mo_answerDigest rfl lk_X12_346 (by decide) rfl rfl (Nat.le_of_ble_eq_true rfl) dX12_planDigest_7 ?_
  refine v_lstore C [(4, .long q2), (0, .ref (S.2.1 91)), (1, .long a1), (3, .int a3)] dX12_planDigest_10 (by decide) rfl ?_
  refine v_iconst C 0 dX12_planDigest_12 rfl ?_
  refine v_istore C [(6, .int 0), (4, .long q2), (0, .ref (S.2.1 91)), (1, .long a1), (3, .int a3)] dX12_planDigest_13 (by decide) rfl ?_
  refine v_sub [2, 4, 1, 0] rfl ?_
  exact v_Mo_planDigest_l15 C K FU _ _ _ _ h
theorem m_Mo_planDigest {S : SE} (hI : Inj S) (M : Mem) (a1 : Int64) (a3 : Int32) (q : (Int64 × Mem)) (h : f_Mo_planDigest M a1 a3 = some q) : CM S yX12_planDigest cX12_planDigest 7 (some .long) 8 [.ref (S.2.1 91), .long a1, .int a3] M (some (.long q.1)) q.2 :=
  CM.of [(0, .ref (S.2.1 91)), (1, .long a1), (3, .int a3)] hI (by decide) rfl (Nat.le_of_ble_eq_true rfl) (fun X C K => v_Mo_planDigest C K  h)
def f_Mo_digest_l306B (k306 : Int64 → Int32 → Mem → Option (Int64 × Mem)) (a1 : Int64) (a3 : Int32) (M : Mem) : Option (Int64 × Mem) :=
  if 9 ≤ a3 then
    some (a1, M)
  else
    (f_Mo_runs M a3).bind fun q13 =>
    (f_Mo_answerDigest q13 a1 0).bind fun q14 =>
    (f_Mo_answerDigest q13 q14 1).bind fun q15 =>
    k306 q15 (a3 + 1) q13
set_option maxRecDepth 20000 in
theorem v_Mo_digest_l306B {S : SE} {X : MX} {q : (Int64 × Mem)} {k306 : Int64 → Int32 → Mem → Option (Int64 × Mem)} {a1 : Int64} {a3 : Int32} {M : Mem} (C : CX S X cX12_digest 4 RX12 9) (K : RT S X (some .long) (some (.long q.1)) q.2) (hk306 : ∀ (a1 : Int64) (a3 : Int32) (M : Mem), k306 a1 a3 M = some q → V S X 4 M 306 [(0, .ref (S.2.1 91)), (1, .long a1), (3, .int a3)] []) (h : f_Mo_digest_l306B k306 a1 a3 M = some q) : V S X 4 M 306 [(0, .ref (S.2.1 91)), (1, .long a1), (3, .int a3)] [] := by
  unfold f_Mo_digest_l306B at h
  refine v_iload_n C 2 dX12_digest_306 rfl ?_
  refine v_bipush C 9 dX12_digest_307 rfl ?_
  refine v_icmp_ge C 337 dX12_digest_309 (by decide) (fun c16 => ?_) (fun c16 => ?_)
  · replace h := (ite_h h).1 c16
    refine v_lload_n C 1 dX12_digest_337 rfl ?_
    obtain rfl := Option.some.inj h
    exact v_lret C K dX12_digest_338
  · replace h := (ite_h h).2 c16
    refine v_aload_n C 0 dX12_digest_312 rfl ?_
    refine v_iload_n C 2 dX12_digest_313 rfl ?_
    obtain ⟨q13, hq13, h⟩ := Option.bind_eq_some_iff.mp h
    refine cv12v C [] kk91 (m_Mo_runs C.inj M a3 q13 hq13) ci_Mo_runs rfl lk_X12_289 (by decide) rfl rfl (Nat.le_of_ble_eq_true rfl) dX12_digest_314 ?_
    refine v_aload_n C 0 dX12_digest_317 rfl ?_
    refine v_lload_n C 1 dX12_digest_318 rfl ?_
    refine v_iconst C 0 dX12_digest_319 rfl ?_
    obtain ⟨q14, hq14, h⟩ := Option.bind_eq_some_iff.mp h
    refine cv12 C [] kk91 (m_Mo_answerDigest C.inj q13 a1 0 q14 hq14) ci_Mo_answerDigest rfl lk_X12_346 (by decide) rfl rfl (Nat.le_of_ble_eq_true rfl) dX12_digest_320 ?_
    refine v_lstore_n C [(1, .long q14), (0, .ref (S.2.1 91)), (3, .int a3)] dX12_digest_323 (by decide) rfl ?_
    refine v_aload_n C 1 dX12_digest_324 rfl ?_
    refine v_lload_n C 0 dX12_digest_325 rfl ?_
    refine v_iconst C 1 dX12_digest_326 rfl ?_
    obtain ⟨q15, hq15, h⟩ := Option.bind_eq_some_iff.mp h
    refine cv12 C [] kk91 (m_Mo_answerDigest C.inj q13 q14 1 q15 hq15) ci_Mo_answerDigest rfl lk_X12_346 (by decide) rfl rfl (Nat.le_of_ble_eq_true rfl) dX12_digest_327 ?_
    refine v_lstore_n C [(1, .long q15), (0, .ref (S.2.1 91)), (3, .int a3)] dX12_digest_330 (by decide) rfl ?_
    refine v_iinc C [(3, .int (a3 + 1)), (1, .long q15), (0, .ref (S.2.1 91))] 2 (a3 + 1) dX12_digest_331 rfl rfl (by decide) rfl ?_
    refine v_goto C 306 dX12_digest_334 (by decide) ?_
    refine v_sub [2, 1, 0] rfl ?_
    exact hk306 _ _ _ h
def f_Mo_digest_l306 : Nat → Int64 → Int32 → Mem → Option (Int64 × Mem)
  | 0, _, _, _ => none
  | n + 1, a1, a3, M => f_Mo_digest_l306B (f_Mo_digest_l306 n) a1 a3 M
theorem v_Mo_digest_l306 {S : SE} {X : MX} {q : (Int64 × Mem)} (C : CX S X cX12_digest 4 RX12 9) (K : RT S X (some .long) (some (.long q.1)) q.2) : ∀ (n : Nat) (a1 : Int64) (a3 : Int32) (M : Mem), f_Mo_digest_l306 n a1 a3 M = some q → V S X 4 M 306 [(0, .ref (S.2.1 91)), (1, .long a1), (3, .int a3)] [] := by
  intro n
  induction n with
  | zero => intro a1 a3 M h; cases h
  | succ n ih => intro a1 a3 M h; exact v_Mo_digest_l306B C K ih h
def f_Mo_digest_l264B (k264 : Int64 → Int32 → Mem → Option (Int64 × Mem)) (a1 : Int64) (a3 : Int32) (M : Mem) : Option (Int64 × Mem) :=
  if 10 ≤ a3 then
    f_Mo_digest_l306 FU a1 0 M
  else
    (f_Mo_domainOf M a3 0).bind fun q17 =>
    bnd ((31 * a1) + (Int32.toInt64 q17.1)) fun y18 =>
    (f_Mo_domainOf q17.2 a3 1).bind fun q19 =>
    bnd ((31 * y18) + (Int32.toInt64 q19.1)) fun y20 =>
    k264 y20 (a3 + 1) q19.2
set_option maxRecDepth 20000 in
theorem v_Mo_digest_l264B {S : SE} {X : MX} {q : (Int64 × Mem)} {k264 : Int64 → Int32 → Mem → Option (Int64 × Mem)} {a1 : Int64} {a3 : Int32} {M : Mem} (C : CX S X cX12_digest 4 RX12 9) (K : RT S X (some .long) (some (.long q.1)) q.2) (hk264 : ∀ (a1 : Int64) (a3 : Int32) (M : Mem), k264 a1 a3 M = some q → V S X 4 M 264 [(0, .ref (S.2.1 91)), (1, .long a1), (3, .int a3)] []) (h : f_Mo_digest_l264B k264 a1 a3 M = some q) : V S X 4 M 264 [(0, .ref (S.2.1 91)), (1, .long a1), (3, .int a3)] [] := by
  unfold f_Mo_digest_l264B at h
  refine v_iload_n C 2 dX12_digest_264 rfl ?_
  refine v_bipush C 10 dX12_digest_265 rfl ?_
  refine v_icmp_ge C 304 dX12_digest_267 (by decide) (fun c21 => ?_) (fun c21 => ?_)
  · replace h := (ite_h h).1 c21
    refine v_iconst C 0 dX12_digest_304 rfl ?_
    refine v_istore_n C [(3, .int 0), (0, .ref (S.2.1 91)), (1, .long a1)] dX12_digest_305 (by decide) rfl ?_
    refine v_sub [1, 2, 0] rfl ?_
    exact v_Mo_digest_l306 C K FU _ _ _ h
  · replace h := (ite_h h).2 c21
    refine v_ldc2 C kc_X12_344 dX12_digest_270 ?_
    refine v_lload_n C 1 dX12_digest_273 rfl ?_
    refine v_lmul C dX12_digest_274 ?_
    refine v_aload_n C 0 dX12_digest_275 rfl ?_
    refine v_iload_n C 2 dX12_digest_276 rfl ?_
    refine v_iconst C 0 dX12_digest_277 rfl ?_
    obtain ⟨q17, hq17, h⟩ := Option.bind_eq_some_iff.mp h
    refine cv12 C [.long (31 * a1)] kk91 (m_Mo_domainOf C.inj M a3 0 q17 hq17) ci_Mo_domainOf rfl lk_X12_316 (by decide) rfl rfl (Nat.le_of_ble_eq_true rfl) dX12_digest_278 ?_
    refine v_i2l C dX12_digest_281 ?_
    refine v_ladd C dX12_digest_282 ?_
    refine v_nml h (fun y18 h => ?_)
    refine v_lstore_n C [(1, .long y18), (0, .ref (S.2.1 91)), (3, .int a3)] dX12_digest_283 (by decide) rfl ?_
    refine v_ldc2 C kc_X12_344 dX12_digest_284 ?_
    refine v_lload_n C 0 dX12_digest_287 rfl ?_
    refine v_lmul C dX12_digest_288 ?_
    refine v_aload_n C 1 dX12_digest_289 rfl ?_
    refine v_iload_n C 2 dX12_digest_290 rfl ?_
    refine v_iconst C 1 dX12_digest_291 rfl ?_
    obtain ⟨q19, hq19, h⟩ := Option.bind_eq_some_iff.mp h
    refine cv12 C [.long (31 * y18)] kk91 (m_Mo_domainOf C.inj q17.2 a3 1 q19 hq19) ci_Mo_domainOf rfl lk_X12_316 (by decide) rfl rfl (Nat.le_of_ble_eq_true rfl) dX12_digest_292 ?_
    refine v_i2l C dX12_digest_295 ?_
    refine v_ladd C dX12_digest_296 ?_
    refine v_nml h (fun y20 h => ?_)
    refine v_lstore_n C [(1, .long y20), (0, .ref (S.2.1 91)), (3, .int a3)] dX12_digest_297 (by decide) rfl ?_
    refine v_iinc C [(3, .int (a3 + 1)), (1, .long y20), (0, .ref (S.2.1 91))] 2 (a3 + 1) dX12_digest_298 rfl rfl (by decide) rfl ?_
    refine v_goto C 264 dX12_digest_301 (by decide) ?_
    refine v_sub [2, 1, 0] rfl ?_
    exact hk264 _ _ _ h
def f_Mo_digest_l264 : Nat → Int64 → Int32 → Mem → Option (Int64 × Mem)
  | 0, _, _, _ => none
  | n + 1, a1, a3, M => f_Mo_digest_l264B (f_Mo_digest_l264 n) a1 a3 M
theorem v_Mo_digest_l264 {S : SE} {X : MX} {q : (Int64 × Mem)} (C : CX S X cX12_digest 4 RX12 9) (K : RT S X (some .long) (some (.long q.1)) q.2) : ∀ (n : Nat) (a1 : Int64) (a3 : Int32) (M : Mem), f_Mo_digest_l264 n a1 a3 M = some q → V S X 4 M 264 [(0, .ref (S.2.1 91)), (1, .long a1), (3, .int a3)] [] := by
  intro n
  induction n with
  | zero => intro a1 a3 M h; cases h
  | succ n ih => intro a1 a3 M h; exact v_Mo_digest_l264B C K ih h
def f_Mo_digest_l133B (k133 : Int64 → Int32 → Mem → Option (Int64 × Mem)) (a1 : Int64) (a3 : Int32) (M : Mem) : Option (Int64 × Mem) :=
  if 12 ≤ a3 then
    (f_Mo_speaksOf M).bind fun q1 =>
    bnd ((31 * a1) + (Int32.toInt64 q1.1)) fun y2 =>
    (f_Mo_domainOf q1.2 (-1) 0).bind fun q3 =>
    bnd ((31 * y2) + (Int32.toInt64 q3.1)) fun y4 =>
    (f_Mo_sameOf q3.2).bind fun q5 =>
    bnd ((31 * y4) + (Int32.toInt64 q5.1)) fun y6 =>
    (f_Mo_totalOf q5.2).bind fun q7 =>
    bnd ((31 * y6) + (Int32.toInt64 q7.1)) fun y8 =>
    (f_Mo_spareOf q7.2).bind fun q9 =>
    bnd ((31 * y8) + (Int32.toInt64 q9.1)) fun y10 =>
    (f_Mo_planDigest q9.2 y10 0).bind fun q11 =>
    (f_Mo_planDigest q11.2 q11.1 1).bind fun q12 =>
    f_Mo_digest_l264 FU q12.1 0 q12.2
  else
    (f_Mo_stepOf M a3 0).bind fun q22 =>
    bnd ((31 * a1) + (Int32.toInt64 q22.1)) fun y23 =>
    (f_Mo_stepOf q22.2 a3 1).bind fun q24 =>
    bnd ((31 * y23) + (Int32.toInt64 q24.1)) fun y25 =>
    (f_Mo_planOf q24.2 a3).bind fun q26 =>
    bnd ((31 * y25) + (Int32.toInt64 q26.1)) fun y27 =>
    k133 y27 (a3 + 1) q26.2
set_option maxRecDepth 20000 in
theorem v_Mo_digest_l133B {S : SE} {X : MX} {q : (Int64 × Mem)} {k133 : Int64 → Int32 → Mem → Option (Int64 × Mem)} {a1 : Int64} {a3 : Int32} {M : Mem} (C : CX S X cX12_digest 4 RX12 9) (K : RT S X (some .long) (some (.long q.1)) q.2) (hk133 : ∀ (a1 : Int64) (a3 : Int32) (M : Mem), k133 a1 a3 M = some q → V S X 4 M 133 [(0, .ref (S.2.1 91)), (1, .long a1), (3, .int a3)] []) (h : f_Mo_digest_l133B k133 a1 a3 M = some q) : V S X 4 M 133 [(0, .ref (S.2.1 91)), (1, .long a1), (3, .int a3)] [] := by
  unfold f_Mo_digest_l133B at h
  refine v_iload_n C 2 dX12_digest_133 rfl ?_
  refine v_bipush C 12 dX12_digest_134 rfl ?_
  refine v_icmp_ge C 186 dX12_digest_136 (by decide) (fun c28 => ?_) (fun c28 => ?_)
  · replace h := (ite_h h).1 c28
    refine v_ldc2 C kc_X12_344 dX12_digest_186 ?_
    refine v_lload_n C 1 dX12_digest_189 rfl ?_
    refine v_lmul C dX12_digest_190 ?_
    refine v_aload_n C 0 dX12_digest_191 rfl ?_
    obtain ⟨q1, hq1, h⟩ := Option.bind_eq_some_iff.mp h
    refine cv12 C [.long (31 * a1)] kk91 (m_Mo_speaksOf C.inj M q1 hq1) ci_Mo_speaksOf rfl lk_X12_313 (by decide) rfl rfl (Nat.le_of_ble_eq_true rfl) dX12_digest_192 ?_
    refine v_i2l C dX12_digest_195 ?_
    refine v_ladd C dX12_digest_196 ?_
    refine v_nml h (fun y2 h => ?_)
    refine v_lstore_n C [(1, .long y2), (0, .ref (S.2.1 91)), (3, .int a3)] dX12_digest_197 (by decide) rfl ?_
    refine v_ldc2 C kc_X12_344 dX12_digest_198 ?_
    refine v_lload_n C 0 dX12_digest_201 rfl ?_
    refine v_lmul C dX12_digest_202 ?_
    refine v_aload_n C 1 dX12_digest_203 rfl ?_
    refine v_iconst C (-1) dX12_digest_204 rfl ?_
    refine v_iconst C 0 dX12_digest_205 rfl ?_
    obtain ⟨q3, hq3, h⟩ := Option.bind_eq_some_iff.mp h
    refine cv12 C [.long (31 * y2)] kk91 (m_Mo_domainOf C.inj q1.2 (-1) 0 q3 hq3) ci_Mo_domainOf rfl lk_X12_316 (by decide) rfl rfl (Nat.le_of_ble_eq_true rfl) dX12_digest_206 ?_
    refine v_i2l C dX12_digest_209 ?_
    refine v_ladd C dX12_digest_210 ?_
    refine v_nml h (fun y4 h => ?_)
    refine v_lstore_n C [(1, .long y4), (0, .ref (S.2.1 91)), (3, .int a3)] dX12_digest_211 (by decide) rfl ?_
    refine v_ldc2 C kc_X12_344 dX12_digest_212 ?_
    refine v_lload_n C 0 dX12_digest_215 rfl ?_
    refine v_lmul C dX12_digest_216 ?_
    refine v_aload_n C 1 dX12_digest_217 rfl ?_
    obtain ⟨q5, hq5, h⟩ := Option.bind_eq_some_iff.mp h
    refine cv12 C [.long (31 * y4)] kk91 (m_Mo_sameOf C.inj q3.2 q5 hq5) ci_Mo_sameOf rfl lk_X12_304 (by decide) rfl rfl (Nat.le_of_ble_eq_true rfl) dX12_digest_218 ?_
    refine v_i2l C dX12_digest_221 ?_
    refine v_ladd C dX12_digest_222 ?_
    refine v_nml h (fun y6 h => ?_)
    refine v_lstore_n C [(1, .long y6), (0, .ref (S.2.1 91)), (3, .int a3)] dX12_digest_223 (by decide) rfl ?_
    refine v_ldc2 C kc_X12_344 dX12_digest_224 ?_
    refine v_lload_n C 0 dX12_digest_227 rfl ?_
    refine v_lmul C dX12_digest_228 ?_
    refine v_aload_n C 1 dX12_digest_229 rfl ?_
    obtain ⟨q7, hq7, h⟩ := Option.bind_eq_some_iff.mp h
    refine cv12 C [.long (31 * y6)] kk91 (m_Mo_totalOf C.inj q5.2 q7 hq7) ci_Mo_totalOf rfl lk_X12_310 (by decide) rfl rfl (Nat.le_of_ble_eq_true rfl) dX12_digest_230 ?_
    refine v_i2l C dX12_digest_233 ?_
    refine v_ladd C dX12_digest_234 ?_
    refine v_nml h (fun y8 h => ?_)
    refine v_lstore_n C [(1, .long y8), (0, .ref (S.2.1 91)), (3, .int a3)] dX12_digest_235 (by decide) rfl ?_
    refine v_ldc2 C kc_X12_344 dX12_digest_236 ?_
    refine v_lload_n C 0 dX12_digest_239 rfl ?_
    refine v_lmul C dX12_digest_240 ?_
    refine v_aload_n C 1 dX12_digest_241 rfl ?_
    obtain ⟨q9, hq9, h⟩ := Option.bind_eq_some_iff.mp h
    refine cv12 C [.long (31 * y8)] kk91 (m_Mo_spareOf C.inj q7.2 q9 hq9) ci_Mo_spareOf rfl lk_X12_328 (by decide) rfl rfl (Nat.le_of_ble_eq_true rfl) dX12_digest_242 ?_
    refine v_i2l C dX12_digest_245 ?_
    refine v_ladd C dX12_digest_246 ?_
    refine v_nml h (fun y10 h => ?_)
    refine v_lstore_n C [(1, .long y10), (0, .ref (S.2.1 91)), (3, .int a3)] dX12_digest_247 (by decide) rfl ?_
    refine v_aload_n C 1 dX12_digest_248 rfl ?_
    refine v_lload_n C 0 dX12_digest_249 rfl ?_
    refine v_iconst C 0 dX12_digest_250 rfl ?_
    obtain ⟨q11, hq11, h⟩ := Option.bind_eq_some_iff.mp h
    refine cv12 C [] kk91 (m_Mo_planDigest C.inj q9.2 y10 0 q11 hq11) ci_Mo_planDigest rfl lk_X12_355 (by decide) rfl rfl (Nat.le_of_ble_eq_true rfl) dX12_digest_251 ?_
    refine v_lstore_n C [(1, .long q11.1), (0, .ref (S.2.1 91)), (3, .int a3)] dX12_digest_254 (by decide) rfl ?_
    refine v_aload_n C 1 dX12_digest_255 rfl ?_
    refine v_lload_n C 0 dX12_digest_256 rfl ?_
    refine v_iconst C 1 dX12_digest_257 rfl ?_
    obtain ⟨q12, hq12, h⟩ := Option.bind_eq_some_iff.mp h
    refine cv12 C [] kk91 (m_Mo_planDigest C.inj q11.2 q11.1 1 q12 hq12) ci_Mo_planDigest rfl lk_X12_355 (by decide) rfl rfl (Nat.le_of_ble_eq_true rfl) dX12_digest_258 ?_
    refine v_lstore_n C [(1, .long q12.1), (0, .ref (S.2.1 91)), (3, .int a3)] dX12_digest_261 (by decide) rfl ?_
    refine v_iconst C 0 dX12_digest_262 rfl ?_
    refine v_istore_n C [(3, .int 0), (1, .long q12.1), (0, .ref (S.2.1 91))] dX12_digest_263 (by decide) rfl ?_
    refine v_sub [2, 1, 0] rfl ?_
    exact v_Mo_digest_l264 C K FU _ _ _ h
  · replace h := (ite_h h).2 c28
    refine v_ldc2 C kc_X12_344 dX12_digest_139 ?_
    refine v_lload_n C 1 dX12_digest_142 rfl ?_
    refine v_lmul C dX12_digest_143 ?_
    refine v_aload_n C 0 dX12_digest_144 rfl ?_
    refine v_iload_n C 2 dX12_digest_145 rfl ?_
    refine v_iconst C 0 dX12_digest_146 rfl ?_
    obtain ⟨q22, hq22, h⟩ := Option.bind_eq_some_iff.mp h
    refine cv12 C [.long (31 * a1)] kk91 (m_Mo_stepOf C.inj M a3 0 q22 hq22) ci_Mo_stepOf rfl lk_X12_172 (by decide) rfl rfl (Nat.le_of_ble_eq_true rfl) dX12_digest_147 ?_
    refine v_i2l C dX12_digest_150 ?_
    refine v_ladd C dX12_digest_151 ?_
    refine v_nml h (fun y23 h => ?_)
    refine v_lstore_n C [(1, .long y23), (0, .ref (S.2.1 91)), (3, .int a3)] dX12_digest_152 (by decide) rfl ?_
    refine v_ldc2 C kc_X12_344 dX12_digest_153 ?_
    refine v_lload_n C 0 dX12_digest_156 rfl ?_
    refine v_lmul C dX12_digest_157 ?_
    refine v_aload_n C 1 dX12_digest_158 rfl ?_
    refine v_iload_n C 2 dX12_digest_159 rfl ?_
    refine v_iconst C 1 dX12_digest_160 rfl ?_
    obtain ⟨q24, hq24, h⟩ := Option.bind_eq_some_iff.mp h
    refine cv12 C [.long (31 * y23)] kk91 (m_Mo_stepOf C.inj q22.2 a3 1 q24 hq24) ci_Mo_stepOf rfl lk_X12_172 (by decide) rfl rfl (Nat.le_of_ble_eq_true rfl) dX12_digest_161 ?_
    refine v_i2l C dX12_digest_164 ?_
    refine v_ladd C dX12_digest_165 ?_
    refine v_nml h (fun y25 h => ?_)
    refine v_lstore_n C [(1, .long y25), (0, .ref (S.2.1 91)), (3, .int a3)] dX12_digest_166 (by decide) rfl ?_
    refine v_ldc2 C kc_X12_344 dX12_digest_167 ?_
    refine v_lload_n C 0 dX12_digest_170 rfl ?_
    refine v_lmul C dX12_digest_171 ?_
    refine v_aload_n C 1 dX12_digest_172 rfl ?_
    refine v_iload_n C 2 dX12_digest_173 rfl ?_
    obtain ⟨q26, hq26, h⟩ := Option.bind_eq_some_iff.mp h
    refine cv12 C [.long (31 * y25)] kk91 (m_Mo_planOf C.inj q24.2 a3 q26 hq26) ci_Mo_planOf rfl lk_X12_319 (by decide) rfl rfl (Nat.le_of_ble_eq_true rfl) dX12_digest_174 ?_
    refine v_i2l C dX12_digest_177 ?_
    refine v_ladd C dX12_digest_178 ?_
    refine v_nml h (fun y27 h => ?_)
    refine v_lstore_n C [(1, .long y27), (0, .ref (S.2.1 91)), (3, .int a3)] dX12_digest_179 (by decide) rfl ?_
    refine v_iinc C [(3, .int (a3 + 1)), (1, .long y27), (0, .ref (S.2.1 91))] 2 (a3 + 1) dX12_digest_180 rfl rfl (by decide) rfl ?_
    refine v_goto C 133 dX12_digest_183 (by decide) ?_
    refine v_sub [2, 1, 0] rfl ?_
    exact hk133 _ _ _ h
def f_Mo_digest_l133 : Nat → Int64 → Int32 → Mem → Option (Int64 × Mem)
  | 0, _, _, _ => none
  | n + 1, a1, a3, M => f_Mo_digest_l133B (f_Mo_digest_l133 n) a1 a3 M
theorem v_Mo_digest_l133 {S : SE} {X : MX} {q : (Int64 × Mem)} (C : CX S X cX12_digest 4 RX12 9) (K : RT S X (some .long) (some (.long q.1)) q.2) : ∀ (n : Nat) (a1 : Int64) (a3 : Int32) (M : Mem), f_Mo_digest_l133 n a1 a3 M = some q → V S X 4 M 133 [(0, .ref (S.2.1 91)), (1, .long a1), (3, .int a3)] [] := by
  intro n
  induction n with
  | zero => intro a1 a3 M h; cases h
  | succ n ih => intro a1 a3 M h; exact v_Mo_digest_l133B C K ih h
def f_Mo_digest_l59B (k59 : Int64 → Int32 → Mem → Option (Int64 × Mem)) (a1 : Int64) (a3 : Int32) (M : Mem) : Option (Int64 × Mem) :=
  if 10 ≤ a3 then
    f_Mo_digest_l133 FU a1 0 M
  else
    (f_Mo_rowOf M 0 a3 0).bind fun q29 =>
    bnd ((31 * a1) + (Int32.toInt64 q29.1)) fun y30 =>
    (f_Mo_rowOf q29.2 0 a3 1).bind fun q31 =>
    bnd ((31 * y30) + (Int32.toInt64 q31.1)) fun y32 =>
    (f_Mo_rowOf q31.2 1 a3 0).bind fun q33 =>
    bnd ((31 * y32) + (Int32.toInt64 q33.1)) fun y34 =>
    (f_Mo_rowOf q33.2 1 a3 1).bind fun q35 =>
    bnd ((31 * y34) + (Int32.toInt64 q35.1)) fun y36 =>
    k59 y36 (a3 + 1) q35.2
set_option maxRecDepth 20000 in
theorem v_Mo_digest_l59B {S : SE} {X : MX} {q : (Int64 × Mem)} {k59 : Int64 → Int32 → Mem → Option (Int64 × Mem)} {a1 : Int64} {a3 : Int32} {M : Mem} (C : CX S X cX12_digest 4 RX12 9) (K : RT S X (some .long) (some (.long q.1)) q.2) (hk59 : ∀ (a1 : Int64) (a3 : Int32) (M : Mem), k59 a1 a3 M = some q → V S X 4 M 59 [(0, .ref (S.2.1 91)), (1, .long a1), (3, .int a3)] []) (h : f_Mo_digest_l59B k59 a1 a3 M = some q) : V S X 4 M 59 [(0, .ref (S.2.1 91)), (1, .long a1), (3, .int a3)] [] := by
  unfold f_Mo_digest_l59B at h
  refine v_iload_n C 2 dX12_digest_59 rfl ?_
  refine v_bipush C 10 dX12_digest_60 rfl ?_
  refine v_icmp_ge C 131 dX12_digest_62 (by decide) (fun c37 => ?_) (fun c37 => ?_)
  · replace h := (ite_h h).1 c37
    refine v_iconst C 0 dX12_digest_131 rfl ?_
    refine v_istore_n C [(3, .int 0), (0, .ref (S.2.1 91)), (1, .long a1)] dX12_digest_132 (by decide) rfl ?_
    refine v_sub [1, 2, 0] rfl ?_
    exact v_Mo_digest_l133 C K FU _ _ _ h
  · replace h := (ite_h h).2 c37
    refine v_ldc2 C kc_X12_344 dX12_digest_65 ?_
    refine v_lload_n C 1 dX12_digest_68 rfl ?_
    refine v_lmul C dX12_digest_69 ?_
    refine v_aload_n C 0 dX12_digest_70 rfl ?_
    refine v_iconst C 0 dX12_digest_71 rfl ?_
    refine v_iload_n C 2 dX12_digest_72 rfl ?_
    refine v_iconst C 0 dX12_digest_73 rfl ?_
    obtain ⟨q29, hq29, h⟩ := Option.bind_eq_some_iff.mp h
    refine cv12 C [.long (31 * a1)] kk91 (m_Mo_rowOf C.inj M 0 a3 0 q29 hq29) ci_Mo_rowOf rfl lk_X12_168 (by decide) rfl rfl (Nat.le_of_ble_eq_true rfl) dX12_digest_74 ?_
    refine v_i2l C dX12_digest_77 ?_
    refine v_ladd C dX12_digest_78 ?_
    refine v_nml h (fun y30 h => ?_)
    refine v_lstore_n C [(1, .long y30), (0, .ref (S.2.1 91)), (3, .int a3)] dX12_digest_79 (by decide) rfl ?_
    refine v_ldc2 C kc_X12_344 dX12_digest_80 ?_
    refine v_lload_n C 0 dX12_digest_83 rfl ?_
    refine v_lmul C dX12_digest_84 ?_
    refine v_aload_n C 1 dX12_digest_85 rfl ?_
    refine v_iconst C 0 dX12_digest_86 rfl ?_
    refine v_iload_n C 2 dX12_digest_87 rfl ?_
    refine v_iconst C 1 dX12_digest_88 rfl ?_
    obtain ⟨q31, hq31, h⟩ := Option.bind_eq_some_iff.mp h
    refine cv12 C [.long (31 * y30)] kk91 (m_Mo_rowOf C.inj q29.2 0 a3 1 q31 hq31) ci_Mo_rowOf rfl lk_X12_168 (by decide) rfl rfl (Nat.le_of_ble_eq_true rfl) dX12_digest_89 ?_
    refine v_i2l C dX12_digest_92 ?_
    refine v_ladd C dX12_digest_93 ?_
    refine v_nml h (fun y32 h => ?_)
    refine v_lstore_n C [(1, .long y32), (0, .ref (S.2.1 91)), (3, .int a3)] dX12_digest_94 (by decide) rfl ?_
    refine v_ldc2 C kc_X12_344 dX12_digest_95 ?_
    refine v_lload_n C 0 dX12_digest_98 rfl ?_
    refine v_lmul C dX12_digest_99 ?_
    refine v_aload_n C 1 dX12_digest_100 rfl ?_
    refine v_iconst C 1 dX12_digest_101 rfl ?_
    refine v_iload_n C 2 dX12_digest_102 rfl ?_
    refine v_iconst C 0 dX12_digest_103 rfl ?_
    obtain ⟨q33, hq33, h⟩ := Option.bind_eq_some_iff.mp h
    refine cv12 C [.long (31 * y32)] kk91 (m_Mo_rowOf C.inj q31.2 1 a3 0 q33 hq33) ci_Mo_rowOf rfl lk_X12_168 (by decide) rfl rfl (Nat.le_of_ble_eq_true rfl) dX12_digest_104 ?_
    refine v_i2l C dX12_digest_107 ?_
    refine v_ladd C dX12_digest_108 ?_
    refine v_nml h (fun y34 h => ?_)
    refine v_lstore_n C [(1, .long y34), (0, .ref (S.2.1 91)), (3, .int a3)] dX12_digest_109 (by decide) rfl ?_
    refine v_ldc2 C kc_X12_344 dX12_digest_110 ?_
    refine v_lload_n C 0 dX12_digest_113 rfl ?_
    refine v_lmul C dX12_digest_114 ?_
    refine v_aload_n C 1 dX12_digest_115 rfl ?_
    refine v_iconst C 1 dX12_digest_116 rfl ?_
    refine v_iload_n C 2 dX12_digest_117 rfl ?_
    refine v_iconst C 1 dX12_digest_118 rfl ?_
    obtain ⟨q35, hq35, h⟩ := Option.bind_eq_some_iff.mp h
    refine cv12 C [.long (31 * y34)] kk91 (m_Mo_rowOf C.inj q33.2 1 a3 1 q35 hq35) ci_Mo_rowOf rfl lk_X12_168 (by decide) rfl rfl (Nat.le_of_ble_eq_true rfl) dX12_digest_119 ?_
    refine v_i2l C dX12_digest_122 ?_
    refine v_ladd C dX12_digest_123 ?_
    refine v_nml h (fun y36 h => ?_)
    refine v_lstore_n C [(1, .long y36), (0, .ref (S.2.1 91)), (3, .int a3)] dX12_digest_124 (by decide) rfl ?_
    refine v_iinc C [(3, .int (a3 + 1)), (1, .long y36), (0, .ref (S.2.1 91))] 2 (a3 + 1) dX12_digest_125 rfl rfl (by decide) rfl ?_
    refine v_goto C 59 dX12_digest_128 (by decide) ?_
    refine v_sub [2, 1, 0] rfl ?_
    exact hk59 _ _ _ h
def f_Mo_digest_l59 : Nat → Int64 → Int32 → Mem → Option (Int64 × Mem)
  | 0, _, _, _ => none
  | n + 1, a1, a3, M => f_Mo_digest_l59B (f_Mo_digest_l59 n) a1 a3 M
theorem v_Mo_digest_l59 {S : SE} {X : MX} {q : (Int64 × Mem)} (C : CX S X cX12_digest 4 RX12 9) (K : RT S X (some .long) (some (.long q.1)) q.2) : ∀ (n : Nat) (a1 : Int64) (a3 : Int32) (M : Mem), f_Mo_digest_l59 n a1 a3 M = some q → V S X 4 M 59 [(0, .ref (S.2.1 91)), (1, .long a1), (3, .int a3)] [] := by
  intro n
  induction n with
  | zero => intro a1 a3 M h; cases h
  | succ n ih => intro a1 a3 M h; exact v_Mo_digest_l59B C K ih h
def f_Mo_digest_l33B (k33 : Int64 → Int32 → Mem → Option (Int64 × Mem)) (a1 : Int64) (a3 : Int32) (M : Mem) : Option (Int64 × Mem) :=
  if 3 ≤ a3 then
    f_Mo_digest_l59 FU a1 0 M
  else
    (f_Mo_faultOf M a3).bind fun q38 =>
    bnd ((31 * a1) + (Int32.toInt64 q38.1)) fun y39 =>
    k33 y39 (a3 + 1) q38.2
set_option maxRecDepth 20000 in
theorem v_Mo_digest_l33B {S : SE} {X : MX} {q : (Int64 × Mem)} {k33 : Int64 → Int32 → Mem → Option (Int64 × Mem)} {a1 : Int64} {a3 : Int32} {M : Mem} (C : CX S X cX12_digest 4 RX12 9) (K : RT S X (some .long) (some (.long q.1)) q.2) (hk33 : ∀ (a1 : Int64) (a3 : Int32) (M : Mem), k33 a1 a3 M = some q → V S X 4 M 33 [(0, .ref (S.2.1 91)), (1, .long a1), (3, .int a3)] []) (h : f_Mo_digest_l33B k33 a1 a3 M = some q) : V S X 4 M 33 [(0, .ref (S.2.1 91)), (1, .long a1), (3, .int a3)] [] := by
  unfold f_Mo_digest_l33B at h
  refine v_iload_n C 2 dX12_digest_33 rfl ?_
  refine v_iconst C 3 dX12_digest_34 rfl ?_
  refine v_icmp_ge C 57 dX12_digest_35 (by decide) (fun c40 => ?_) (fun c40 => ?_)
  · replace h := (ite_h h).1 c40
    refine v_iconst C 0 dX12_digest_57 rfl ?_
    refine v_istore_n C [(3, .int 0), (0, .ref (S.2.1 91)), (1, .long a1)] dX12_digest_58 (by decide) rfl ?_
    refine v_sub [1, 2, 0] rfl ?_
    exact v_Mo_digest_l59 C K FU _ _ _ h
  · replace h := (ite_h h).2 c40
    refine v_ldc2 C kc_X12_344 dX12_digest_38 ?_
    refine v_lload_n C 1 dX12_digest_41 rfl ?_
    refine v_lmul C dX12_digest_42 ?_
    refine v_aload_n C 0 dX12_digest_43 rfl ?_
    refine v_iload_n C 2 dX12_digest_44 rfl ?_
    obtain ⟨q38, hq38, h⟩ := Option.bind_eq_some_iff.mp h
    refine cv12 C [.long (31 * a1)] kk91 (m_Mo_faultOf C.inj M a3 q38 hq38) ci_Mo_faultOf rfl lk_X12_162 (by decide) rfl rfl (Nat.le_of_ble_eq_true rfl) dX12_digest_45 ?_
    refine v_i2l C dX12_digest_48 ?_
    refine v_ladd C dX12_digest_49 ?_
    refine v_nml h (fun y39 h => ?_)
    refine v_lstore_n C [(1, .long y39), (0, .ref (S.2.1 91)), (3, .int a3)] dX12_digest_50 (by decide) rfl ?_
    refine v_iinc C [(3, .int (a3 + 1)), (1, .long y39), (0, .ref (S.2.1 91))] 2 (a3 + 1) dX12_digest_51 rfl rfl (by decide) rfl ?_
    refine v_goto C 33 dX12_digest_54 (by decide) ?_
    refine v_sub [2, 1, 0] rfl ?_
    exact hk33 _ _ _ h
def f_Mo_digest_l33 : Nat → Int64 → Int32 → Mem → Option (Int64 × Mem)
  | 0, _, _, _ => none
  | n + 1, a1, a3, M => f_Mo_digest_l33B (f_Mo_digest_l33 n) a1 a3 M
theorem v_Mo_digest_l33 {S : SE} {X : MX} {q : (Int64 × Mem)} (C : CX S X cX12_digest 4 RX12 9) (K : RT S X (some .long) (some (.long q.1)) q.2) : ∀ (n : Nat) (a1 : Int64) (a3 : Int32) (M : Mem), f_Mo_digest_l33 n a1 a3 M = some q → V S X 4 M 33 [(0, .ref (S.2.1 91)), (1, .long a1), (3, .int a3)] [] := by
  intro n
  induction n with
  | zero => intro a1 a3 M h; cases h
  | succ n ih => intro a1 a3 M h; exact v_Mo_digest_l33B C K ih h
def f_Mo_digest_l6B (k6 : Int64 → Int32 → Mem → Option (Int64 × Mem)) (a1 : Int64) (a3 : Int32) (M : Mem) : Option (Int64 × Mem) :=
  if 8 ≤ a3 then
    f_Mo_digest_l33 FU a1 0 M
  else
    (f_Mo_count M a3).bind fun q41 =>
    bnd ((31 * a1) + (Int32.toInt64 q41.1)) fun y42 =>
    k6 y42 (a3 + 1) q41.2
set_option maxRecDepth 20000 in
theorem v_Mo_digest_l6B {S : SE} {X : MX} {q : (Int64 × Mem)} {k6 : Int64 → Int32 → Mem → Option (Int64 × Mem)} {a1 : Int64} {a3 : Int32} {M : Mem} (C : CX S X cX12_digest 4 RX12 9) (K : RT S X (some .long) (some (.long q.1)) q.2) (hk6 : ∀ (a1 : Int64) (a3 : Int32) (M : Mem), k6 a1 a3 M = some q → V S X 4 M 6 [(0, .ref (S.2.1 91)), (1, .long a1), (3, .int a3)] []) (h : f_Mo_digest_l6B k6 a1 a3 M = some q) : V S X 4 M 6 [(0, .ref (S.2.1 91)), (1, .long a1), (3, .int a3)] [] := by
  unfold f_Mo_digest_l6B at h
  refine v_iload_n C 2 dX12_digest_6 rfl ?_
  refine v_bipush C 8 dX12_digest_7 rfl ?_
  refine v_icmp_ge C 31 dX12_digest_9 (by decide) (fun c43 => ?_) (fun c43 => ?_)
  · replace h := (ite_h h).1 c43
    refine v_iconst C 0 dX12_digest_31 rfl ?_
    refine v_istore_n C [(3, .int 0), (0, .ref (S.2.1 91)), (1, .long a1)] dX12_digest_32 (by decide) rfl ?_
    refine v_sub [1, 2, 0] rfl ?_
    exact v_Mo_digest_l33 C K FU _ _ _ h
  · replace h := (ite_h h).2 c43
    refine v_ldc2 C kc_X12_344 dX12_digest_12 ?_
    refine v_lload_n C 1 dX12_digest_15 rfl ?_
    refine v_lmul C dX12_digest_16 ?_
    refine v_aload_n C 0 dX12_digest_17 rfl ?_
    refine v_iload_n C 2 dX12_digest_18 rfl ?_
    obtain ⟨q41, hq41, h⟩ := Option.bind_eq_some_iff.mp h
    refine cv12 C [.long (31 * a1)] kk91 (m_Mo_count C.inj M a3 q41 hq41) ci_Mo_count rfl lk_X12_352 (by decide) rfl rfl (Nat.le_of_ble_eq_true rfl) dX12_digest_19 ?_
    refine v_i2l C dX12_digest_22 ?_
    refine v_ladd C dX12_digest_23 ?_
    refine v_nml h (fun y42 h => ?_)
    refine v_lstore_n C [(1, .long y42), (0, .ref (S.2.1 91)), (3, .int a3)] dX12_digest_24 (by decide) rfl ?_
    refine v_iinc C [(3, .int (a3 + 1)), (1, .long y42), (0, .ref (S.2.1 91))] 2 (a3 + 1) dX12_digest_25 rfl rfl (by decide) rfl ?_
    refine v_goto C 6 dX12_digest_28 (by decide) ?_
    refine v_sub [2, 1, 0] rfl ?_
    exact hk6 _ _ _ h
def f_Mo_digest_l6 : Nat → Int64 → Int32 → Mem → Option (Int64 × Mem)
  | 0, _, _, _ => none
  | n + 1, a1, a3, M => f_Mo_digest_l6B (f_Mo_digest_l6 n) a1 a3 M
theorem v_Mo_digest_l6 {S : SE} {X : MX} {q : (Int64 × Mem)} (C : CX S X cX12_digest 4 RX12 9) (K : RT S X (some .long) (some (.long q.1)) q.2) : ∀ (n : Nat) (a1 : Int64) (a3 : Int32) (M : Mem), f_Mo_digest_l6 n a1 a3 M = some q → V S X 4 M 6 [(0, .ref (S.2.1 91)), (1, .long a1), (3, .int a3)] [] := by
  intro n
  induction n with
  | zero => intro a1 a3 M h; cases h
  | succ n ih => intro a1 a3 M h; exact v_Mo_digest_l6B C K ih h
def f_Mo_digest (M : Mem) : Option (Int64 × Mem) :=
  f_Mo_digest_l6 FU 17 0 M
set_option maxRecDepth 20000 in
theorem v_Mo_digest {S : SE} {X : MX} {q : (Int64 × Mem)} {M : Mem} (C : CX S X cX12_digest 4 RX12 9) (K : RT S X (some .long) (some (.long q.1)) q.2) (h : f_Mo_digest M = some q) : V S X 4 M 0 [(0, .ref (S.2.1 91))] [] := by
  unfold f_Mo_digest at h
  refine v_ldc2 C kc_X12_350 dX12_digest_0 ?_
  refine v_lstore_n C [(1, .long 17), (0, .ref (S.2.1 91))] dX12_digest_3 (by decide) rfl ?_
  refine v_iconst C 0 dX12_digest_4 rfl ?_
  refine v_istore_n C [(3, .int 0), (1, .long 17), (0, .ref (S.2.1 91))] dX12_digest_5 (by decide) rfl ?_
  refine v_sub [2, 1, 0] rfl ?_
  exact v_Mo_digest_l6 C K FU _ _ _ h
theorem m_Mo_digest {S : SE} (hI : Inj S) (M : Mem) (q : (Int64 × Mem)) (h : f_Mo_digest M = some q) : CM S yX12_digest cX12_digest 4 (some .long) 9 [.ref (S.2.1 91)] M (some (.long q.1)) q.2 :=
  CM.of [(0, .ref (S.2.1 91))] hI (by decide) rfl (Nat.le_of_ble_eq_true rfl) (fun X C K => v_Mo_digest C K  h)
