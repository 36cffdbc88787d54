def f_Mo_isOfV_b53 (k26 : Int32 → Int32 → Mem → Option Int32) (a2 : Int32) (s0 : Int32) (M : Mem) : Option Int32 :=
  k26 s0 (a2 + 1) M
set_option maxRecDepth 20000 in
theorem v_Mo_isOfV_b53 {S : SE} {X : MX} {q : Int32} {k26 : Int32 → Int32 → Mem → Option Int32} {a2 : Int32} {s0 : Int32} {M : Mem} (C : CX S X cX12_isOfV 3 RX12 0) (K : RT S X (some .boolean) (some (.int q)) M) (hk26 : ∀ (a1 : Int32) (a2 : Int32), k26 a1 a2 M = some q → V S X 3 M 26 [(0, .ref (S.2.1 91)), (1, .int a1), (2, .int a2)] []) (h : f_Mo_isOfV_b53 k26 a2 s0 M = some q) : V S X 3 M 53 [(0, .ref (S.2.1 91)), (2, .int a2)] [.int s0] := by
  unfold f_Mo_isOfV_b53 at h
  refine v_istore_n C [(1, .int s0), (0, .ref (S.2.1 91)), (2, .int a2)] dX12_isOfV_53 (by decide) rfl ?_
  refine v_iinc C [(2, .int (a2 + 1)), (1, .int s0), (0, .ref (S.2.1 91))] 2 (a2 + 1) dX12_isOfV_54 rfl rfl (by decide) rfl ?_
  refine v_goto C 26 dX12_isOfV_57 (by decide) ?_
  refine v_sub [2, 1, 0] rfl ?_
  exact hk26 _ _ h
def f_Mo_isOfV_b48 (k26 : Int32 → Int32 → Mem → Option Int32) (a2 : Int32) (M : Mem) : Option Int32 :=
  f_Mo_isOfV_b53 k26 a2 1 M
set_option maxRecDepth 20000 in
theorem v_Mo_isOfV_b48 {S : SE} {X : MX} {q : Int32} {k26 : Int32 → Int32 → Mem → Option Int32} {a2 : Int32} {M : Mem} (C : CX S X cX12_isOfV 3 RX12 0) (K : RT S X (some .boolean) (some (.int q)) M) (hk26 : ∀ (a1 : Int32) (a2 : Int32), k26 a1 a2 M = some q → V S X 3 M 26 [(0, .ref (S.2.1 91)), (1, .int a1), (2, .int a2)] []) (h : f_Mo_isOfV_b48 k26 a2 M = some q) : V S X 3 M 48 [(0, .ref (S.2.1 91)), (2, .int a2)] [] := by
  unfold f_Mo_isOfV_b48 at h
  refine v_iconst C 1 dX12_isOfV_48 rfl ?_
  refine v_goto C 53 dX12_isOfV_49 (by decide) ?_
  exact v_Mo_isOfV_b53 C K hk26 h
def f_Mo_isOfV_l26B (k26 : Int32 → Int32 → Mem → Option Int32) (a1 : Int32) (a2 : Int32) (M : Mem) : Option Int32 :=
  if (M 91 6) ≤ a2 then
    if a1 = 0 ∨ a1 = 1 then
      some a1
    else none
  else
    if a1 = 0 then
      if gin a2 12 then
        if (M 98 a2.toNatClampNeg) = 4 then
          f_Mo_isOfV_b48 k26 a2 M
        else
          f_Mo_isOfV_b53 k26 a2 0 M
      else none
    else
      f_Mo_isOfV_b48 k26 a2 M
set_option maxRecDepth 20000 in
theorem v_Mo_isOfV_l26B {S : SE} {X : MX} {q : Int32} {k26 : Int32 → Int32 → Mem → Option Int32} {a1 : Int32} {a2 : Int32} {M : Mem} (C : CX S X cX12_isOfV 3 RX12 0) (K : RT S X (some .boolean) (some (.int q)) M) (hk26 : ∀ (a1 : Int32) (a2 : Int32), k26 a1 a2 M = some q → V S X 3 M 26 [(0, .ref (S.2.1 91)), (1, .int a1), (2, .int a2)] []) (h : f_Mo_isOfV_l26B k26 a1 a2 M = some q) : V S X 3 M 26 [(0, .ref (S.2.1 91)), (1, .int a1), (2, .int a2)] [] := by
  unfold f_Mo_isOfV_l26B at h
  refine v_iload_n C 2 dX12_isOfV_26 rfl ?_
  refine v_aload_n C 0 dX12_isOfV_27 rfl ?_
  refine g_Mo_stepsTold C kk91 fl_X12_145 dX12_isOfV_28 ?_
  refine v_icmp_ge C 60 dX12_isOfV_31 (by decide) (fun c5 => ?_) (fun c5 => ?_)
  · replace h := (ite_h h).1 c5
    refine v_iload_n C 1 dX12_isOfV_60 rfl ?_
    obtain ⟨g1, h⟩ := gd_h h
    obtain rfl := Option.some.inj h
    exact v_zret C g1 K dX12_isOfV_61
  · replace h := (ite_h h).2 c5
    refine v_iload_n C 1 dX12_isOfV_34 rfl ?_
    refine v_if_ne C 48 dX12_isOfV_35 (by decide) (fun c4 => ?_) (fun c4 => ?_)
    · replace h := (ite_h h).2 c4
      refine v_sub [0, 2] rfl ?_
      exact v_Mo_isOfV_b48 C K hk26 h
    · replace h := (ite_h h).1 c4
      refine v_aload_n C 0 dX12_isOfV_38 rfl ?_
      refine g_Mo_kinds C kk91 fl_X12_28 dX12_isOfV_39 ?_
      refine v_iload_n C 2 dX12_isOfV_42 rfl ?_
      obtain ⟨g2, h⟩ := gd_h h
      refine v_iald C kk98 ll98 g2 dX12_isOfV_43 ?_
      refine v_iconst C 4 dX12_isOfV_44 rfl ?_
      refine v_icmp_ne C 52 dX12_isOfV_45 (by decide) (fun c3 => ?_) (fun c3 => ?_)
      · replace h := (ite_h h).2 c3
        refine v_iconst C 0 dX12_isOfV_52 rfl ?_
        refine v_sub [0, 2] rfl ?_
        exact v_Mo_isOfV_b53 C K hk26 h
      · replace h := (ite_h h).1 c3
        refine v_sub [0, 2] rfl ?_
        exact v_Mo_isOfV_b48 C K hk26 h
def f_Mo_isOfV_l26 : Nat → Int32 → Int32 → Mem → Option Int32
  | 0, _, _, _ => none
  | n + 1, a1, a2, M => f_Mo_isOfV_l26B (f_Mo_isOfV_l26 n) a1 a2 M
theorem v_Mo_isOfV_l26 {S : SE} {X : MX} {q : Int32} {M : Mem} (C : CX S X cX12_isOfV 3 RX12 0) (K : RT S X (some .boolean) (some (.int q)) M) : ∀ (n : Nat) (a1 : Int32) (a2 : Int32), f_Mo_isOfV_l26 n a1 a2 M = some q → V S X 3 M 26 [(0, .ref (S.2.1 91)), (1, .int a1), (2, .int a2)] [] := by
  intro n
  induction n with
  | zero => intro a1 a2 h; cases h
  | succ n ih => intro a1 a2 h; exact v_Mo_isOfV_l26B C K ih h
def f_Mo_isOfV_b23 (s0 : Int32) (M : Mem) : Option Int32 :=
  f_Mo_isOfV_l26 FU s0 0 M
set_option maxRecDepth 20000 in
theorem v_Mo_isOfV_b23 {S : SE} {X : MX} {q : Int32} {s0 : Int32} {M : Mem} (C : CX S X cX12_isOfV 3 RX12 0) (K : RT S X (some .boolean) (some (.int q)) M) (h : f_Mo_isOfV_b23 s0 M = some q) : V S X 3 M 23 [(0, .ref (S.2.1 91))] [.int s0] := by
  unfold f_Mo_isOfV_b23 at h
  refine v_istore_n C [(1, .int s0), (0, .ref (S.2.1 91))] dX12_isOfV_23 (by decide) rfl ?_
  refine v_iconst C 0 dX12_isOfV_24 rfl ?_
  refine v_istore_n C [(2, .int 0), (1, .int s0), (0, .ref (S.2.1 91))] dX12_isOfV_25 (by decide) rfl ?_
  refine v_sub [2, 1, 0] rfl ?_
  exact v_Mo_isOfV_l26 C K FU _ _ h
def f_Mo_isOfV_b18 (M : Mem) : Option Int32 :=
  f_Mo_isOfV_b23 1 M
set_option maxRecDepth 20000 in
theorem v_Mo_isOfV_b18 {S : SE} {X : MX} {q : Int32} {M : Mem} (C : CX S X cX12_isOfV 3 RX12 0) (K : RT S X (some .boolean) (some (.int q)) M) (h : f_Mo_isOfV_b18 M = some q) : V S X 3 M 18 [(0, .ref (S.2.1 91))] [] := by
  unfold f_Mo_isOfV_b18 at h
  refine v_iconst C 1 dX12_isOfV_18 rfl ?_
  refine v_goto C 23 dX12_isOfV_19 (by decide) ?_
  exact v_Mo_isOfV_b23 C K h
def f_Mo_isOfV (M : Mem) : Option Int32 :=
  if (M 91 10) = 7 then
    f_Mo_isOfV_b18 M
  else
    if (M 91 10) = 8 then
      f_Mo_isOfV_b18 M
    else
      f_Mo_isOfV_b23 0 M
set_option maxRecDepth 20000 in
theorem v_Mo_isOfV {S : SE} {X : MX} {q : Int32} {M : Mem} (C : CX S X cX12_isOfV 3 RX12 0) (K : RT S X (some .boolean) (some (.int q)) M) (h : f_Mo_isOfV M = some q) : V S X 3 M 0 [(0, .ref (S.2.1 91))] [] := by
  unfold f_Mo_isOfV at h
  refine v_aload_n C 0 dX12_isOfV_0 rfl ?_
  refine g_Mo_endNow C kk91 fl_X12_184 dX12_isOfV_1 ?_
  refine v_bipush C 7 dX12_isOfV_4 rfl ?_
  refine v_icmp_eq C 18 dX12_isOfV_6 (by decide) (fun c7 => ?_) (fun c7 => ?_)
  · replace h := (ite_h h).1 c7
    exact v_Mo_isOfV_b18 C K h
  · replace h := (ite_h h).2 c7
    refine v_aload_n C 0 dX12_isOfV_9 rfl ?_
    refine g_Mo_endNow C kk91 fl_X12_184 dX12_isOfV_10 ?_
    refine v_bipush C 8 dX12_isOfV_13 rfl ?_
    refine v_icmp_ne C 22 dX12_isOfV_15 (by decide) (fun c6 => ?_) (fun c6 => ?_)
    · replace h := (ite_h h).2 c6
      refine v_iconst C 0 dX12_isOfV_22 rfl ?_
      exact v_Mo_isOfV_b23 C K h
    · replace h := (ite_h h).1 c6
      exact v_Mo_isOfV_b18 C K h
theorem m_Mo_isOfV {S : SE} (hI : Inj S) (M : Mem) (q : Int32) (h : f_Mo_isOfV M = some q) : CM S yX12_isOfV cX12_isOfV 3 (some .boolean) 0 [.ref (S.2.1 91)] M (some (.int q)) M :=
  CM.of [(0, .ref (S.2.1 91))] hI (by decide) rfl (Nat.le_of_ble_eq_true rfl) (fun X C K => v_Mo_isOfV C K  h)
def f_Mo_findsDomain_b120 (k7 : Int32 → Mem → Option Mem) (a1 : Int32) (a3 : Int32) (M : Mem) : Option Mem :=
  if gin a1 10 then
    bnd (mset M 116 a1.toNatClampNeg a3) fun M5 =>
    k7 (a1 + 1) M5
  else none
set_option maxRecDepth 20000 in
theorem v_Mo_findsDomain_b120 {S : SE} {X : MX} {q : Mem} {k7 : Int32 → Mem → Option Mem} {a1 : Int32} {a3 : Int32} {M : Mem} (C : CX S X cX12_findsDomain 4 RX12 2) (K : RT S X none none q) (hk7 : ∀ (a1 : Int32) (M : Mem), k7 a1 M = some q → V S X 4 M 7 [(0, .ref (S.2.1 91)), (1, .int a1)] []) (h : f_Mo_findsDomain_b120 k7 a1 a3 M = some q) : V S X 4 M 120 [(0, .ref (S.2.1 91)), (1, .int a1), (3, .int a3)] [] := by
  unfold f_Mo_findsDomain_b120 at h
  refine v_aload_n C 0 dX12_findsDomain_120 rfl ?_
  refine g_Mo_pairOf C kk91 fl_X12_82 dX12_findsDomain_121 ?_
  refine v_iload_n C 1 dX12_findsDomain_124 rfl ?_
  refine v_iload_n C 2 dX12_findsDomain_125 rfl ?_
  obtain ⟨g4, h⟩ := gd_h h
  refine v_iast C kk116 ll116 g4 dX12_findsDomain_126 ?_
  refine v_nmm h (fun M5 h => ?_)
  refine v_iinc C [(1, .int (a1 + 1)), (0, .ref (S.2.1 91)), (3, .int a3)] 1 (a1 + 1) dX12_findsDomain_127 rfl rfl (by decide) rfl ?_
  refine v_goto C 7 dX12_findsDomain_130 (by decide) ?_
  refine v_sub [1, 0] rfl ?_
  exact hk7 _ _ h
def f_Mo_findsDomain_b83 (k7 : Int32 → Mem → Option Mem) (a1 : Int32) (a2 : Int32) (a3 : Int32) (M : Mem) : Option Mem :=
  if a3 = (M 91 31) then
    if gin a1 20 then
      if gin a3 10 then
        bnd (mset M 114 a3.toNatClampNeg (M 96 a1.toNatClampNeg)) fun M8 =>
        if gin a3 10 then
          bnd (mset M8 115 a3.toNatClampNeg a2) fun M10 =>
          bnd (mset M10 91 31 ((M10 91 31) + 1)) fun M11 =>
          f_Mo_findsDomain_b120 k7 a1 a3 M11
        else none
      else none
    else none
  else
    f_Mo_findsDomain_b120 k7 a1 a3 M
set_option maxRecDepth 20000 in
theorem v_Mo_findsDomain_b83 {S : SE} {X : MX} {q : Mem} {k7 : Int32 → Mem → Option Mem} {a1 : Int32} {a2 : Int32} {a3 : Int32} {M : Mem} (C : CX S X cX12_findsDomain 4 RX12 2) (K : RT S X none none q) (hk7 : ∀ (a1 : Int32) (M : Mem), k7 a1 M = some q → V S X 4 M 7 [(0, .ref (S.2.1 91)), (1, .int a1)] []) (h : f_Mo_findsDomain_b83 k7 a1 a2 a3 M = some q) : V S X 4 M 83 [(0, .ref (S.2.1 91)), (1, .int a1), (2, .int a2), (3, .int a3)] [] := by
  unfold f_Mo_findsDomain_b83 at h
  refine v_iload_n C 3 dX12_findsDomain_83 rfl ?_
  refine v_aload_n C 0 dX12_findsDomain_84 rfl ?_
  refine g_Mo_pairs C kk91 fl_X12_244 dX12_findsDomain_85 ?_
  refine v_icmp_ne C 120 dX12_findsDomain_88 (by decide) (fun c12 => ?_) (fun c12 => ?_)
  · replace h := (ite_h h).2 c12
    refine v_sub [0, 1, 3] rfl ?_
    exact v_Mo_findsDomain_b120 C K hk7 h
  · replace h := (ite_h h).1 c12
    refine v_aload_n C 0 dX12_findsDomain_91 rfl ?_
    refine g_Mo_pairK C kk91 fl_X12_76 dX12_findsDomain_92 ?_
    refine v_iload_n C 3 dX12_findsDomain_95 rfl ?_
    refine v_aload_n C 0 dX12_findsDomain_96 rfl ?_
    refine g_Mo_ks C kk91 fl_X12_22 dX12_findsDomain_97 ?_
    refine v_iload_n C 1 dX12_findsDomain_100 rfl ?_
    obtain ⟨g6, h⟩ := gd_h h
    refine v_iald C kk96 ll96 g6 dX12_findsDomain_101 ?_
    obtain ⟨g7, h⟩ := gd_h h
    refine v_iast C kk114 ll114 g7 dX12_findsDomain_102 ?_
    refine v_nmm h (fun M8 h => ?_)
    refine v_aload_n C 0 dX12_findsDomain_103 rfl ?_
    refine g_Mo_pairV C kk91 fl_X12_79 dX12_findsDomain_104 ?_
    refine v_iload_n C 3 dX12_findsDomain_107 rfl ?_
    refine v_iload_n C 2 dX12_findsDomain_108 rfl ?_
    obtain ⟨g9, h⟩ := gd_h h
    refine v_iast C kk115 ll115 g9 dX12_findsDomain_109 ?_
    refine v_nmm h (fun M10 h => ?_)
    refine v_aload_n C 0 dX12_findsDomain_110 rfl ?_
    refine v_dup C dX12_findsDomain_111 rfl ?_
    refine g_Mo_pairs C kk91 fl_X12_244 dX12_findsDomain_112 ?_
    refine v_iconst C 1 dX12_findsDomain_115 rfl ?_
    refine v_iadd C dX12_findsDomain_116 ?_
    refine p_Mo_pairs C kk91 fl_X12_244 dX12_findsDomain_117 ?_
    refine v_nmm h (fun M11 h => ?_)
    refine v_sub [0, 1, 3] rfl ?_
    exact v_Mo_findsDomain_b120 C K hk7 h
def f_Mo_findsDomain_b77 (k7 : Int32 → Mem → Option Mem) (k44 : Int32 → Int32 → Int32 → Mem → Option Mem) (a1 : Int32) (a2 : Int32) (a3 : Int32) (M : Mem) : Option Mem :=
  k44 a1 a2 (a3 + 1) M
set_option maxRecDepth 20000 in
theorem v_Mo_findsDomain_b77 {S : SE} {X : MX} {q : Mem} {k7 : Int32 → Mem → Option Mem} {k44 : Int32 → Int32 → Int32 → Mem → Option Mem} {a1 : Int32} {a2 : Int32} {a3 : Int32} {M : Mem} (C : CX S X cX12_findsDomain 4 RX12 2) (K : RT S X none none q) (hk7 : ∀ (a1 : Int32) (M : Mem), k7 a1 M = some q → V S X 4 M 7 [(0, .ref (S.2.1 91)), (1, .int a1)] []) (hk44 : ∀ (a1 : Int32) (a2 : Int32) (a3 : Int32) (M : Mem), k44 a1 a2 a3 M = some q → V S X 4 M 44 [(0, .ref (S.2.1 91)), (1, .int a1), (2, .int a2), (3, .int a3)] []) (h : f_Mo_findsDomain_b77 k7 k44 a1 a2 a3 M = some q) : V S X 4 M 77 [(0, .ref (S.2.1 91)), (1, .int a1), (2, .int a2), (3, .int a3)] [] := by
  unfold f_Mo_findsDomain_b77 at h
  refine v_iinc C [(3, .int (a3 + 1)), (0, .ref (S.2.1 91)), (1, .int a1), (2, .int a2)] 3 (a3 + 1) dX12_findsDomain_77 rfl rfl (by decide) rfl ?_
  refine v_goto C 44 dX12_findsDomain_80 (by decide) ?_
  refine v_sub [1, 2, 3, 0] rfl ?_
  exact hk44 _ _ _ _ h
def f_Mo_findsDomain_l44B (k7 : Int32 → Mem → Option Mem) (k44 : Int32 → Int32 → Int32 → Mem → Option Mem) (a1 : Int32) (a2 : Int32) (a3 : Int32) (M : Mem) : Option Mem :=
  if (M 91 31) ≤ a3 then
    f_Mo_findsDomain_b83 k7 a1 a2 a3 M
  else
    if gin a3 10 then
      if gin a1 20 then
        if (M 114 a3.toNatClampNeg) = (M 96 a1.toNatClampNeg) then
          if gin a3 10 then
            if (M 115 a3.toNatClampNeg) = a2 then
              f_Mo_findsDomain_b83 k7 a1 a2 a3 M
            else
              f_Mo_findsDomain_b77 k7 k44 a1 a2 a3 M
          else none
        else
          f_Mo_findsDomain_b77 k7 k44 a1 a2 a3 M
      else none
    else none
set_option maxRecDepth 20000 in
theorem v_Mo_findsDomain_l44B {S : SE} {X : MX} {q : Mem} {k7 : Int32 → Mem → Option Mem} {k44 : Int32 → Int32 → Int32 → Mem → Option Mem} {a1 : Int32} {a2 : Int32} {a3 : Int32} {M : Mem} (C : CX S X cX12_findsDomain 4 RX12 2) (K : RT S X none none q) (hk7 : ∀ (a1 : Int32) (M : Mem), k7 a1 M = some q → V S X 4 M 7 [(0, .ref (S.2.1 91)), (1, .int a1)] []) (hk44 : ∀ (a1 : Int32) (a2 : Int32) (a3 : Int32) (M : Mem), k44 a1 a2 a3 M = some q → V S X 4 M 44 [(0, .ref (S.2.1 91)), (1, .int a1), (2, .int a2), (3, .int a3)] []) (h : f_Mo_findsDomain_l44B k7 k44 a1 a2 a3 M = some q) : V S X 4 M 44 [(0, .ref (S.2.1 91)), (1, .int a1), (2, .int a2), (3, .int a3)] [] := by
  unfold f_Mo_findsDomain_l44B at h
  refine v_iload_n C 3 dX12_findsDomain_44 rfl ?_
  refine v_aload_n C 0 dX12_findsDomain_45 rfl ?_
  refine g_Mo_pairs C kk91 fl_X12_244 dX12_findsDomain_46 ?_
  refine v_icmp_ge C 83 dX12_findsDomain_49 (by decide) (fun c18 => ?_) (fun c18 => ?_)
  · replace h := (ite_h h).1 c18
    exact v_Mo_findsDomain_b83 C K hk7 h
  · replace h := (ite_h h).2 c18
    refine v_aload_n C 0 dX12_findsDomain_52 rfl ?_
    refine g_Mo_pairK C kk91 fl_X12_76 dX12_findsDomain_53 ?_
    refine v_iload_n C 3 dX12_findsDomain_56 rfl ?_
    obtain ⟨g13, h⟩ := gd_h h
    refine v_iald C kk114 ll114 g13 dX12_findsDomain_57 ?_
    refine v_aload_n C 0 dX12_findsDomain_58 rfl ?_
    refine g_Mo_ks C kk91 fl_X12_22 dX12_findsDomain_59 ?_
    refine v_iload_n C 1 dX12_findsDomain_62 rfl ?_
    obtain ⟨g14, h⟩ := gd_h h
    refine v_iald C kk96 ll96 g14 dX12_findsDomain_63 ?_
    refine v_icmp_ne C 77 dX12_findsDomain_64 (by decide) (fun c17 => ?_) (fun c17 => ?_)
    · replace h := (ite_h h).2 c17
      exact v_Mo_findsDomain_b77 C K hk7 hk44 h
    · replace h := (ite_h h).1 c17
      refine v_aload_n C 0 dX12_findsDomain_67 rfl ?_
      refine g_Mo_pairV C kk91 fl_X12_79 dX12_findsDomain_68 ?_
      refine v_iload_n C 3 dX12_findsDomain_71 rfl ?_
      obtain ⟨g15, h⟩ := gd_h h
      refine v_iald C kk115 ll115 g15 dX12_findsDomain_72 ?_
      refine v_iload_n C 2 dX12_findsDomain_73 rfl ?_
      refine v_icmp_eq C 83 dX12_findsDomain_74 (by decide) (fun c16 => ?_) (fun c16 => ?_)
      · replace h := (ite_h h).1 c16
        exact v_Mo_findsDomain_b83 C K hk7 h
      · replace h := (ite_h h).2 c16
        exact v_Mo_findsDomain_b77 C K hk7 hk44 h
def f_Mo_findsDomain_l44 (k7 : Int32 → Mem → Option Mem) : Nat → Int32 → Int32 → Int32 → Mem → Option Mem
  | 0, _, _, _, _ => none
  | n + 1, a1, a2, a3, M => f_Mo_findsDomain_l44B k7 (f_Mo_findsDomain_l44 k7 n) a1 a2 a3 M
theorem v_Mo_findsDomain_l44 {S : SE} {X : MX} {q : Mem} {k7 : Int32 → Mem → Option Mem} (C : CX S X cX12_findsDomain 4 RX12 2) (K : RT S X none none q) (hk7 : ∀ (a1 : Int32) (M : Mem), k7 a1 M = some q → V S X 4 M 7 [(0, .ref (S.2.1 91)), (1, .int a1)] []) : ∀ (n : Nat) (a1 : Int32) (a2 : Int32) (a3 : Int32) (M : Mem), f_Mo_findsDomain_l44 k7 n a1 a2 a3 M = some q → V S X 4 M 44 [(0, .ref (S.2.1 91)), (1, .int a1), (2, .int a2), (3, .int a3)] [] := by
  intro n
  induction n with
  | zero => intro a1 a2 a3 M h; cases h
  | succ n ih => intro a1 a2 a3 M h; exact v_Mo_findsDomain_l44B C K hk7 ih h
def f_Mo_findsDomain_b41 (k7 : Int32 → Mem → Option Mem) (a1 : Int32) (s0 : Int32) (M : Mem) : Option Mem :=
  f_Mo_findsDomain_l44 k7 FU a1 s0 0 M
set_option maxRecDepth 20000 in
theorem v_Mo_findsDomain_b41 {S : SE} {X : MX} {q : Mem} {k7 : Int32 → Mem → Option Mem} {a1 : Int32} {s0 : Int32} {M : Mem} (C : CX S X cX12_findsDomain 4 RX12 2) (K : RT S X none none q) (hk7 : ∀ (a1 : Int32) (M : Mem), k7 a1 M = some q → V S X 4 M 7 [(0, .ref (S.2.1 91)), (1, .int a1)] []) (h : f_Mo_findsDomain_b41 k7 a1 s0 M = some q) : V S X 4 M 41 [(0, .ref (S.2.1 91)), (1, .int a1)] [.int s0] := by
  unfold f_Mo_findsDomain_b41 at h
  refine v_istore_n C [(2, .int s0), (0, .ref (S.2.1 91)), (1, .int a1)] dX12_findsDomain_41 (by decide) rfl ?_
  refine v_iconst C 0 dX12_findsDomain_42 rfl ?_
  refine v_istore_n C [(3, .int 0), (2, .int s0), (0, .ref (S.2.1 91)), (1, .int a1)] dX12_findsDomain_43 (by decide) rfl ?_
  refine v_sub [2, 3, 1, 0] rfl ?_
  exact v_Mo_findsDomain_l44 C K hk7 FU _ _ _ _ h
def f_Mo_findsDomain_l7B (k7 : Int32 → Mem → Option Mem) (a1 : Int32) (M : Mem) : Option Mem :=
  if (M 95 (0 : Int32).toNatClampNeg) ≤ a1 then
    some M
  else
    (f_Mo_speaksNow M).bind fun q2 =>
    if q2 = 0 then
      some M
    else
      (f_Mo_isOfV M).bind fun q3 =>
      if q3 = 0 then
        f_Mo_findsDomain_b41 k7 a1 (-1) M
      else
        if gin a1 20 then
          f_Mo_findsDomain_b41 k7 a1 (M 97 a1.toNatClampNeg) M
        else none
set_option maxRecDepth 20000 in
theorem v_Mo_findsDomain_l7B {S : SE} {X : MX} {q : Mem} {k7 : Int32 → Mem → Option Mem} {a1 : Int32} {M : Mem} (C : CX S X cX12_findsDomain 4 RX12 2) (K : RT S X none none q) (hk7 : ∀ (a1 : Int32) (M : Mem), k7 a1 M = some q → V S X 4 M 7 [(0, .ref (S.2.1 91)), (1, .int a1)] []) (h : f_Mo_findsDomain_l7B k7 a1 M = some q) : V S X 4 M 7 [(0, .ref (S.2.1 91)), (1, .int a1)] [] := by
  unfold f_Mo_findsDomain_l7B at h
  refine v_iload_n C 1 dX12_findsDomain_7 rfl ?_
  refine v_aload_n C 0 dX12_findsDomain_8 rfl ?_
  refine g_Mo_rows C kk91 fl_X12_19 dX12_findsDomain_9 ?_
  refine v_iconst C 0 dX12_findsDomain_12 rfl ?_
  refine v_iald C kk95 ll95 (by decide) dX12_findsDomain_13 ?_
  refine v_icmp_ge C 133 dX12_findsDomain_14 (by decide) (fun c22 => ?_) (fun c22 => ?_)
  · replace h := (ite_h h).1 c22
    obtain rfl := Option.some.inj h
    exact v_vret C K dX12_findsDomain_133
  · replace h := (ite_h h).2 c22
    refine v_aload_n C 0 dX12_findsDomain_17 rfl ?_
    obtain ⟨q2, hq2, h⟩ := Option.bind_eq_some_iff.mp h
    refine cv12 C [] kk91 (m_Mo_speaksNow C.inj M q2 hq2) ci_Mo_speaksNow rfl lk_X12_247 (by decide) rfl rfl (Nat.le_of_ble_eq_true rfl) dX12_findsDomain_18 ?_
    refine v_if_eq C 133 dX12_findsDomain_21 (by decide) (fun c21 => ?_) (fun c21 => ?_)
    · replace h := (ite_h h).1 c21
      obtain rfl := Option.some.inj h
      exact v_vret C K dX12_findsDomain_133
    · replace h := (ite_h h).2 c21
      refine v_aload_n C 0 dX12_findsDomain_24 rfl ?_
      obtain ⟨q3, hq3, h⟩ := Option.bind_eq_some_iff.mp h
      refine cv12 C [] kk91 (m_Mo_isOfV C.inj M q3 hq3) ci_Mo_isOfV rfl lk_X12_250 (by decide) rfl rfl (Nat.le_of_ble_eq_true rfl) dX12_findsDomain_25 ?_
      refine v_if_eq C 40 dX12_findsDomain_28 (by decide) (fun c20 => ?_) (fun c20 => ?_)
      · replace h := (ite_h h).1 c20
        refine v_iconst C (-1) dX12_findsDomain_40 rfl ?_
        exact v_Mo_findsDomain_b41 C K hk7 h
      · replace h := (ite_h h).2 c20
        refine v_aload_n C 0 dX12_findsDomain_31 rfl ?_
        refine g_Mo_vs C kk91 fl_X12_25 dX12_findsDomain_32 ?_
        refine v_iload_n C 1 dX12_findsDomain_35 rfl ?_
        obtain ⟨g19, h⟩ := gd_h h
        refine v_iald C kk97 ll97 g19 dX12_findsDomain_36 ?_
        refine v_goto C 41 dX12_findsDomain_37 (by decide) ?_
        exact v_Mo_findsDomain_b41 C K hk7 h
def f_Mo_findsDomain_l7 : Nat → Int32 → Mem → Option Mem
  | 0, _, _ => none
  | n + 1, a1, M => f_Mo_findsDomain_l7B (f_Mo_findsDomain_l7 n) a1 M
theorem v_Mo_findsDomain_l7 {S : SE} {X : MX} {q : Mem} (C : CX S X cX12_findsDomain 4 RX12 2) (K : RT S X none none q) : ∀ (n : Nat) (a1 : Int32) (M : Mem), f_Mo_findsDomain_l7 n a1 M = some q → V S X 4 M 7 [(0, .ref (S.2.1 91)), (1, .int a1)] [] := by
  intro n
  induction n with
  | zero => intro a1 M h; cases h
  | succ n ih => intro a1 M h; exact v_Mo_findsDomain_l7B C K ih h
def f_Mo_findsDomain (M : Mem) : Option Mem :=
  bnd (mset M 91 31 0) fun M1 =>
  f_Mo_findsDomain_l7 FU 0 M1
set_option maxRecDepth 20000 in
theorem v_Mo_findsDomain {S : SE} {X : MX} {q : Mem} {M : Mem} (C : CX S X cX12_findsDomain 4 RX12 2) (K : RT S X none none q) (h : f_Mo_findsDomain M = some q) : V S X 4 M 0 [(0, .ref (S.2.1 91))] [] := by
  unfold f_Mo_findsDomain at h
  refine v_aload_n C 0 dX12_findsDomain_0 rfl ?_
  refine v_iconst C 0 dX12_findsDomain_1 rfl ?_
  refine p_Mo_pairs C kk91 fl_X12_244 dX12_findsDomain_2 ?_
  refine v_nmm h (fun M1 h => ?_)
  refine v_iconst C 0 dX12_findsDomain_5 rfl ?_
  refine v_istore_n C [(1, .int 0), (0, .ref (S.2.1 91))] dX12_findsDomain_6 (by decide) rfl ?_
  refine v_sub [1, 0] rfl ?_
  exact v_Mo_findsDomain_l7 C K FU _ _ h
theorem m_Mo_findsDomain {S : SE} (hI : Inj S) (M : Mem) (q : Mem) (h : f_Mo_findsDomain M = some q) : CM S yX12_findsDomain cX12_findsDomain 4 none 2 [.ref (S.2.1 91)] M none q :=
  CM.of [(0, .ref (S.2.1 91))] hI (by decide) rfl (Nat.le_of_ble_eq_true rfl) (fun X C K => v_Mo_findsDomain C K  h)
def f_Mo_joinAt_b29 (a1 : Int32) (a2 : Int32) (M : Mem) : Option Int32 :=
  if a1 = 0 then
    some (-1)
  else
    some a2
set_option maxRecDepth 20000 in
theorem v_Mo_joinAt_b29 {S : SE} {X : MX} {q : Int32} {a1 : Int32} {a2 : Int32} {M : Mem} (C : CX S X cX12_joinAt 3 RX12 2) (K : RT S X (some .int) (some (.int q)) M) (h : f_Mo_joinAt_b29 a1 a2 M = some q) : V S X 3 M 29 [(1, .int a1), (2, .int a2)] [] := by
  unfold f_Mo_joinAt_b29 at h
  refine v_iload_n C 0 dX12_joinAt_29 rfl ?_
  refine v_if_ne C 37 dX12_joinAt_30 (by decide) (fun c2 => ?_) (fun c2 => ?_)
  · replace h := (ite_h h).2 c2
    refine v_iload_n C 1 dX12_joinAt_37 rfl ?_
    obtain rfl := Option.some.inj h
    exact v_iret C K dX12_joinAt_38
  · replace h := (ite_h h).1 c2
    refine v_iconst C (-1) dX12_joinAt_33 rfl ?_
    refine v_goto C 38 dX12_joinAt_34 (by decide) ?_
    obtain rfl := Option.some.inj h
    exact v_iret C K dX12_joinAt_38
def f_Mo_joinAt_l7B (k7 : Int32 → Int32 → Mem → Option Int32) (a1 : Int32) (a2 : Int32) (M : Mem) : Option Int32 :=
  if (M 91 6) ≤ a2 then
    f_Mo_joinAt_b29 a1 a2 M
  else
    if (f_Mo_isIn a1 a2) = 0 then
      k7 a1 (a2 + 1) M
    else
      f_Mo_joinAt_b29 a1 a2 M
set_option maxRecDepth 20000 in
theorem v_Mo_joinAt_l7B {S : SE} {X : MX} {q : Int32} {k7 : Int32 → Int32 → Mem → Option Int32} {a1 : Int32} {a2 : Int32} {M : Mem} (C : CX S X cX12_joinAt 3 RX12 2) (K : RT S X (some .int) (some (.int q)) M) (hk7 : ∀ (a1 : Int32) (a2 : Int32), k7 a1 a2 M = some q → V S X 3 M 7 [(0, .ref (S.2.1 91)), (1, .int a1), (2, .int a2)] []) (h : f_Mo_joinAt_l7B k7 a1 a2 M = some q) : V S X 3 M 7 [(0, .ref (S.2.1 91)), (1, .int a1), (2, .int a2)] [] := by
  unfold f_Mo_joinAt_l7B at h
  refine v_iload_n C 2 dX12_joinAt_7 rfl ?_
  refine v_aload_n C 0 dX12_joinAt_8 rfl ?_
  refine g_Mo_stepsTold C kk91 fl_X12_145 dX12_joinAt_9 ?_
  refine v_icmp_ge C 29 dX12_joinAt_12 (by decide) (fun c4 => ?_) (fun c4 => ?_)
  · replace h := (ite_h h).1 c4
    refine v_sub [1, 2] rfl ?_
    exact v_Mo_joinAt_b29 C K h
  · replace h := (ite_h h).2 c4
    refine v_iload_n C 1 dX12_joinAt_15 rfl ?_
    refine v_iload_n C 2 dX12_joinAt_16 rfl ?_
    refine cs C [] (m_Mo_isIn C.inj M a1 a2 _ rfl) ci_Mo_isIn lk_X12_254 (by decide) rfl rfl (Nat.le_of_ble_eq_true rfl) dX12_joinAt_17 ?_
    refine v_if_ne C 29 dX12_joinAt_20 (by decide) (fun c3 => ?_) (fun c3 => ?_)
    · replace h := (ite_h h).2 c3
      refine v_sub [1, 2] rfl ?_
      exact v_Mo_joinAt_b29 C K h
    · replace h := (ite_h h).1 c3
      refine v_iinc C [(2, .int (a2 + 1)), (0, .ref (S.2.1 91)), (1, .int a1)] 2 (a2 + 1) dX12_joinAt_23 rfl rfl (by decide) rfl ?_
      refine v_goto C 7 dX12_joinAt_26 (by decide) ?_
      refine v_sub [1, 2, 0] rfl ?_
      exact hk7 _ _ h
def f_Mo_joinAt_l7 : Nat → Int32 → Int32 → Mem → Option Int32
  | 0, _, _, _ => none
  | n + 1, a1, a2, M => f_Mo_joinAt_l7B (f_Mo_joinAt_l7 n) a1 a2 M
theorem v_Mo_joinAt_l7 {S : SE} {X : MX} {q : Int32} {M : Mem} (C : CX S X cX12_joinAt 3 RX12 2) (K : RT S X (some .int) (some (.int q)) M) : ∀ (n : Nat) (a1 : Int32) (a2 : Int32), f_Mo_joinAt_l7 n a1 a2 M = some q → V S X 3 M 7 [(0, .ref (S.2.1 91)), (1, .int a1), (2, .int a2)] [] := by
  intro n
  induction n with
  | zero => intro a1 a2 h; cases h
  | succ n ih => intro a1 a2 h; exact v_Mo_joinAt_l7B C K ih h
def f_Mo_joinAt (M : Mem) : Option Int32 :=
  (f_Mo_speaksNow M).bind fun q1 =>
  f_Mo_joinAt_l7 FU q1 0 M
set_option maxRecDepth 20000 in
theorem v_Mo_joinAt {S : SE} {X : MX} {q : Int32} {M : Mem} (C : CX S X cX12_joinAt 3 RX12 2) (K : RT S X (some .int) (some (.int q)) M) (h : f_Mo_joinAt M = some q) : V S X 3 M 0 [(0, .ref (S.2.1 91))] [] := by
  unfold f_Mo_joinAt at h
  refine v_aload_n C 0 dX12_joinAt_0 rfl ?_
  obtain ⟨q1, hq1, h⟩ := Option.bind_eq_some_iff.mp h
  refine cv12 C [] kk91 (m_Mo_speaksNow C.inj M q1 hq1) ci_Mo_speaksNow rfl lk_X12_247 (by decide) rfl rfl (Nat.le_of_ble_eq_true rfl) dX12_joinAt_1 ?_
  refine v_istore_n C [(1, .int q1), (0, .ref (S.2.1 91))] dX12_joinAt_4 (by decide) rfl ?_
  refine v_iconst C 0 dX12_joinAt_5 rfl ?_
  refine v_istore_n C [(2, .int 0), (1, .int q1), (0, .ref (S.2.1 91))] dX12_joinAt_6 (by decide) rfl ?_
  refine v_sub [2, 1, 0] rfl ?_
  exact v_Mo_joinAt_l7 C K FU _ _ h
theorem m_Mo_joinAt {S : SE} (hI : Inj S) (M : Mem) (q : Int32) (h : f_Mo_joinAt M = some q) : CM S yX12_joinAt cX12_joinAt 3 (some .int) 2 [.ref (S.2.1 91)] M (some (.int q)) M :=
  CM.of [(0, .ref (S.2.1 91))] hI (by decide) rfl (Nat.le_of_ble_eq_true rfl) (fun X C K => v_Mo_joinAt C K  h)
def f_Mo_plans_b141 (k32 : Int32 → Int32 → Mem → Option Mem) (a1 : Int32) (a2 : Int32) (M : Mem) : Option Mem :=
  k32 a1 (a2 + 1) M
set_option maxRecDepth 20000 in
theorem v_Mo_plans_b141 {S : SE} {X : MX} {q : Mem} {k32 : Int32 → Int32 → Mem → Option Mem} {a1 : Int32} {a2 : Int32} {M : Mem} (C : CX S X cX12_plans 4 RX12 3) (K : RT S X none none q) (hk32 : ∀ (a1 : Int32) (a2 : Int32) (M : Mem), k32 a1 a2 M = some q → V S X 4 M 32 [(0, .ref (S.2.1 91)), (1, .int a1), (2, .int a2)] []) (h : f_Mo_plans_b141 k32 a1 a2 M = some q) : V S X 4 M 141 [(0, .ref (S.2.1 91)), (1, .int a1), (2, .int a2)] [] := by
  unfold f_Mo_plans_b141 at h
  refine v_iinc C [(2, .int (a2 + 1)), (0, .ref (S.2.1 91)), (1, .int a1)] 2 (a2 + 1) dX12_plans_141 rfl rfl (by decide) rfl ?_
  refine v_goto C 32 dX12_plans_144 (by decide) ?_
  refine v_sub [1, 2, 0] rfl ?_
  exact hk32 _ _ _ h
def f_Mo_plans_b130 (k32 : Int32 → Int32 → Mem → Option Mem) (a1 : Int32) (a2 : Int32) (s0 : Int32) (s1 : Int32) (M : Mem) : Option Mem :=
  if gin s1 20 then
    bnd (mset M 117 s1.toNatClampNeg s0) fun M8 =>
    bnd (mset M8 91 35 ((M8 91 35) + 1)) fun M9 =>
    f_Mo_plans_b141 k32 a1 a2 M9
  else none
set_option maxRecDepth 20000 in
theorem v_Mo_plans_b130 {S : SE} {X : MX} {q : Mem} {k32 : Int32 → Int32 → Mem → Option Mem} {a1 : Int32} {a2 : Int32} {s0 : Int32} {s1 : Int32} {M : Mem} (C : CX S X cX12_plans 4 RX12 3) (K : RT S X none none q) (hk32 : ∀ (a1 : Int32) (a2 : Int32) (M : Mem), k32 a1 a2 M = some q → V S X 4 M 32 [(0, .ref (S.2.1 91)), (1, .int a1), (2, .int a2)] []) (h : f_Mo_plans_b130 k32 a1 a2 s0 s1 M = some q) : V S X 4 M 130 [(0, .ref (S.2.1 91)), (1, .int a1), (2, .int a2)] [.int s0, .int s1, .ref (S.2.1 117)] := by
  unfold f_Mo_plans_b130 at h
  obtain ⟨g7, h⟩ := gd_h h
  refine v_iast C kk117 ll117 g7 dX12_plans_130 ?_
  refine v_nmm h (fun M8 h => ?_)
  refine v_aload_n C 0 dX12_plans_131 rfl ?_
  refine v_dup C dX12_plans_132 rfl ?_
  refine g_Mo_planMany C kk91 fl_X12_261 dX12_plans_133 ?_
  refine v_iconst C 1 dX12_plans_136 rfl ?_
  refine v_iadd C dX12_plans_137 ?_
  refine p_Mo_planMany C kk91 fl_X12_261 dX12_plans_138 ?_
  refine v_nmm h (fun M9 h => ?_)
  exact v_Mo_plans_b141 C K hk32 h
def f_Mo_plans_b124 (k32 : Int32 → Int32 → Mem → Option Mem) (a1 : Int32) (a2 : Int32) (s0 : Int32) (M : Mem) : Option Mem :=
  if gin a2 12 then
    f_Mo_plans_b130 k32 a1 a2 (M 98 a2.toNatClampNeg) s0 M
  else none
set_option maxRecDepth 20000 in
theorem v_Mo_plans_b124 {S : SE} {X : MX} {q : Mem} {k32 : Int32 → Int32 → Mem → Option Mem} {a1 : Int32} {a2 : Int32} {s0 : Int32} {M : Mem} (C : CX S X cX12_plans 4 RX12 3) (K : RT S X none none q) (hk32 : ∀ (a1 : Int32) (a2 : Int32) (M : Mem), k32 a1 a2 M = some q → V S X 4 M 32 [(0, .ref (S.2.1 91)), (1, .int a1), (2, .int a2)] []) (h : f_Mo_plans_b124 k32 a1 a2 s0 M = some q) : V S X 4 M 124 [(0, .ref (S.2.1 91)), (1, .int a1), (2, .int a2)] [.int s0, .ref (S.2.1 117)] := by
  unfold f_Mo_plans_b124 at h
  refine v_aload_n C 0 dX12_plans_124 rfl ?_
  refine g_Mo_kinds C kk91 fl_X12_28 dX12_plans_125 ?_
  refine v_iload_n C 2 dX12_plans_128 rfl ?_
  obtain ⟨g6, h⟩ := gd_h h
  refine v_iald C kk98 ll98 g6 dX12_plans_129 ?_
  exact v_Mo_plans_b130 C K hk32 h
def f_Mo_plans_b94 (k32 : Int32 → Int32 → Mem → Option Mem) (a1 : Int32) (a2 : Int32) (a3 : Int32) (M : Mem) : Option Mem :=
  if (M 91 6) ≤ a2 then
    f_Mo_plans_b141 k32 a1 a2 M
  else
    if a2 = a1 then
      if a3 = 0 then
        f_Mo_plans_b124 k32 a1 a2 (M 91 35) M
      else
        f_Mo_plans_b130 k32 a1 a2 9 (M 91 35) M
    else
      f_Mo_plans_b124 k32 a1 a2 (M 91 35) M
set_option maxRecDepth 20000 in
theorem v_Mo_plans_b94 {S : SE} {X : MX} {q : Mem} {k32 : Int32 → Int32 → Mem → Option Mem} {a1 : Int32} {a2 : Int32} {a3 : Int32} {M : Mem} (C : CX S X cX12_plans 4 RX12 3) (K : RT S X none none q) (hk32 : ∀ (a1 : Int32) (a2 : Int32) (M : Mem), k32 a1 a2 M = some q → V S X 4 M 32 [(0, .ref (S.2.1 91)), (1, .int a1), (2, .int a2)] []) (h : f_Mo_plans_b94 k32 a1 a2 a3 M = some q) : V S X 4 M 94 [(0, .ref (S.2.1 91)), (1, .int a1), (2, .int a2), (3, .int a3)] [] := by
  unfold f_Mo_plans_b94 at h
  refine v_iload_n C 2 dX12_plans_94 rfl ?_
  refine v_aload_n C 0 dX12_plans_95 rfl ?_
  refine g_Mo_stepsTold C kk91 fl_X12_145 dX12_plans_96 ?_
  refine v_icmp_ge C 141 dX12_plans_99 (by decide) (fun c12 => ?_) (fun c12 => ?_)
  · replace h := (ite_h h).1 c12
    refine v_sub [0, 1, 2] rfl ?_
    exact v_Mo_plans_b141 C K hk32 h
  · replace h := (ite_h h).2 c12
    refine v_aload_n C 0 dX12_plans_102 rfl ?_
    refine g_Mo_planRow C kk91 fl_X12_85 dX12_plans_103 ?_
    refine v_aload_n C 0 dX12_plans_106 rfl ?_
    refine g_Mo_planMany C kk91 fl_X12_261 dX12_plans_107 ?_
    refine v_iload_n C 2 dX12_plans_110 rfl ?_
    refine v_iload_n C 1 dX12_plans_111 rfl ?_
    refine v_icmp_ne C 124 dX12_plans_112 (by decide) (fun c11 => ?_) (fun c11 => ?_)
    · replace h := (ite_h h).2 c11
      refine v_sub [0, 1, 2] rfl ?_
      exact v_Mo_plans_b124 C K hk32 h
    · replace h := (ite_h h).1 c11
      refine v_iload_n C 3 dX12_plans_115 rfl ?_
      refine v_if_eq C 124 dX12_plans_116 (by decide) (fun c10 => ?_) (fun c10 => ?_)
      · replace h := (ite_h h).1 c10
        refine v_sub [0, 1, 2] rfl ?_
        exact v_Mo_plans_b124 C K hk32 h
      · replace h := (ite_h h).2 c10
        refine v_bipush C 9 dX12_plans_119 rfl ?_
        refine v_goto C 130 dX12_plans_121 (by decide) ?_
        refine v_sub [0, 1, 2] rfl ?_
        exact v_Mo_plans_b130 C K hk32 h
def f_Mo_plans_b63 (k32 : Int32 → Int32 → Mem → Option Mem) (a1 : Int32) (a2 : Int32) (s0 : Int32) (M : Mem) : Option Mem :=
  if a2 = a1 then
    if s0 = 0 then
      if gin (M 91 35) 20 then
        bnd (mset M 117 (M 91 35).toNatClampNeg 8) fun M14 =>
        bnd (mset M14 91 35 ((M14 91 35) + 1)) fun M15 =>
        f_Mo_plans_b94 k32 a1 a2 s0 M15
      else none
    else
      f_Mo_plans_b94 k32 a1 a2 s0 M
  else
    f_Mo_plans_b94 k32 a1 a2 s0 M
set_option maxRecDepth 20000 in
theorem v_Mo_plans_b63 {S : SE} {X : MX} {q : Mem} {k32 : Int32 → Int32 → Mem → Option Mem} {a1 : Int32} {a2 : Int32} {s0 : Int32} {M : Mem} (C : CX S X cX12_plans 4 RX12 3) (K : RT S X none none q) (hk32 : ∀ (a1 : Int32) (a2 : Int32) (M : Mem), k32 a1 a2 M = some q → V S X 4 M 32 [(0, .ref (S.2.1 91)), (1, .int a1), (2, .int a2)] []) (h : f_Mo_plans_b63 k32 a1 a2 s0 M = some q) : V S X 4 M 63 [(0, .ref (S.2.1 91)), (1, .int a1), (2, .int a2)] [.int s0] := by
  unfold f_Mo_plans_b63 at h
  refine v_istore_n C [(3, .int s0), (0, .ref (S.2.1 91)), (1, .int a1), (2, .int a2)] dX12_plans_63 (by decide) rfl ?_
  refine v_iload_n C 3 dX12_plans_64 rfl ?_
  refine v_iload_n C 2 dX12_plans_65 rfl ?_
  refine v_icmp_ne C 94 dX12_plans_66 (by decide) (fun c17 => ?_) (fun c17 => ?_)
  · replace h := (ite_h h).2 c17
    refine v_sub [1, 2, 3, 0] rfl ?_
    exact v_Mo_plans_b94 C K hk32 h
  · replace h := (ite_h h).1 c17
    refine v_iload_n C 0 dX12_plans_69 rfl ?_
    refine v_if_ne C 94 dX12_plans_70 (by decide) (fun c16 => ?_) (fun c16 => ?_)
    · replace h := (ite_h h).2 c16
      refine v_sub [1, 2, 3, 0] rfl ?_
      exact v_Mo_plans_b94 C K hk32 h
    · replace h := (ite_h h).1 c16
      refine v_aload_n C 1 dX12_plans_73 rfl ?_
      refine g_Mo_planRow C kk91 fl_X12_85 dX12_plans_74 ?_
      refine v_aload_n C 1 dX12_plans_77 rfl ?_
      refine g_Mo_planMany C kk91 fl_X12_261 dX12_plans_78 ?_
      refine v_bipush C 8 dX12_plans_81 rfl ?_
      obtain ⟨g13, h⟩ := gd_h h
      refine v_iast C kk117 ll117 g13 dX12_plans_83 ?_
      refine v_nmm h (fun M14 h => ?_)
      refine v_aload_n C 1 dX12_plans_84 rfl ?_
      refine v_dup C dX12_plans_85 rfl ?_
      refine g_Mo_planMany C kk91 fl_X12_261 dX12_plans_86 ?_
      refine v_iconst C 1 dX12_plans_89 rfl ?_
      refine v_iadd C dX12_plans_90 ?_
      refine p_Mo_planMany C kk91 fl_X12_261 dX12_plans_91 ?_
      refine v_nmm h (fun M15 h => ?_)
      refine v_sub [1, 2, 3, 0] rfl ?_
      exact v_Mo_plans_b94 C K hk32 h
def f_Mo_plans_b62 (k32 : Int32 → Int32 → Mem → Option Mem) (a1 : Int32) (a2 : Int32) (M : Mem) : Option Mem :=
  f_Mo_plans_b63 k32 a1 a2 0 M
set_option maxRecDepth 20000 in
theorem v_Mo_plans_b62 {S : SE} {X : MX} {q : Mem} {k32 : Int32 → Int32 → Mem → Option Mem} {a1 : Int32} {a2 : Int32} {M : Mem} (C : CX S X cX12_plans 4 RX12 3) (K : RT S X none none q) (hk32 : ∀ (a1 : Int32) (a2 : Int32) (M : Mem), k32 a1 a2 M = some q → V S X 4 M 32 [(0, .ref (S.2.1 91)), (1, .int a1), (2, .int a2)] []) (h : f_Mo_plans_b62 k32 a1 a2 M = some q) : V S X 4 M 62 [(0, .ref (S.2.1 91)), (1, .int a1), (2, .int a2)] [] := by
  unfold f_Mo_plans_b62 at h
  refine v_iconst C 0 dX12_plans_62 rfl ?_
  exact v_Mo_plans_b63 C K hk32 h
def f_Mo_plans_l32B (k32 : Int32 → Int32 → Mem → Option Mem) (a1 : Int32) (a2 : Int32) (M : Mem) : Option Mem :=
  if (M 91 6) < a2 then
    some M
  else
    if (M 91 6) ≤ a2 then
      f_Mo_plans_b62 k32 a1 a2 M
    else
      if gin a2 12 then
        if (M 98 a2.toNatClampNeg) = 1 then
          f_Mo_plans_b63 k32 a1 a2 1 M
        else
          f_Mo_plans_b62 k32 a1 a2 M
      else none
set_option maxRecDepth 20000 in
theorem v_Mo_plans_l32B {S : SE} {X : MX} {q : Mem} {k32 : Int32 → Int32 → Mem → Option Mem} {a1 : Int32} {a2 : Int32} {M : Mem} (C : CX S X cX12_plans 4 RX12 3) (K : RT S X none none q) (hk32 : ∀ (a1 : Int32) (a2 : Int32) (M : Mem), k32 a1 a2 M = some q → V S X 4 M 32 [(0, .ref (S.2.1 91)), (1, .int a1), (2, .int a2)] []) (h : f_Mo_plans_l32B k32 a1 a2 M = some q) : V S X 4 M 32 [(0, .ref (S.2.1 91)), (1, .int a1), (2, .int a2)] [] := by
  unfold f_Mo_plans_l32B at h
  refine v_iload_n C 2 dX12_plans_32 rfl ?_
  refine v_aload_n C 0 dX12_plans_33 rfl ?_
  refine g_Mo_stepsTold C kk91 fl_X12_145 dX12_plans_34 ?_
  refine v_icmp_gt C 147 dX12_plans_37 (by decide) (fun c21 => ?_) (fun c21 => ?_)
  · replace h := (ite_h h).1 c21
    obtain rfl := Option.some.inj h
    exact v_vret C K dX12_plans_147
  · replace h := (ite_h h).2 c21
    refine v_iload_n C 2 dX12_plans_40 rfl ?_
    refine v_aload_n C 0 dX12_plans_41 rfl ?_
    refine g_Mo_stepsTold C kk91 fl_X12_145 dX12_plans_42 ?_
    refine v_icmp_ge C 62 dX12_plans_45 (by decide) (fun c20 => ?_) (fun c20 => ?_)
    · replace h := (ite_h h).1 c20
      exact v_Mo_plans_b62 C K hk32 h
    · replace h := (ite_h h).2 c20
      refine v_aload_n C 0 dX12_plans_48 rfl ?_
      refine g_Mo_kinds C kk91 fl_X12_28 dX12_plans_49 ?_
      refine v_iload_n C 2 dX12_plans_52 rfl ?_
      obtain ⟨g18, h⟩ := gd_h h
      refine v_iald C kk98 ll98 g18 dX12_plans_53 ?_
      refine v_iconst C 1 dX12_plans_54 rfl ?_
      refine v_icmp_ne C 62 dX12_plans_55 (by decide) (fun c19 => ?_) (fun c19 => ?_)
      · replace h := (ite_h h).2 c19
        exact v_Mo_plans_b62 C K hk32 h
      · replace h := (ite_h h).1 c19
        refine v_iconst C 1 dX12_plans_58 rfl ?_
        refine v_goto C 63 dX12_plans_59 (by decide) ?_
        exact v_Mo_plans_b63 C K hk32 h
def f_Mo_plans_l32 : Nat → Int32 → Int32 → Mem → Option Mem
  | 0, _, _, _ => none
  | n + 1, a1, a2, M => f_Mo_plans_l32B (f_Mo_plans_l32 n) a1 a2 M
theorem v_Mo_plans_l32 {S : SE} {X : MX} {q : Mem} (C : CX S X cX12_plans 4 RX12 3) (K : RT S X none none q) : ∀ (n : Nat) (a1 : Int32) (a2 : Int32) (M : Mem), f_Mo_plans_l32 n a1 a2 M = some q → V S X 4 M 32 [(0, .ref (S.2.1 91)), (1, .int a1), (2, .int a2)] [] := by
  intro n
  induction n with
  | zero => intro a1 a2 M h; cases h
  | succ n ih => intro a1 a2 M h; exact v_Mo_plans_l32B C K ih h
def f_Mo_plans (M : Mem) : Option Mem :=
  (f_Mo_joinAt M).bind fun q1 =>
  bnd (mset M 91 35 0) fun M2 =>
  if gin (M2 91 35) 20 then
    bnd (mset M2 117 (M2 91 35).toNatClampNeg 0) fun M4 =>
    bnd (mset M4 91 35 ((M4 91 35) + 1)) fun M5 =>
    f_Mo_plans_l32 FU q1 0 M5
  else none
set_option maxRecDepth 20000 in
theorem v_Mo_plans {S : SE} {X : MX} {q : Mem} {M : Mem} (C : CX S X cX12_plans 4 RX12 3) (K : RT S X none none q) (h : f_Mo_plans M = some q) : V S X 4 M 0 [(0, .ref (S.2.1 91))] [] := by
  unfold f_Mo_plans at h
  refine v_aload_n C 0 dX12_plans_0 rfl ?_
  obtain ⟨q1, hq1, h⟩ := Option.bind_eq_some_iff.mp h
  refine cv12 C [] kk91 (m_Mo_joinAt C.inj M q1 hq1) ci_Mo_joinAt rfl lk_X12_258 (by decide) rfl rfl (Nat.le_of_ble_eq_true rfl) dX12_plans_1 ?_
  refine v_istore_n C [(1, .int q1), (0, .ref (S.2.1 91))] dX12_plans_4 (by decide) rfl ?_
  refine v_aload_n C 1 dX12_plans_5 rfl ?_
  refine v_iconst C 0 dX12_plans_6 rfl ?_
  refine p_Mo_planMany C kk91 fl_X12_261 dX12_plans_7 ?_
  refine v_nmm h (fun M2 h => ?_)
  refine v_aload_n C 1 dX12_plans_10 rfl ?_
  refine g_Mo_planRow C kk91 fl_X12_85 dX12_plans_11 ?_
  refine v_aload_n C 1 dX12_plans_14 rfl ?_
  refine g_Mo_planMany C kk91 fl_X12_261 dX12_plans_15 ?_
  refine v_iconst C 0 dX12_plans_18 rfl ?_
  obtain ⟨g3, h⟩ := gd_h h
  refine v_iast C kk117 ll117 g3 dX12_plans_19 ?_
  refine v_nmm h (fun M4 h => ?_)
  refine v_aload_n C 1 dX12_plans_20 rfl ?_
  refine v_dup C dX12_plans_21 rfl ?_
  refine g_Mo_planMany C kk91 fl_X12_261 dX12_plans_22 ?_
  refine v_iconst C 1 dX12_plans_25 rfl ?_
  refine v_iadd C dX12_plans_26 ?_
  refine p_Mo_planMany C kk91 fl_X12_261 dX12_plans_27 ?_
  refine v_nmm h (fun M5 h => ?_)
  refine v_iconst C 0 dX12_plans_30 rfl ?_
  refine v_istore_n C [(2, .int 0), (1, .int q1), (0, .ref (S.2.1 91))] dX12_plans_31 (by decide) rfl ?_
  refine v_sub [2, 1, 0] rfl ?_
  exact v_Mo_plans_l32 C K FU _ _ _ h
theorem m_Mo_plans {S : SE} (hI : Inj S) (M : Mem) (q : Mem) (h : f_Mo_plans M = some q) : CM S yX12_plans cX12_plans 4 none 3 [.ref (S.2.1 91)] M none q :=
  CM.of [(0, .ref (S.2.1 91))] hI (by decide) rfl (Nat.le_of_ble_eq_true rfl) (fun X C K => v_Mo_plans C K  h)
def f_Mo_isLike_b66 (k4 : Int32 → Int32 → Int32 → Mem → Option Int32) (a1 : Int32) (a3 : Int32) (s0 : Int32) (M : Mem) : Option Int32 :=
  k4 a1 s0 (a3 + 1) M
set_option maxRecDepth 20000 in
theorem v_Mo_isLike_b66 {S : SE} {X : MX} {q : Int32} {k4 : Int32 → Int32 → Int32 → Mem → Option Int32} {a1 : Int32} {a3 : Int32} {s0 : Int32} {M : Mem} (C : CX S X cX12_isLike 4 RX12 0) (K : RT S X (some .boolean) (some (.int q)) M) (hk4 : ∀ (a1 : Int32) (a2 : Int32) (a3 : Int32), k4 a1 a2 a3 M = some q → V S X 4 M 4 [(0, .ref (S.2.1 91)), (1, .int a1), (2, .int a2), (3, .int a3)] []) (h : f_Mo_isLike_b66 k4 a1 a3 s0 M = some q) : V S X 4 M 66 [(0, .ref (S.2.1 91)), (1, .int a1), (3, .int a3)] [.int s0] := by
  unfold f_Mo_isLike_b66 at h
  refine v_istore_n C [(2, .int s0), (0, .ref (S.2.1 91)), (1, .int a1), (3, .int a3)] dX12_isLike_66 (by decide) rfl ?_
  refine v_iinc C [(3, .int (a3 + 1)), (2, .int s0), (0, .ref (S.2.1 91)), (1, .int a1)] 3 (a3 + 1) dX12_isLike_67 rfl rfl (by decide) rfl ?_
  refine v_goto C 4 dX12_isLike_70 (by decide) ?_
  refine v_sub [2, 3, 1, 0] rfl ?_
  exact hk4 _ _ _ h
def f_Mo_isLike_b61 (k4 : Int32 → Int32 → Int32 → Mem → Option Int32) (a1 : Int32) (a3 : Int32) (M : Mem) : Option Int32 :=
  f_Mo_isLike_b66 k4 a1 a3 1 M
set_option maxRecDepth 20000 in
theorem v_Mo_isLike_b61 {S : SE} {X : MX} {q : Int32} {k4 : Int32 → Int32 → Int32 → Mem → Option Int32} {a1 : Int32} {a3 : Int32} {M : Mem} (C : CX S X cX12_isLike 4 RX12 0) (K : RT S X (some .boolean) (some (.int q)) M) (hk4 : ∀ (a1 : Int32) (a2 : Int32) (a3 : Int32), k4 a1 a2 a3 M = some q → V S X 4 M 4 [(0, .ref (S.2.1 91)), (1, .int a1), (2, .int a2), (3, .int a3)] []) (h : f_Mo_isLike_b61 k4 a1 a3 M = some q) : V S X 4 M 61 [(0, .ref (S.2.1 91)), (1, .int a1), (3, .int a3)] [] := by
  unfold f_Mo_isLike_b61 at h
  refine v_iconst C 1 dX12_isLike_61 rfl ?_
  refine v_goto C 66 dX12_isLike_62 (by decide) ?_
  exact v_Mo_isLike_b66 C K hk4 h
def f_Mo_isLike_b65 (k4 : Int32 → Int32 → Int32 → Mem → Option Int32) (a1 : Int32) (a3 : Int32) (M : Mem) : Option Int32 :=
  f_Mo_isLike_b66 k4 a1 a3 0 M
set_option maxRecDepth 20000 in
theorem v_Mo_isLike_b65 {S : SE} {X : MX} {q : Int32} {k4 : Int32 → Int32 → Int32 → Mem → Option Int32} {a1 : Int32} {a3 : Int32} {M : Mem} (C : CX S X cX12_isLike 4 RX12 0) (K : RT S X (some .boolean) (some (.int q)) M) (hk4 : ∀ (a1 : Int32) (a2 : Int32) (a3 : Int32), k4 a1 a2 a3 M = some q → V S X 4 M 4 [(0, .ref (S.2.1 91)), (1, .int a1), (2, .int a2), (3, .int a3)] []) (h : f_Mo_isLike_b65 k4 a1 a3 M = some q) : V S X 4 M 65 [(0, .ref (S.2.1 91)), (1, .int a1), (3, .int a3)] [] := by
  unfold f_Mo_isLike_b65 at h
  refine v_iconst C 0 dX12_isLike_65 rfl ?_
  exact v_Mo_isLike_b66 C K hk4 h
def f_Mo_isLike_l4B (k4 : Int32 → Int32 → Int32 → Mem → Option Int32) (a1 : Int32) (a2 : Int32) (a3 : Int32) (M : Mem) : Option Int32 :=
  if (M 91 21) ≤ a3 then
    if a2 = 0 ∨ a2 = 1 then
      some a2
    else none
  else
    if a2 = 0 then
      if gin a3 300 then
        if gin a1 300 then
          if (M 108 a3.toNatClampNeg) = (M 105 a1.toNatClampNeg) then
            if gin a3 300 then
              if gin a1 300 then
                if (M 109 a3.toNatClampNeg) = (M 106 a1.toNatClampNeg) then
                  if gin a3 300 then
                    if gin a1 300 then
                      if (M 110 a3.toNatClampNeg) = (M 107 a1.toNatClampNeg) then
                        f_Mo_isLike_b61 k4 a1 a3 M
                      else
                        f_Mo_isLike_b65 k4 a1 a3 M
                    else none
                  else none
                else
                  f_Mo_isLike_b65 k4 a1 a3 M
              else none
            else none
          else
            f_Mo_isLike_b65 k4 a1 a3 M
        else none
      else none
    else
      f_Mo_isLike_b61 k4 a1 a3 M
set_option maxRecDepth 20000 in
theorem v_Mo_isLike_l4B {S : SE} {X : MX} {q : Int32} {k4 : Int32 → Int32 → Int32 → Mem → Option Int32} {a1 : Int32} {a2 : Int32} {a3 : Int32} {M : Mem} (C : CX S X cX12_isLike 4 RX12 0) (K : RT S X (some .boolean) (some (.int q)) M) (hk4 : ∀ (a1 : Int32) (a2 : Int32) (a3 : Int32), k4 a1 a2 a3 M = some q → V S X 4 M 4 [(0, .ref (S.2.1 91)), (1, .int a1), (2, .int a2), (3, .int a3)] []) (h : f_Mo_isLike_l4B k4 a1 a2 a3 M = some q) : V S X 4 M 4 [(0, .ref (S.2.1 91)), (1, .int a1), (2, .int a2), (3, .int a3)] [] := by
  unfold f_Mo_isLike_l4B at h
  refine v_iload_n C 3 dX12_isLike_4 rfl ?_
  refine v_aload_n C 0 dX12_isLike_5 rfl ?_
  refine g_Mo_outMany C kk91 fl_X12_178 dX12_isLike_6 ?_
  refine v_icmp_ge C 73 dX12_isLike_9 (by decide) (fun c12 => ?_) (fun c12 => ?_)
  · replace h := (ite_h h).1 c12
    refine v_iload_n C 2 dX12_isLike_73 rfl ?_
    obtain ⟨g1, h⟩ := gd_h h
    obtain rfl := Option.some.inj h
    exact v_zret C g1 K dX12_isLike_74
  · replace h := (ite_h h).2 c12
    refine v_iload_n C 2 dX12_isLike_12 rfl ?_
    refine v_if_ne C 61 dX12_isLike_13 (by decide) (fun c11 => ?_) (fun c11 => ?_)
    · replace h := (ite_h h).2 c11
      refine v_sub [0, 1, 3] rfl ?_
      exact v_Mo_isLike_b61 C K hk4 h
    · replace h := (ite_h h).1 c11
      refine v_aload_n C 0 dX12_isLike_16 rfl ?_
      refine g_Mo_outK C kk91 fl_X12_58 dX12_isLike_17 ?_
      refine v_iload_n C 3 dX12_isLike_20 rfl ?_
      obtain ⟨g2, h⟩ := gd_h h
      refine v_iald C kk108 ll108 g2 dX12_isLike_21 ?_
      refine v_aload_n C 0 dX12_isLike_22 rfl ?_
      refine g_Mo_rowK C kk91 fl_X12_49 dX12_isLike_23 ?_
      refine v_iload_n C 1 dX12_isLike_26 rfl ?_
      obtain ⟨g3, h⟩ := gd_h h
      refine v_iald C kk105 ll105 g3 dX12_isLike_27 ?_
      refine v_icmp_ne C 65 dX12_isLike_28 (by decide) (fun c10 => ?_) (fun c10 => ?_)
      · replace h := (ite_h h).2 c10
        refine v_sub [0, 1, 3] rfl ?_
        exact v_Mo_isLike_b65 C K hk4 h
      · replace h := (ite_h h).1 c10
        refine v_aload_n C 0 dX12_isLike_31 rfl ?_
        refine g_Mo_outV C kk91 fl_X12_61 dX12_isLike_32 ?_
        refine v_iload_n C 3 dX12_isLike_35 rfl ?_
        obtain ⟨g4, h⟩ := gd_h h
        refine v_iald C kk109 ll109 g4 dX12_isLike_36 ?_
        refine v_aload_n C 0 dX12_isLike_37 rfl ?_
        refine g_Mo_rowV C kk91 fl_X12_52 dX12_isLike_38 ?_
        refine v_iload_n C 1 dX12_isLike_41 rfl ?_
        obtain ⟨g5, h⟩ := gd_h h
        refine v_iald C kk106 ll106 g5 dX12_isLike_42 ?_
        refine v_icmp_ne C 65 dX12_isLike_43 (by decide) (fun c9 => ?_) (fun c9 => ?_)
        · replace h := (ite_h h).2 c9
          refine v_sub [0, 1, 3] rfl ?_
          exact v_Mo_isLike_b65 C K hk4 h
        · replace h := (ite_h h).1 c9
          refine v_aload_n C 0 dX12_isLike_46 rfl ?_
          refine g_Mo_outPair C kk91 fl_X12_64 dX12_isLike_47 ?_
          refine v_iload_n C 3 dX12_isLike_50 rfl ?_
          obtain ⟨g6, h⟩ := gd_h h
          refine v_iald C kk110 ll110 g6 dX12_isLike_51 ?_
          refine v_aload_n C 0 dX12_isLike_52 rfl ?_
          refine g_Mo_rowPair C kk91 fl_X12_55 dX12_isLike_53 ?_
          refine v_iload_n C 1 dX12_isLike_56 rfl ?_
          obtain ⟨g7, h⟩ := gd_h h
          refine v_iald C kk107 ll107 g7 dX12_isLike_57 ?_
          refine v_icmp_ne C 65 dX12_isLike_58 (by decide) (fun c8 => ?_) (fun c8 => ?_)
          · replace h := (ite_h h).2 c8
            refine v_sub [0, 1, 3] rfl ?_
            exact v_Mo_isLike_b65 C K hk4 h
          · replace h := (ite_h h).1 c8
            refine v_sub [0, 1, 3] rfl ?_
            exact v_Mo_isLike_b61 C K hk4 h
def f_Mo_isLike_l4 : Nat → Int32 → Int32 → Int32 → Mem → Option Int32
  | 0, _, _, _, _ => none
  | n + 1, a1, a2, a3, M => f_Mo_isLike_l4B (f_Mo_isLike_l4 n) a1 a2 a3 M
theorem v_Mo_isLike_l4 {S : SE} {X : MX} {q : Int32} {M : Mem} (C : CX S X cX12_isLike 4 RX12 0) (K : RT S X (some .boolean) (some (.int q)) M) : ∀ (n : Nat) (a1 : Int32) (a2 : Int32) (a3 : Int32), f_Mo_isLike_l4 n a1 a2 a3 M = some q → V S X 4 M 4 [(0, .ref (S.2.1 91)), (1, .int a1), (2, .int a2), (3, .int a3)] [] := by
  intro n
  induction n with
  | zero => intro a1 a2 a3 h; cases h
  | succ n ih => intro a1 a2 a3 h; exact v_Mo_isLike_l4B C K ih h
def f_Mo_isLike (M : Mem) (a1 : Int32) : Option Int32 :=
  f_Mo_isLike_l4 FU a1 0 0 M
set_option maxRecDepth 20000 in
theorem v_Mo_isLike {S : SE} {X : MX} {q : Int32} {M : Mem} {a1 : Int32} (C : CX S X cX12_isLike 4 RX12 0) (K : RT S X (some .boolean) (some (.int q)) M) (h : f_Mo_isLike M a1 = some q) : V S X 4 M 0 [(0, .ref (S.2.1 91)), (1, .int a1)] [] := by
  unfold f_Mo_isLike at h
  refine v_iconst C 0 dX12_isLike_0 rfl ?_
  refine v_istore_n C [(2, .int 0), (0, .ref (S.2.1 91)), (1, .int a1)] dX12_isLike_1 (by decide) rfl ?_
  refine v_iconst C 0 dX12_isLike_2 rfl ?_
  refine v_istore_n C [(3, .int 0), (2, .int 0), (0, .ref (S.2.1 91)), (1, .int a1)] dX12_isLike_3 (by decide) rfl ?_
  refine v_sub [2, 3, 1, 0] rfl ?_
  exact v_Mo_isLike_l4 C K FU _ _ _ h
theorem m_Mo_isLike {S : SE} (hI : Inj S) (M : Mem) (a1 : Int32) (q : Int32) (h : f_Mo_isLike M a1 = some q) : CM S yX12_isLike cX12_isLike 4 (some .boolean) 0 [.ref (S.2.1 91), .int a1] M (some (.int q)) M :=
  CM.of [(0, .ref (S.2.1 91)), (1, .int a1)] hI (by decide) rfl (Nat.le_of_ble_eq_true rfl) (fun X C K => v_Mo_isLike C K  h)
def f_Mo_joins_b64 (k2 : Int32 → Int32 → Mem → Option Mem) (k12 : Int32 → Int32 → Int32 → Mem → Option Mem) (a1 : Int32) (a2 : Int32) (a3 : Int32) (M : Mem) : Option Mem :=
  k12 a1 a2 (a3 + 1) M
set_option maxRecDepth 20000 in
theorem v_Mo_joins_b64 {S : SE} {X : MX} {q : Mem} {k2 : Int32 → Int32 → Mem → Option Mem} {k12 : Int32 → Int32 → Int32 → Mem → Option Mem} {a1 : Int32} {a2 : Int32} {a3 : Int32} {M : Mem} (C : CX S X cX12_joins 4 RX12 1) (K : RT S X none none q) (hk2 : ∀ (a1 : Int32) (a2 : Int32) (M : Mem), k2 a1 a2 M = some q → V S X 4 M 2 [(0, .ref (S.2.1 91)), (1, .int a1), (2, .int a2)] []) (hk12 : ∀ (a1 : Int32) (a2 : Int32) (a3 : Int32) (M : Mem), k12 a1 a2 a3 M = some q → V S X 4 M 12 [(0, .ref (S.2.1 91)), (1, .int a1), (2, .int a2), (3, .int a3)] []) (h : f_Mo_joins_b64 k2 k12 a1 a2 a3 M = some q) : V S X 4 M 64 [(0, .ref (S.2.1 91)), (1, .int a1), (2, .int a2), (3, .int a3)] [] := by
  unfold f_Mo_joins_b64 at h
  refine v_iinc C [(3, .int (a3 + 1)), (0, .ref (S.2.1 91)), (1, .int a1), (2, .int a2)] 3 (a3 + 1) dX12_joins_64 rfl rfl (by decide) rfl ?_
  refine v_goto C 12 dX12_joins_67 (by decide) ?_
  refine v_sub [1, 2, 3, 0] rfl ?_
  exact hk12 _ _ _ _ h
def f_Mo_joins_b47 (k2 : Int32 → Int32 → Mem → Option Mem) (k12 : Int32 → Int32 → Int32 → Mem → Option Mem) (a1 : Int32) (a2 : Int32) (a3 : Int32) (M : Mem) : Option Mem :=
  if gin a2 300 then
    if gin a2 300 then
      (f_Mo_puts M (M 105 a2.toNatClampNeg) (M 106 a2.toNatClampNeg) a3).bind fun q4 =>
      f_Mo_joins_b64 k2 k12 a1 a2 a3 q4
    else none
  else none
set_option maxRecDepth 20000 in
theorem v_Mo_joins_b47 {S : SE} {X : MX} {q : Mem} {k2 : Int32 → Int32 → Mem → Option Mem} {k12 : Int32 → Int32 → Int32 → Mem → Option Mem} {a1 : Int32} {a2 : Int32} {a3 : Int32} {M : Mem} (C : CX S X cX12_joins 4 RX12 1) (K : RT S X none none q) (hk2 : ∀ (a1 : Int32) (a2 : Int32) (M : Mem), k2 a1 a2 M = some q → V S X 4 M 2 [(0, .ref (S.2.1 91)), (1, .int a1), (2, .int a2)] []) (hk12 : ∀ (a1 : Int32) (a2 : Int32) (a3 : Int32) (M : Mem), k12 a1 a2 a3 M = some q → V S X 4 M 12 [(0, .ref (S.2.1 91)), (1, .int a1), (2, .int a2), (3, .int a3)] []) (h : f_Mo_joins_b47 k2 k12 a1 a2 a3 M = some q) : V S X 4 M 47 [(0, .ref (S.2.1 91)), (1, .int a1), (2, .int a2), (3, .int a3)] [] := by
  unfold f_Mo_joins_b47 at h
  refine v_aload_n C 0 dX12_joins_47 rfl ?_
  refine v_aload_n C 0 dX12_joins_48 rfl ?_
  refine g_Mo_rowK C kk91 fl_X12_49 dX12_joins_49 ?_
  refine v_iload_n C 2 dX12_joins_52 rfl ?_
  obtain ⟨g2, h⟩ := gd_h h
  refine v_iald C kk105 ll105 g2 dX12_joins_53 ?_
  refine v_aload_n C 0 dX12_joins_54 rfl ?_
  refine g_Mo_rowV C kk91 fl_X12_52 dX12_joins_55 ?_
  refine v_iload_n C 2 dX12_joins_58 rfl ?_
  obtain ⟨g3, h⟩ := gd_h h
  refine v_iald C kk106 ll106 g3 dX12_joins_59 ?_
  refine v_iload_n C 3 dX12_joins_60 rfl ?_
  obtain ⟨q4, hq4, h⟩ := Option.bind_eq_some_iff.mp h
  refine cv12v C [] kk91 (m_Mo_puts C.inj M (M 105 a2.toNatClampNeg) (M 106 a2.toNatClampNeg) a3 q4 hq4) ci_Mo_puts rfl lk_X12_203 (by decide) rfl rfl (Nat.le_of_ble_eq_true rfl) dX12_joins_61 ?_
  exact v_Mo_joins_b64 C K hk2 hk12 h
def f_Mo_joins_l12B (k2 : Int32 → Int32 → Mem → Option Mem) (k12 : Int32 → Int32 → Int32 → Mem → Option Mem) (a1 : Int32) (a2 : Int32) (a3 : Int32) (M : Mem) : Option Mem :=
  if (M 91 31) ≤ a3 then
    k2 a1 (a2 + 1) M
  else
    if a1 = 0 then
      f_Mo_joins_b47 k2 k12 a1 a2 a3 M
    else
      if gin a2 300 then
        if gin a3 10 then
          if (f_Mo_stays 1 0 (M 105 a2.toNatClampNeg) 0 (M 114 a3.toNatClampNeg)) = (-2) then
            f_Mo_joins_b64 k2 k12 a1 a2 a3 M
          else
            f_Mo_joins_b47 k2 k12 a1 a2 a3 M
        else none
      else none
set_option maxRecDepth 20000 in
theorem v_Mo_joins_l12B {S : SE} {X : MX} {q : Mem} {k2 : Int32 → Int32 → Mem → Option Mem} {k12 : Int32 → Int32 → Int32 → Mem → Option Mem} {a1 : Int32} {a2 : Int32} {a3 : Int32} {M : Mem} (C : CX S X cX12_joins 4 RX12 1) (K : RT S X none none q) (hk2 : ∀ (a1 : Int32) (a2 : Int32) (M : Mem), k2 a1 a2 M = some q → V S X 4 M 2 [(0, .ref (S.2.1 91)), (1, .int a1), (2, .int a2)] []) (hk12 : ∀ (a1 : Int32) (a2 : Int32) (a3 : Int32) (M : Mem), k12 a1 a2 a3 M = some q → V S X 4 M 12 [(0, .ref (S.2.1 91)), (1, .int a1), (2, .int a2), (3, .int a3)] []) (h : f_Mo_joins_l12B k2 k12 a1 a2 a3 M = some q) : V S X 4 M 12 [(0, .ref (S.2.1 91)), (1, .int a1), (2, .int a2), (3, .int a3)] [] := by
  unfold f_Mo_joins_l12B at h
  refine v_iload_n C 3 dX12_joins_12 rfl ?_
  refine v_aload_n C 0 dX12_joins_13 rfl ?_
  refine g_Mo_pairs C kk91 fl_X12_244 dX12_joins_14 ?_
  refine v_icmp_ge C 70 dX12_joins_17 (by decide) (fun c9 => ?_) (fun c9 => ?_)
  · replace h := (ite_h h).1 c9
    refine v_iinc C [(2, .int (a2 + 1)), (0, .ref (S.2.1 91)), (1, .int a1), (3, .int a3)] 2 (a2 + 1) dX12_joins_70 rfl rfl (by decide) rfl ?_
    refine v_goto C 2 dX12_joins_73 (by decide) ?_
    refine v_sub [1, 2, 0] rfl ?_
    exact hk2 _ _ _ h
  · replace h := (ite_h h).2 c9
    refine v_iload_n C 1 dX12_joins_20 rfl ?_
    refine v_if_eq C 47 dX12_joins_21 (by decide) (fun c8 => ?_) (fun c8 => ?_)
    · replace h := (ite_h h).1 c8
      exact v_Mo_joins_b47 C K hk2 hk12 h
    · replace h := (ite_h h).2 c8
      refine v_iconst C 1 dX12_joins_24 rfl ?_
      refine v_iconst C 0 dX12_joins_25 rfl ?_
      refine v_aload_n C 0 dX12_joins_26 rfl ?_
      refine g_Mo_rowK C kk91 fl_X12_49 dX12_joins_27 ?_
      refine v_iload_n C 2 dX12_joins_30 rfl ?_
      obtain ⟨g5, h⟩ := gd_h h
      refine v_iald C kk105 ll105 g5 dX12_joins_31 ?_
      refine v_iconst C 0 dX12_joins_32 rfl ?_
      refine v_aload_n C 0 dX12_joins_33 rfl ?_
      refine g_Mo_pairK C kk91 fl_X12_76 dX12_joins_34 ?_
      refine v_iload_n C 3 dX12_joins_37 rfl ?_
      obtain ⟨g6, h⟩ := gd_h h
      refine v_iald C kk114 ll114 g6 dX12_joins_38 ?_
      refine cs C [] (m_Mo_stays C.inj M 1 0 (M 105 a2.toNatClampNeg) 0 (M 114 a3.toNatClampNeg) _ rfl) ci_Mo_stays lk_X12_193 (by decide) rfl rfl (Nat.le_of_ble_eq_true rfl) dX12_joins_39 ?_
      refine v_bipush C (-2) dX12_joins_42 rfl ?_
      refine v_icmp_eq C 64 dX12_joins_44 (by decide) (fun c7 => ?_) (fun c7 => ?_)
      · replace h := (ite_h h).1 c7
        exact v_Mo_joins_b64 C K hk2 hk12 h
      · replace h := (ite_h h).2 c7
        exact v_Mo_joins_b47 C K hk2 hk12 h
def f_Mo_joins_l12 (k2 : Int32 → Int32 → Mem → Option Mem) : Nat → Int32 → Int32 → Int32 → Mem → Option Mem
  | 0, _, _, _, _ => none
  | n + 1, a1, a2, a3, M => f_Mo_joins_l12B k2 (f_Mo_joins_l12 k2 n) a1 a2 a3 M
theorem v_Mo_joins_l12 {S : SE} {X : MX} {q : Mem} {k2 : Int32 → Int32 → Mem → Option Mem} (C : CX S X cX12_joins 4 RX12 1) (K : RT S X none none q) (hk2 : ∀ (a1 : Int32) (a2 : Int32) (M : Mem), k2 a1 a2 M = some q → V S X 4 M 2 [(0, .ref (S.2.1 91)), (1, .int a1), (2, .int a2)] []) : ∀ (n : Nat) (a1 : Int32) (a2 : Int32) (a3 : Int32) (M : Mem), f_Mo_joins_l12 k2 n a1 a2 a3 M = some q → V S X 4 M 12 [(0, .ref (S.2.1 91)), (1, .int a1), (2, .int a2), (3, .int a3)] [] := by
  intro n
  induction n with
  | zero => intro a1 a2 a3 M h; cases h
  | succ n ih => intro a1 a2 a3 M h; exact v_Mo_joins_l12B C K hk2 ih h
def f_Mo_joins_l2B (k2 : Int32 → Int32 → Mem → Option Mem) (a1 : Int32) (a2 : Int32) (M : Mem) : Option Mem :=
  if (M 91 17) ≤ a2 then
    bnd (mset M 91 28 ((M 91 28) + (M 91 21))) fun M1 =>
    some M1
  else
    f_Mo_joins_l12 k2 FU a1 a2 0 M
set_option maxRecDepth 20000 in
theorem v_Mo_joins_l2B {S : SE} {X : MX} {q : Mem} {k2 : Int32 → Int32 → Mem → Option Mem} {a1 : Int32} {a2 : Int32} {M : Mem} (C : CX S X cX12_joins 4 RX12 1) (K : RT S X none none q) (hk2 : ∀ (a1 : Int32) (a2 : Int32) (M : Mem), k2 a1 a2 M = some q → V S X 4 M 2 [(0, .ref (S.2.1 91)), (1, .int a1), (2, .int a2)] []) (h : f_Mo_joins_l2B k2 a1 a2 M = some q) : V S X 4 M 2 [(0, .ref (S.2.1 91)), (1, .int a1), (2, .int a2)] [] := by
  unfold f_Mo_joins_l2B at h
  refine v_iload_n C 2 dX12_joins_2 rfl ?_
  refine v_aload_n C 0 dX12_joins_3 rfl ?_
  refine g_Mo_many C kk91 fl_X12_181 dX12_joins_4 ?_
  refine v_icmp_ge C 76 dX12_joins_7 (by decide) (fun c10 => ?_) (fun c10 => ?_)
  · replace h := (ite_h h).1 c10
    refine v_aload_n C 0 dX12_joins_76 rfl ?_
    refine v_dup C dX12_joins_77 rfl ?_
    refine g_Mo_handed C kk91 fl_X12_200 dX12_joins_78 ?_
    refine v_aload_n C 0 dX12_joins_81 rfl ?_
    refine g_Mo_outMany C kk91 fl_X12_178 dX12_joins_82 ?_
    refine v_iadd C dX12_joins_85 ?_
    refine p_Mo_handed C kk91 fl_X12_200 dX12_joins_86 ?_
    refine v_nmm h (fun M1 h => ?_)
    obtain rfl := Option.some.inj h
    exact v_vret C K dX12_joins_89
  · replace h := (ite_h h).2 c10
    refine v_iconst C 0 dX12_joins_10 rfl ?_
    refine v_istore_n C [(3, .int 0), (0, .ref (S.2.1 91)), (1, .int a1), (2, .int a2)] dX12_joins_11 (by decide) rfl ?_
    refine v_sub [1, 2, 3, 0] rfl ?_
    exact v_Mo_joins_l12 C K hk2 FU _ _ _ _ h
def f_Mo_joins_l2 : Nat → Int32 → Int32 → Mem → Option Mem
  | 0, _, _, _ => none
  | n + 1, a1, a2, M => f_Mo_joins_l2B (f_Mo_joins_l2 n) a1 a2 M
theorem v_Mo_joins_l2 {S : SE} {X : MX} {q : Mem} (C : CX S X cX12_joins 4 RX12 1) (K : RT S X none none q) : ∀ (n : Nat) (a1 : Int32) (a2 : Int32) (M : Mem), f_Mo_joins_l2 n a1 a2 M = some q → V S X 4 M 2 [(0, .ref (S.2.1 91)), (1, .int a1), (2, .int a2)] [] := by
  intro n
  induction n with
  | zero => intro a1 a2 M h; cases h
  | succ n ih => intro a1 a2 M h; exact v_Mo_joins_l2B C K ih h
def f_Mo_joins (M : Mem) (a1 : Int32) : Option Mem :=
  f_Mo_joins_l2 FU a1 0 M
set_option maxRecDepth 20000 in
theorem v_Mo_joins {S : SE} {X : MX} {q : Mem} {M : Mem} {a1 : Int32} (C : CX S X cX12_joins 4 RX12 1) (K : RT S X none none q) (h : f_Mo_joins M a1 = some q) : V S X 4 M 0 [(0, .ref (S.2.1 91)), (1, .int a1)] [] := by
  unfold f_Mo_joins at h
  refine v_iconst C 0 dX12_joins_0 rfl ?_
  refine v_istore_n C [(2, .int 0), (0, .ref (S.2.1 91)), (1, .int a1)] dX12_joins_1 (by decide) rfl ?_
  refine v_sub [1, 2, 0] rfl ?_
  exact v_Mo_joins_l2 C K FU _ _ _ h
theorem m_Mo_joins {S : SE} (hI : Inj S) (M : Mem) (a1 : Int32) (q : Mem) (h : f_Mo_joins M a1 = some q) : CM S yX12_joins cX12_joins 4 none 1 [.ref (S.2.1 91), .int a1] M none q :=
  CM.of [(0, .ref (S.2.1 91)), (1, .int a1)] hI (by decide) rfl (Nat.le_of_ble_eq_true rfl) (fun X C K => v_Mo_joins C K  h)
def f_Mo_does_b200 (M : Mem) : Option Mem :=
  bnd (mset M 91 28 ((M 91 28) + (M 91 21))) fun M3 =>
  some M3
set_option maxRecDepth 20000 in
theorem v_Mo_does_b200 {S : SE} {X : MX} {q : Mem} {M : Mem} (C : CX S X cX12_does 6 RX12 1) (K : RT S X none none q) (h : f_Mo_does_b200 M = some q) : V S X 6 M 200 [(0, .ref (S.2.1 91))] [] := by
  unfold f_Mo_does_b200 at h
  refine v_aload_n C 0 dX12_does_200 rfl ?_
  refine v_dup C dX12_does_201 rfl ?_
  refine g_Mo_handed C kk91 fl_X12_200 dX12_does_202 ?_
  refine v_aload_n C 0 dX12_does_205 rfl ?_
  refine g_Mo_outMany C kk91 fl_X12_178 dX12_does_206 ?_
  refine v_iadd C dX12_does_209 ?_
  refine p_Mo_handed C kk91 fl_X12_200 dX12_does_210 ?_
  refine v_nmm h (fun M3 h => ?_)
  obtain rfl := Option.some.inj h
  exact v_vret C K dX12_does_213
def f_Mo_does_l164B (k164 : Int32 → Mem → Option Mem) (a3 : Int32) (M : Mem) : Option Mem :=
  if (M 91 17) ≤ a3 then
    f_Mo_does_b200 M
  else
    if gin a3 300 then
      if gin a3 300 then
        if gin a3 300 then
          (f_Mo_puts M (M 105 a3.toNatClampNeg) (M 106 a3.toNatClampNeg) (M 107 a3.toNatClampNeg)).bind fun q8 =>
          k164 (a3 + 1) q8
        else none
      else none
    else none
set_option maxRecDepth 20000 in
theorem v_Mo_does_l164B {S : SE} {X : MX} {q : Mem} {k164 : Int32 → Mem → Option Mem} {a3 : Int32} {M : Mem} (C : CX S X cX12_does 6 RX12 1) (K : RT S X none none q) (hk164 : ∀ (a3 : Int32) (M : Mem), k164 a3 M = some q → V S X 6 M 164 [(0, .ref (S.2.1 91)), (3, .int a3)] []) (h : f_Mo_does_l164B k164 a3 M = some q) : V S X 6 M 164 [(0, .ref (S.2.1 91)), (3, .int a3)] [] := by
  unfold f_Mo_does_l164B at h
  refine v_iload_n C 1 dX12_does_164 rfl ?_
  refine v_aload_n C 0 dX12_does_165 rfl ?_
  refine g_Mo_many C kk91 fl_X12_181 dX12_does_166 ?_
  refine v_icmp_ge C 200 dX12_does_169 (by decide) (fun c9 => ?_) (fun c9 => ?_)
  · replace h := (ite_h h).1 c9
    refine v_sub [0] rfl ?_
    exact v_Mo_does_b200 C K h
  · replace h := (ite_h h).2 c9
    refine v_aload_n C 0 dX12_does_172 rfl ?_
    refine v_aload_n C 0 dX12_does_173 rfl ?_
    refine g_Mo_rowK C kk91 fl_X12_49 dX12_does_174 ?_
    refine v_iload_n C 1 dX12_does_177 rfl ?_
    obtain ⟨g5, h⟩ := gd_h h
    refine v_iald C kk105 ll105 g5 dX12_does_178 ?_
    refine v_aload_n C 0 dX12_does_179 rfl ?_
    refine g_Mo_rowV C kk91 fl_X12_52 dX12_does_180 ?_
    refine v_iload_n C 1 dX12_does_183 rfl ?_
    obtain ⟨g6, h⟩ := gd_h h
    refine v_iald C kk106 ll106 g6 dX12_does_184 ?_
    refine v_aload_n C 0 dX12_does_185 rfl ?_
    refine g_Mo_rowPair C kk91 fl_X12_55 dX12_does_186 ?_
    refine v_iload_n C 1 dX12_does_189 rfl ?_
    obtain ⟨g7, h⟩ := gd_h h
    refine v_iald C kk107 ll107 g7 dX12_does_190 ?_
    obtain ⟨q8, hq8, h⟩ := Option.bind_eq_some_iff.mp h
    refine cv12v C [] kk91 (m_Mo_puts C.inj M (M 105 a3.toNatClampNeg) (M 106 a3.toNatClampNeg) (M 107 a3.toNatClampNeg) q8 hq8) ci_Mo_puts rfl lk_X12_203 (by decide) rfl rfl (Nat.le_of_ble_eq_true rfl) dX12_does_191 ?_
    refine v_iinc C [(3, .int (a3 + 1)), (0, .ref (S.2.1 91))] 1 (a3 + 1) dX12_does_194 rfl rfl (by decide) rfl ?_
    refine v_goto C 164 dX12_does_197 (by decide) ?_
    refine v_sub [1, 0] rfl ?_
    exact hk164 _ _ h
def f_Mo_does_l164 : Nat → Int32 → Mem → Option Mem
  | 0, _, _ => none
  | n + 1, a3, M => f_Mo_does_l164B (f_Mo_does_l164 n) a3 M
theorem v_Mo_does_l164 {S : SE} {X : MX} {q : Mem} (C : CX S X cX12_does 6 RX12 1) (K : RT S X none none q) : ∀ (n : Nat) (a3 : Int32) (M : Mem), f_Mo_does_l164 n a3 M = some q → V S X 6 M 164 [(0, .ref (S.2.1 91)), (3, .int a3)] [] := by
  intro n
  induction n with
  | zero => intro a3 M h; cases h
  | succ n ih => intro a3 M h; exact v_Mo_does_l164B C K ih h
def f_Mo_does_b152 (a2 : Int32) (M : Mem) : Option Mem :=
  if a2 = 6 then
    (f_Mo_groups M).bind fun q4 =>
    f_Mo_does_l164 FU 0 q4
  else
    f_Mo_does_b200 M
set_option maxRecDepth 20000 in
theorem v_Mo_does_b152 {S : SE} {X : MX} {q : Mem} {a2 : Int32} {M : Mem} (C : CX S X cX12_does 6 RX12 1) (K : RT S X none none q) (h : f_Mo_does_b152 a2 M = some q) : V S X 6 M 152 [(0, .ref (S.2.1 91)), (2, .int a2)] [] := by
  unfold f_Mo_does_b152 at h
  refine v_iload_n C 1 dX12_does_152 rfl ?_
  refine v_bipush C 6 dX12_does_153 rfl ?_
  refine v_icmp_ne C 200 dX12_does_155 (by decide) (fun c10 => ?_) (fun c10 => ?_)
  · replace h := (ite_h h).2 c10
    refine v_sub [0] rfl ?_
    exact v_Mo_does_b200 C K h
  · replace h := (ite_h h).1 c10
    refine v_aload_n C 0 dX12_does_158 rfl ?_
    obtain ⟨q4, hq4, h⟩ := Option.bind_eq_some_iff.mp h
    refine cv12v C [] kk91 (m_Mo_groups C.inj M q4 hq4) ci_Mo_groups rfl lk_X12_225 (by decide) rfl rfl (Nat.le_of_ble_eq_true rfl) dX12_does_159 ?_
    refine v_iconst C 0 dX12_does_162 rfl ?_
    refine v_istore_n C [(3, .int 0), (0, .ref (S.2.1 91)), (2, .int a2)] dX12_does_163 (by decide) rfl ?_
    refine v_sub [1, 0] rfl ?_
    exact v_Mo_does_l164 C K FU _ _ h
def f_Mo_does_l116B (k116 : Int32 → Int32 → Mem → Option Mem) (a2 : Int32) (a3 : Int32) (M : Mem) : Option Mem :=
  if (M 91 31) ≤ a3 then
    f_Mo_does_b152 a2 M
  else
    if a2 = 4 then
      if gin a3 10 then
        if gin a3 10 then
          (f_Mo_puts M (M 114 a3.toNatClampNeg) (M 115 a3.toNatClampNeg) a3).bind fun q13 =>
          k116 a2 (a3 + 1) q13
        else none
      else none
    else
      f_Mo_does_b152 a2 M
set_option maxRecDepth 20000 in
theorem v_Mo_does_l116B {S : SE} {X : MX} {q : Mem} {k116 : Int32 → Int32 → Mem → Option Mem} {a2 : Int32} {a3 : Int32} {M : Mem} (C : CX S X cX12_does 6 RX12 1) (K : RT S X none none q) (hk116 : ∀ (a2 : Int32) (a3 : Int32) (M : Mem), k116 a2 a3 M = some q → V S X 6 M 116 [(0, .ref (S.2.1 91)), (2, .int a2), (3, .int a3)] []) (h : f_Mo_does_l116B k116 a2 a3 M = some q) : V S X 6 M 116 [(0, .ref (S.2.1 91)), (2, .int a2), (3, .int a3)] [] := by
  unfold f_Mo_does_l116B at h
  refine v_iload_n C 2 dX12_does_116 rfl ?_
  refine v_aload_n C 0 dX12_does_117 rfl ?_
  refine g_Mo_pairs C kk91 fl_X12_244 dX12_does_118 ?_
  refine v_icmp_ge C 152 dX12_does_121 (by decide) (fun c15 => ?_) (fun c15 => ?_)
  · replace h := (ite_h h).1 c15
    refine v_sub [0, 1] rfl ?_
    exact v_Mo_does_b152 C K h
  · replace h := (ite_h h).2 c15
    refine v_iload_n C 1 dX12_does_124 rfl ?_
    refine v_iconst C 4 dX12_does_125 rfl ?_
    refine v_icmp_ne C 152 dX12_does_126 (by decide) (fun c14 => ?_) (fun c14 => ?_)
    · replace h := (ite_h h).2 c14
      refine v_sub [0, 1] rfl ?_
      exact v_Mo_does_b152 C K h
    · replace h := (ite_h h).1 c14
      refine v_aload_n C 0 dX12_does_129 rfl ?_
      refine v_aload_n C 0 dX12_does_130 rfl ?_
      refine g_Mo_pairK C kk91 fl_X12_76 dX12_does_131 ?_
      refine v_iload_n C 2 dX12_does_134 rfl ?_
      obtain ⟨g11, h⟩ := gd_h h
      refine v_iald C kk114 ll114 g11 dX12_does_135 ?_
      refine v_aload_n C 0 dX12_does_136 rfl ?_
      refine g_Mo_pairV C kk91 fl_X12_79 dX12_does_137 ?_
      refine v_iload_n C 2 dX12_does_140 rfl ?_
      obtain ⟨g12, h⟩ := gd_h h
      refine v_iald C kk115 ll115 g12 dX12_does_141 ?_
      refine v_iload_n C 2 dX12_does_142 rfl ?_
      obtain ⟨q13, hq13, h⟩ := Option.bind_eq_some_iff.mp h
      refine cv12v C [] kk91 (m_Mo_puts C.inj M (M 114 a3.toNatClampNeg) (M 115 a3.toNatClampNeg) a3 q13 hq13) ci_Mo_puts rfl lk_X12_203 (by decide) rfl rfl (Nat.le_of_ble_eq_true rfl) dX12_does_143 ?_
      refine v_iinc C [(3, .int (a3 + 1)), (0, .ref (S.2.1 91)), (2, .int a2)] 2 (a3 + 1) dX12_does_146 rfl rfl (by decide) rfl ?_
      refine v_goto C 116 dX12_does_149 (by decide) ?_
      refine v_sub [1, 2, 0] rfl ?_
      exact hk116 _ _ _ h
def f_Mo_does_l116 : Nat → Int32 → Int32 → Mem → Option Mem
  | 0, _, _, _ => none
  | n + 1, a2, a3, M => f_Mo_does_l116B (f_Mo_does_l116 n) a2 a3 M
theorem v_Mo_does_l116 {S : SE} {X : MX} {q : Mem} (C : CX S X cX12_does 6 RX12 1) (K : RT S X none none q) : ∀ (n : Nat) (a2 : Int32) (a3 : Int32) (M : Mem), f_Mo_does_l116 n a2 a3 M = some q → V S X 6 M 116 [(0, .ref (S.2.1 91)), (2, .int a2), (3, .int a3)] [] := by
  intro n
  induction n with
  | zero => intro a2 a3 M h; cases h
  | succ n ih => intro a2 a3 M h; exact v_Mo_does_l116B C K ih h
def f_Mo_does_b108 (k9 : Int32 → Int32 → Int32 → Mem → Option Mem) (a1 : Int32) (a2 : Int32) (a3 : Int32) (M : Mem) : Option Mem :=
  k9 a1 a2 (a3 + 1) M
set_option maxRecDepth 20000 in
theorem v_Mo_does_b108 {S : SE} {X : MX} {q : Mem} {k9 : Int32 → Int32 → Int32 → Mem → Option Mem} {a1 : Int32} {a2 : Int32} {a3 : Int32} {M : Mem} (C : CX S X cX12_does 6 RX12 1) (K : RT S X none none q) (hk9 : ∀ (a1 : Int32) (a2 : Int32) (a3 : Int32) (M : Mem), k9 a1 a2 a3 M = some q → V S X 6 M 9 [(0, .ref (S.2.1 91)), (1, .int a1), (2, .int a2), (3, .int a3)] []) (h : f_Mo_does_b108 k9 a1 a2 a3 M = some q) : V S X 6 M 108 [(0, .ref (S.2.1 91)), (1, .int a1), (2, .int a2), (3, .int a3)] [] := by
  unfold f_Mo_does_b108 at h
  refine v_iinc C [(3, .int (a3 + 1)), (0, .ref (S.2.1 91)), (1, .int a1), (2, .int a2)] 3 (a3 + 1) dX12_does_108 rfl rfl (by decide) rfl ?_
  refine v_goto C 9 dX12_does_111 (by decide) ?_
  refine v_sub [1, 2, 3, 0] rfl ?_
  exact hk9 _ _ _ _ h
def f_Mo_does_b90 (k9 : Int32 → Int32 → Int32 → Mem → Option Mem) (a1 : Int32) (a2 : Int32) (a3 : Int32) (a5 : Int32) (M : Mem) : Option Mem :=
  if gin a3 300 then
    if gin a3 300 then
      (f_Mo_puts M (M 105 a3.toNatClampNeg) a5 (M 107 a3.toNatClampNeg)).bind fun q25 =>
      f_Mo_does_b108 k9 a1 a2 a3 q25
    else none
  else none
set_option maxRecDepth 20000 in
theorem v_Mo_does_b90 {S : SE} {X : MX} {q : Mem} {k9 : Int32 → Int32 → Int32 → Mem → Option Mem} {a1 : Int32} {a2 : Int32} {a3 : Int32} {a5 : Int32} {M : Mem} (C : CX S X cX12_does 6 RX12 1) (K : RT S X none none q) (hk9 : ∀ (a1 : Int32) (a2 : Int32) (a3 : Int32) (M : Mem), k9 a1 a2 a3 M = some q → V S X 6 M 9 [(0, .ref (S.2.1 91)), (1, .int a1), (2, .int a2), (3, .int a3)] []) (h : f_Mo_does_b90 k9 a1 a2 a3 a5 M = some q) : V S X 6 M 90 [(0, .ref (S.2.1 91)), (1, .int a1), (2, .int a2), (3, .int a3), (5, .int a5)] [] := by
  unfold f_Mo_does_b90 at h
  refine v_aload_n C 0 dX12_does_90 rfl ?_
  refine v_aload_n C 0 dX12_does_91 rfl ?_
  refine g_Mo_rowK C kk91 fl_X12_49 dX12_does_92 ?_
  refine v_iload_n C 3 dX12_does_95 rfl ?_
  obtain ⟨g23, h⟩ := gd_h h
  refine v_iald C kk105 ll105 g23 dX12_does_96 ?_
  refine v_iload C 4 dX12_does_97 rfl ?_
  refine v_aload_n C 0 dX12_does_99 rfl ?_
  refine g_Mo_rowPair C kk91 fl_X12_55 dX12_does_100 ?_
  refine v_iload_n C 3 dX12_does_103 rfl ?_
  obtain ⟨g24, h⟩ := gd_h h
  refine v_iald C kk107 ll107 g24 dX12_does_104 ?_
  obtain ⟨q25, hq25, h⟩ := Option.bind_eq_some_iff.mp h
  refine cv12v C [] kk91 (m_Mo_puts C.inj M (M 105 a3.toNatClampNeg) a5 (M 107 a3.toNatClampNeg) q25 hq25) ci_Mo_puts rfl lk_X12_203 (by decide) rfl rfl (Nat.le_of_ble_eq_true rfl) dX12_does_105 ?_
  refine v_sub [0, 1, 2, 3] rfl ?_
  exact v_Mo_does_b108 C K hk9 h
def f_Mo_does_b42 (k9 : Int32 → Int32 → Int32 → Mem → Option Mem) (a1 : Int32) (a2 : Int32) (a3 : Int32) (s0 : Int32) (M : Mem) : Option Mem :=
  if gin a1 12 then
    if gin a3 300 then
      if gin a3 300 then
        bnd (f_Mo_stays a2 (M 99 a1.toNatClampNeg) (M 105 a3.toNatClampNeg) (M 106 a3.toNatClampNeg) s0) fun x22 =>
        if x22 = (-2) then
          f_Mo_does_b108 k9 a1 a2 a3 M
        else
          if a2 = 5 then
            (f_Mo_isLike M a3).bind fun q26 =>
            if q26 = 0 then
              f_Mo_does_b90 k9 a1 a2 a3 x22 M
            else
              f_Mo_does_b108 k9 a1 a2 a3 M
          else
            f_Mo_does_b90 k9 a1 a2 a3 x22 M
      else none
    else none
  else none
set_option maxRecDepth 20000 in
theorem v_Mo_does_b42 {S : SE} {X : MX} {q : Mem} {k9 : Int32 → Int32 → Int32 → Mem → Option Mem} {a1 : Int32} {a2 : Int32} {a3 : Int32} {s0 : Int32} {M : Mem} (C : CX S X cX12_does 6 RX12 1) (K : RT S X none none q) (hk9 : ∀ (a1 : Int32) (a2 : Int32) (a3 : Int32) (M : Mem), k9 a1 a2 a3 M = some q → V S X 6 M 9 [(0, .ref (S.2.1 91)), (1, .int a1), (2, .int a2), (3, .int a3)] []) (h : f_Mo_does_b42 k9 a1 a2 a3 s0 M = some q) : V S X 6 M 42 [(0, .ref (S.2.1 91)), (1, .int a1), (2, .int a2), (3, .int a3)] [.int s0] := by
  unfold f_Mo_does_b42 at h
  refine v_istore C [(4, .int s0), (0, .ref (S.2.1 91)), (1, .int a1), (2, .int a2), (3, .int a3)] dX12_does_42 (by decide) rfl ?_
  refine v_iload_n C 3 dX12_does_44 rfl ?_
  refine v_aload_n C 1 dX12_does_45 rfl ?_
  refine g_Mo_figures C kk91 fl_X12_31 dX12_does_46 ?_
  refine v_iload_n C 2 dX12_does_49 rfl ?_
  obtain ⟨g19, h⟩ := gd_h h
  refine v_iald C kk99 ll99 g19 dX12_does_50 ?_
  refine v_aload_n C 1 dX12_does_51 rfl ?_
  refine g_Mo_rowK C kk91 fl_X12_49 dX12_does_52 ?_
  refine v_iload_n C 4 dX12_does_55 rfl ?_
  obtain ⟨g20, h⟩ := gd_h h
  refine v_iald C kk105 ll105 g20 dX12_does_56 ?_
  refine v_aload_n C 1 dX12_does_57 rfl ?_
  refine g_Mo_rowV C kk91 fl_X12_52 dX12_does_58 ?_
  refine v_iload_n C 4 dX12_does_61 rfl ?_
  obtain ⟨g21, h⟩ := gd_h h
  refine v_iald C kk106 ll106 g21 dX12_does_62 ?_
  refine v_iload C 0 dX12_does_63 rfl ?_
  refine cs C [] (m_Mo_stays C.inj M a2 (M 99 a1.toNatClampNeg) (M 105 a3.toNatClampNeg) (M 106 a3.toNatClampNeg) s0 _ rfl) ci_Mo_stays lk_X12_193 (by decide) rfl rfl (Nat.le_of_ble_eq_true rfl) dX12_does_65 ?_
  refine v_nmi h (fun x22 h => ?_)
  refine v_istore C [(5, .int x22), (4, .int s0), (0, .ref (S.2.1 91)), (1, .int a1), (2, .int a2), (3, .int a3)] dX12_does_68 (by decide) rfl ?_
  refine v_iload C 0 dX12_does_70 rfl ?_
  refine v_bipush C (-2) dX12_does_72 rfl ?_
  refine v_icmp_eq C 108 dX12_does_74 (by decide) (fun c29 => ?_) (fun c29 => ?_)
  · replace h := (ite_h h).1 c29
    refine v_sub [2, 3, 4, 5] rfl ?_
    exact v_Mo_does_b108 C K hk9 h
  · replace h := (ite_h h).2 c29
    refine v_iload_n C 4 dX12_does_77 rfl ?_
    refine v_iconst C 5 dX12_does_78 rfl ?_
    refine v_icmp_ne C 90 dX12_does_79 (by decide) (fun c28 => ?_) (fun c28 => ?_)
    · replace h := (ite_h h).2 c28
      refine v_sub [2, 3, 4, 5, 0] rfl ?_
      exact v_Mo_does_b90 C K hk9 h
    · replace h := (ite_h h).1 c28
      refine v_aload_n C 2 dX12_does_82 rfl ?_
      refine v_iload_n C 5 dX12_does_83 rfl ?_
      obtain ⟨q26, hq26, h⟩ := Option.bind_eq_some_iff.mp h
      refine cv12 C [] kk91 (m_Mo_isLike C.inj M a3 q26 hq26) ci_Mo_isLike rfl lk_X12_264 (by decide) rfl rfl (Nat.le_of_ble_eq_true rfl) dX12_does_84 ?_
      refine v_if_ne C 108 dX12_does_87 (by decide) (fun c27 => ?_) (fun c27 => ?_)
      · replace h := (ite_h h).2 c27
        refine v_sub [2, 3, 4, 5] rfl ?_
        exact v_Mo_does_b108 C K hk9 h
      · replace h := (ite_h h).1 c27
        refine v_sub [2, 3, 4, 5, 0] rfl ?_
        exact v_Mo_does_b90 C K hk9 h
def f_Mo_does_l9B (k9 : Int32 → Int32 → Int32 → Mem → Option Mem) (a1 : Int32) (a2 : Int32) (a3 : Int32) (M : Mem) : Option Mem :=
  if (M 91 17) ≤ a3 then
    f_Mo_does_l116 FU a2 0 M
  else
    if gin a3 300 then
      if (M 107 a3.toNatClampNeg) = (-1) then
        f_Mo_does_b42 k9 a1 a2 a3 (-1) M
      else
        if gin a3 300 then
          if gin (M 107 a3.toNatClampNeg) 10 then
            f_Mo_does_b42 k9 a1 a2 a3 (M 114 (M 107 a3.toNatClampNeg).toNatClampNeg) M
          else none
        else none
    else none
set_option maxRecDepth 20000 in
theorem v_Mo_does_l9B {S : SE} {X : MX} {q : Mem} {k9 : Int32 → Int32 → Int32 → Mem → Option Mem} {a1 : Int32} {a2 : Int32} {a3 : Int32} {M : Mem} (C : CX S X cX12_does 6 RX12 1) (K : RT S X none none q) (hk9 : ∀ (a1 : Int32) (a2 : Int32) (a3 : Int32) (M : Mem), k9 a1 a2 a3 M = some q → V S X 6 M 9 [(0, .ref (S.2.1 91)), (1, .int a1), (2, .int a2), (3, .int a3)] []) (h : f_Mo_does_l9B k9 a1 a2 a3 M = some q) : V S X 6 M 9 [(0, .ref (S.2.1 91)), (1, .int a1), (2, .int a2), (3, .int a3)] [] := by
  unfold f_Mo_does_l9B at h
  refine v_iload_n C 3 dX12_does_9 rfl ?_
  refine v_aload_n C 0 dX12_does_10 rfl ?_
  refine g_Mo_many C kk91 fl_X12_181 dX12_does_11 ?_
  refine v_icmp_ge C 114 dX12_does_14 (by decide) (fun c31 => ?_) (fun c31 => ?_)
  · replace h := (ite_h h).1 c31
    refine v_iconst C 0 dX12_does_114 rfl ?_
    refine v_istore_n C [(3, .int 0), (0, .ref (S.2.1 91)), (1, .int a1), (2, .int a2)] dX12_does_115 (by decide) rfl ?_
    refine v_sub [1, 3, 0] rfl ?_
    exact v_Mo_does_l116 C K FU _ _ _ h
  · replace h := (ite_h h).2 c31
    refine v_aload_n C 0 dX12_does_17 rfl ?_
    refine g_Mo_rowPair C kk91 fl_X12_55 dX12_does_18 ?_
    refine v_iload_n C 3 dX12_does_21 rfl ?_
    obtain ⟨g16, h⟩ := gd_h h
    refine v_iald C kk107 ll107 g16 dX12_does_22 ?_
    refine v_iconst C (-1) dX12_does_23 rfl ?_
    refine v_icmp_ne C 31 dX12_does_24 (by decide) (fun c30 => ?_) (fun c30 => ?_)
    · replace h := (ite_h h).2 c30
      refine v_aload_n C 0 dX12_does_31 rfl ?_
      refine g_Mo_pairK C kk91 fl_X12_76 dX12_does_32 ?_
      refine v_aload_n C 0 dX12_does_35 rfl ?_
      refine g_Mo_rowPair C kk91 fl_X12_55 dX12_does_36 ?_
      refine v_iload_n C 3 dX12_does_39 rfl ?_
      obtain ⟨g17, h⟩ := gd_h h
      refine v_iald C kk107 ll107 g17 dX12_does_40 ?_
      obtain ⟨g18, h⟩ := gd_h h
      refine v_iald C kk114 ll114 g18 dX12_does_41 ?_
      exact v_Mo_does_b42 C K hk9 h
    · replace h := (ite_h h).1 c30
      refine v_iconst C (-1) dX12_does_27 rfl ?_
      refine v_goto C 42 dX12_does_28 (by decide) ?_
      exact v_Mo_does_b42 C K hk9 h
def f_Mo_does_l9 : Nat → Int32 → Int32 → Int32 → Mem → Option Mem
  | 0, _, _, _, _ => none
  | n + 1, a1, a2, a3, M => f_Mo_does_l9B (f_Mo_does_l9 n) a1 a2 a3 M
theorem v_Mo_does_l9 {S : SE} {X : MX} {q : Mem} (C : CX S X cX12_does 6 RX12 1) (K : RT S X none none q) : ∀ (n : Nat) (a1 : Int32) (a2 : Int32) (a3 : Int32) (M : Mem), f_Mo_does_l9 n a1 a2 a3 M = some q → V S X 6 M 9 [(0, .ref (S.2.1 91)), (1, .int a1), (2, .int a2), (3, .int a3)] [] := by
  intro n
  induction n with
  | zero => intro a1 a2 a3 M h; cases h
  | succ n ih => intro a1 a2 a3 M h; exact v_Mo_does_l9B C K ih h
def f_Mo_does (M : Mem) (a1 : Int32) : Option Mem :=
  if gin a1 12 then
    bnd (M 98 a1.toNatClampNeg) fun x2 =>
    f_Mo_does_l9 FU a1 x2 0 M
  else none
set_option maxRecDepth 20000 in
theorem v_Mo_does {S : SE} {X : MX} {q : Mem} {M : Mem} {a1 : Int32} (C : CX S X cX12_does 6 RX12 1) (K : RT S X none none q) (h : f_Mo_does M a1 = some q) : V S X 6 M 0 [(0, .ref (S.2.1 91)), (1, .int a1)] [] := by
  unfold f_Mo_does at h
  refine v_aload_n C 0 dX12_does_0 rfl ?_
  refine g_Mo_kinds C kk91 fl_X12_28 dX12_does_1 ?_
  refine v_iload_n C 1 dX12_does_4 rfl ?_
  obtain ⟨g1, h⟩ := gd_h h
  refine v_iald C kk98 ll98 g1 dX12_does_5 ?_
  refine v_nmi h (fun x2 h => ?_)
  refine v_istore_n C [(2, .int x2), (0, .ref (S.2.1 91)), (1, .int a1)] dX12_does_6 (by decide) rfl ?_
  refine v_iconst C 0 dX12_does_7 rfl ?_
  refine v_istore_n C [(3, .int 0), (2, .int x2), (0, .ref (S.2.1 91)), (1, .int a1)] dX12_does_8 (by decide) rfl ?_
  refine v_sub [2, 3, 1, 0] rfl ?_
  exact v_Mo_does_l9 C K FU _ _ _ _ h
theorem m_Mo_does {S : SE} (hI : Inj S) (M : Mem) (a1 : Int32) (q : Mem) (h : f_Mo_does M a1 = some q) : CM S yX12_does cX12_does 6 none 1 [.ref (S.2.1 91), .int a1] M none q :=
  CM.of [(0, .ref (S.2.1 91)), (1, .int a1)] hI (by decide) rfl (Nat.le_of_ble_eq_true rfl) (fun X C K => v_Mo_does C K  h)
def f_Mo_free_l306B (k306 : Int32 → Mem → Option Mem) (a2 : Int32) (M : Mem) : Option Mem :=
  if a2 < 0 then
    bnd (mset M 102 (5 : Int32).toNatClampNeg (M 91 29)) fun M11 =>
    bnd (mset M11 102 (6 : Int32).toNatClampNeg (M11 91 28)) fun M12 =>
    bnd (mset M12 102 (8 : Int32).toNatClampNeg (M12 91 35)) fun M13 =>
    some M13
  else
    if gin a2 20 then
      (f_Mo_logs M 1 (10 + (M 117 a2.toNatClampNeg))).bind fun q15 =>
      k306 (a2 + (-1)) q15
    else none
set_option maxRecDepth 20000 in
theorem v_Mo_free_l306B {S : SE} {X : MX} {q : Mem} {k306 : Int32 → Mem → Option Mem} {a2 : Int32} {M : Mem} (C : CX S X cX12_free 4 RX12 4) (K : RT S X none none q) (hk306 : ∀ (a2 : Int32) (M : Mem), k306 a2 M = some q → V S X 4 M 306 [(0, .ref (S.2.1 91)), (2, .int a2)] []) (h : f_Mo_free_l306B k306 a2 M = some q) : V S X 4 M 306 [(0, .ref (S.2.1 91)), (2, .int a2)] [] := by
  unfold f_Mo_free_l306B at h
  refine v_iload_n C 1 dX12_free_306 rfl ?_
  refine v_if_lt C 330 dX12_free_307 (by decide) (fun c16 => ?_) (fun c16 => ?_)
  · replace h := (ite_h h).1 c16
    refine v_aload_n C 0 dX12_free_330 rfl ?_
    refine g_Mo_costs C kk91 fl_X12_40 dX12_free_331 ?_
    refine v_iconst C 5 dX12_free_334 rfl ?_
    refine v_aload_n C 0 dX12_free_335 rfl ?_
    refine g_Mo_readMany C kk91 fl_X12_211 dX12_free_336 ?_
    refine v_iast C kk102 ll102 (by decide) dX12_free_339 ?_
    refine v_nmm h (fun M11 h => ?_)
    refine v_aload_n C 0 dX12_free_340 rfl ?_
    refine g_Mo_costs C kk91 fl_X12_40 dX12_free_341 ?_
    refine v_bipush C 6 dX12_free_344 rfl ?_
    refine v_aload_n C 0 dX12_free_346 rfl ?_
    refine g_Mo_handed C kk91 fl_X12_200 dX12_free_347 ?_
    refine v_iast C kk102 ll102 (by decide) dX12_free_350 ?_
    refine v_nmm h (fun M12 h => ?_)
    refine v_aload_n C 0 dX12_free_351 rfl ?_
    refine g_Mo_costs C kk91 fl_X12_40 dX12_free_352 ?_
    refine v_bipush C 8 dX12_free_355 rfl ?_
    refine v_aload_n C 0 dX12_free_357 rfl ?_
    refine g_Mo_planMany C kk91 fl_X12_261 dX12_free_358 ?_
    refine v_iast C kk102 ll102 (by decide) dX12_free_361 ?_
    refine v_nmm h (fun M13 h => ?_)
    obtain rfl := Option.some.inj h
    exact v_vret C K dX12_free_362
  · replace h := (ite_h h).2 c16
    refine v_aload_n C 0 dX12_free_310 rfl ?_
    refine v_iconst C 1 dX12_free_311 rfl ?_
    refine v_bipush C 10 dX12_free_312 rfl ?_
    refine v_aload_n C 0 dX12_free_314 rfl ?_
    refine g_Mo_planRow C kk91 fl_X12_85 dX12_free_315 ?_
    refine v_iload_n C 1 dX12_free_318 rfl ?_
    obtain ⟨g14, h⟩ := gd_h h
    refine v_iald C kk117 ll117 g14 dX12_free_319 ?_
    refine v_iadd C dX12_free_320 ?_
    obtain ⟨q15, hq15, h⟩ := Option.bind_eq_some_iff.mp h
    refine cv12v C [] kk91 (m_Mo_logs C.inj M 1 (10 + (M 117 a2.toNatClampNeg)) q15 hq15) ci_Mo_logs rfl lk_X12_228 (by decide) rfl rfl (Nat.le_of_ble_eq_true rfl) dX12_free_321 ?_
    refine v_iinc C [(2, .int (a2 + (-1))), (0, .ref (S.2.1 91))] 1 (a2 + (-1)) dX12_free_324 rfl rfl (by decide) rfl ?_
    refine v_goto C 306 dX12_free_327 (by decide) ?_
    refine v_sub [1, 0] rfl ?_
    exact hk306 _ _ h
def f_Mo_free_l306 : Nat → Int32 → Mem → Option Mem
  | 0, _, _ => none
  | n + 1, a2, M => f_Mo_free_l306B (f_Mo_free_l306 n) a2 M
theorem v_Mo_free_l306 {S : SE} {X : MX} {q : Mem} (C : CX S X cX12_free 4 RX12 4) (K : RT S X none none q) : ∀ (n : Nat) (a2 : Int32) (M : Mem), f_Mo_free_l306 n a2 M = some q → V S X 4 M 306 [(0, .ref (S.2.1 91)), (2, .int a2)] [] := by
  intro n
  induction n with
  | zero => intro a2 M h; cases h
  | succ n ih => intro a2 M h; exact v_Mo_free_l306B C K ih h
def f_Mo_free_b292 (k214 : Int32 → Int32 → Mem → Option Mem) (a1 : Int32) (a2 : Int32) (s0 : Int32) (s1 : Int32) (M : Mem) : Option Mem :=
  if gin s1 2 then
    bnd (mset M 100 s1.toNatClampNeg s0) fun M24 =>
    k214 a1 (a2 + (-1)) M24
  else none
set_option maxRecDepth 20000 in
theorem v_Mo_free_b292 {S : SE} {X : MX} {q : Mem} {k214 : Int32 → Int32 → Mem → Option Mem} {a1 : Int32} {a2 : Int32} {s0 : Int32} {s1 : Int32} {M : Mem} (C : CX S X cX12_free 4 RX12 4) (K : RT S X none none q) (hk214 : ∀ (a1 : Int32) (a2 : Int32) (M : Mem), k214 a1 a2 M = some q → V S X 4 M 214 [(0, .ref (S.2.1 91)), (1, .int a1), (2, .int a2)] []) (h : f_Mo_free_b292 k214 a1 a2 s0 s1 M = some q) : V S X 4 M 292 [(0, .ref (S.2.1 91)), (1, .int a1), (2, .int a2)] [.int s0, .int s1, .ref (S.2.1 100)] := by
  unfold f_Mo_free_b292 at h
  obtain ⟨g23, h⟩ := gd_h h
  refine v_iast C kk100 ll100 g23 dX12_free_292 ?_
  refine v_nmm h (fun M24 h => ?_)
  refine v_iinc C [(2, .int (a2 + (-1))), (0, .ref (S.2.1 91)), (1, .int a1)] 2 (a2 + (-1)) dX12_free_293 rfl rfl (by decide) rfl ?_
  refine v_goto C 214 dX12_free_296 (by decide) ?_
  refine v_sub [1, 2, 0] rfl ?_
  exact hk214 _ _ _ h
def f_Mo_free_b259 (k214 : Int32 → Int32 → Mem → Option Mem) (a1 : Int32) (a2 : Int32) (s0 : Int32) (s1 : Int32) (s3 : Int32) (M : Mem) : Option Mem :=
  (f_Mo_answerOf M s1 s0).bind fun q19 =>
  if gin s3 20 then
    bnd (mset M 101 s3.toNatClampNeg q19) fun M21 =>
    if gin (10 + a2) 20 then
      if (M21 101 (10 + a2).toNatClampNeg) = (-2) then
        f_Mo_free_b292 k214 a1 a2 a2 1 M21
      else
        f_Mo_free_b292 k214 a1 a2 (M21 100 (1 : Int32).toNatClampNeg) 1 M21
    else none
  else none
set_option maxRecDepth 20000 in
theorem v_Mo_free_b259 {S : SE} {X : MX} {q : Mem} {k214 : Int32 → Int32 → Mem → Option Mem} {a1 : Int32} {a2 : Int32} {s0 : Int32} {s1 : Int32} {s3 : Int32} {M : Mem} (C : CX S X cX12_free 4 RX12 4) (K : RT S X none none q) (hk214 : ∀ (a1 : Int32) (a2 : Int32) (M : Mem), k214 a1 a2 M = some q → V S X 4 M 214 [(0, .ref (S.2.1 91)), (1, .int a1), (2, .int a2)] []) (h : f_Mo_free_b259 k214 a1 a2 s0 s1 s3 M = some q) : V S X 4 M 259 [(0, .ref (S.2.1 91)), (1, .int a1), (2, .int a2)] [.int s0, .int s1, .ref (S.2.1 91), .int s3, .ref (S.2.1 101)] := by
  unfold f_Mo_free_b259 at h
  obtain ⟨q19, hq19, h⟩ := Option.bind_eq_some_iff.mp h
  refine cv12 C [.int s3, .ref (S.2.1 101)] kk91 (m_Mo_answerOf C.inj M s1 s0 q19 hq19) ci_Mo_answerOf rfl lk_X12_241 (by decide) rfl rfl (Nat.le_of_ble_eq_true rfl) dX12_free_259 ?_
  obtain ⟨g20, h⟩ := gd_h h
  refine v_iast C kk101 ll101 g20 dX12_free_262 ?_
  refine v_nmm h (fun M21 h => ?_)
  refine v_aload_n C 0 dX12_free_263 rfl ?_
  refine g_Mo_errorAt C kk91 fl_X12_34 dX12_free_264 ?_
  refine v_iconst C 1 dX12_free_267 rfl ?_
  refine v_aload_n C 0 dX12_free_268 rfl ?_
  refine g_Mo_answers C kk91 fl_X12_37 dX12_free_269 ?_
  refine v_bipush C 10 dX12_free_272 rfl ?_
  refine v_iload_n C 2 dX12_free_274 rfl ?_
  refine v_iadd C dX12_free_275 ?_
  obtain ⟨g22, h⟩ := gd_h h
  refine v_iald C kk101 ll101 g22 dX12_free_276 ?_
  refine v_bipush C (-2) dX12_free_277 rfl ?_
  refine v_icmp_ne C 286 dX12_free_279 (by decide) (fun c25 => ?_) (fun c25 => ?_)
  · replace h := (ite_h h).2 c25
    refine v_aload_n C 0 dX12_free_286 rfl ?_
    refine g_Mo_errorAt C kk91 fl_X12_34 dX12_free_287 ?_
    refine v_iconst C 1 dX12_free_290 rfl ?_
    refine v_iald C kk100 ll100 (by decide) dX12_free_291 ?_
    exact v_Mo_free_b292 C K hk214 h
  · replace h := (ite_h h).1 c25
    refine v_iload_n C 2 dX12_free_282 rfl ?_
    refine v_goto C 292 dX12_free_283 (by decide) ?_
    exact v_Mo_free_b292 C K hk214 h
def f_Mo_free_b233 (k214 : Int32 → Int32 → Mem → Option Mem) (a1 : Int32) (a2 : Int32) (s0 : Int32) (M : Mem) : Option Mem :=
  if s0 = (-1) then
    f_Mo_free_b259 k214 a1 a2 (-1) s0 (10 + a2) M
  else
    if gin s0 10 then
      f_Mo_free_b259 k214 a1 a2 (M 115 s0.toNatClampNeg) s0 (10 + a2) M
    else none
set_option maxRecDepth 20000 in
theorem v_Mo_free_b233 {S : SE} {X : MX} {q : Mem} {k214 : Int32 → Int32 → Mem → Option Mem} {a1 : Int32} {a2 : Int32} {s0 : Int32} {M : Mem} (C : CX S X cX12_free 4 RX12 4) (K : RT S X none none q) (hk214 : ∀ (a1 : Int32) (a2 : Int32) (M : Mem), k214 a1 a2 M = some q → V S X 4 M 214 [(0, .ref (S.2.1 91)), (1, .int a1), (2, .int a2)] []) (h : f_Mo_free_b233 k214 a1 a2 s0 M = some q) : V S X 4 M 233 [(0, .ref (S.2.1 91)), (1, .int a1), (2, .int a2)] [.int s0] := by
  unfold f_Mo_free_b233 at h
  refine v_istore_n C [(3, .int s0), (0, .ref (S.2.1 91)), (1, .int a1), (2, .int a2)] dX12_free_233 (by decide) rfl ?_
  refine v_aload_n C 1 dX12_free_234 rfl ?_
  refine g_Mo_answers C kk91 fl_X12_37 dX12_free_235 ?_
  refine v_bipush C 10 dX12_free_238 rfl ?_
  refine v_iload_n C 3 dX12_free_240 rfl ?_
  refine v_iadd C dX12_free_241 ?_
  refine v_aload_n C 1 dX12_free_242 rfl ?_
  refine v_iload_n C 0 dX12_free_243 rfl ?_
  refine v_iload_n C 0 dX12_free_244 rfl ?_
  refine v_iconst C (-1) dX12_free_245 rfl ?_
  refine v_icmp_ne C 253 dX12_free_246 (by decide) (fun c26 => ?_) (fun c26 => ?_)
  · replace h := (ite_h h).2 c26
    refine v_aload_n C 1 dX12_free_253 rfl ?_
    refine g_Mo_pairV C kk91 fl_X12_79 dX12_free_254 ?_
    refine v_iload_n C 0 dX12_free_257 rfl ?_
    obtain ⟨g18, h⟩ := gd_h h
    refine v_iald C kk115 ll115 g18 dX12_free_258 ?_
    refine v_sub [1, 2, 3] rfl ?_
    exact v_Mo_free_b259 C K hk214 h
  · replace h := (ite_h h).1 c26
    refine v_iconst C (-1) dX12_free_249 rfl ?_
    refine v_goto C 259 dX12_free_250 (by decide) ?_
    refine v_sub [1, 2, 3] rfl ?_
    exact v_Mo_free_b259 C K hk214 h
def f_Mo_free_l214B (k214 : Int32 → Int32 → Mem → Option Mem) (a1 : Int32) (a2 : Int32) (M : Mem) : Option Mem :=
  if a2 < 0 then
    bnd ((M 91 35) - 1) fun x10 =>
    f_Mo_free_l306 FU x10 M
  else
    if a1 = (-1) then
      f_Mo_free_b233 k214 a1 a2 (-1) M
    else
      if gin a2 10 then
        f_Mo_free_b233 k214 a1 a2 (M 116 a2.toNatClampNeg) M
      else none
set_option maxRecDepth 20000 in
theorem v_Mo_free_l214B {S : SE} {X : MX} {q : Mem} {k214 : Int32 → Int32 → Mem → Option Mem} {a1 : Int32} {a2 : Int32} {M : Mem} (C : CX S X cX12_free 4 RX12 4) (K : RT S X none none q) (hk214 : ∀ (a1 : Int32) (a2 : Int32) (M : Mem), k214 a1 a2 M = some q → V S X 4 M 214 [(0, .ref (S.2.1 91)), (1, .int a1), (2, .int a2)] []) (h : f_Mo_free_l214B k214 a1 a2 M = some q) : V S X 4 M 214 [(0, .ref (S.2.1 91)), (1, .int a1), (2, .int a2)] [] := by
  unfold f_Mo_free_l214B at h
  refine v_iload_n C 2 dX12_free_214 rfl ?_
  refine v_if_lt C 299 dX12_free_215 (by decide) (fun c28 => ?_) (fun c28 => ?_)
  · replace h := (ite_h h).1 c28
    refine v_aload_n C 0 dX12_free_299 rfl ?_
    refine g_Mo_planMany C kk91 fl_X12_261 dX12_free_300 ?_
    refine v_iconst C 1 dX12_free_303 rfl ?_
    refine v_isub C dX12_free_304 ?_
    refine v_nmi h (fun x10 h => ?_)
    refine v_istore_n C [(2, .int x10), (0, .ref (S.2.1 91)), (1, .int a1)] dX12_free_305 (by decide) rfl ?_
    refine v_sub [1, 0] rfl ?_
    exact v_Mo_free_l306 C K FU _ _ h
  · replace h := (ite_h h).2 c28
    refine v_iload_n C 1 dX12_free_218 rfl ?_
    refine v_iconst C (-1) dX12_free_219 rfl ?_
    refine v_icmp_ne C 227 dX12_free_220 (by decide) (fun c27 => ?_) (fun c27 => ?_)
    · replace h := (ite_h h).2 c27
      refine v_aload_n C 0 dX12_free_227 rfl ?_
      refine g_Mo_pairOf C kk91 fl_X12_82 dX12_free_228 ?_
      refine v_iload_n C 2 dX12_free_231 rfl ?_
      obtain ⟨g17, h⟩ := gd_h h
      refine v_iald C kk116 ll116 g17 dX12_free_232 ?_
      exact v_Mo_free_b233 C K hk214 h
    · replace h := (ite_h h).1 c27
      refine v_iconst C (-1) dX12_free_223 rfl ?_
      refine v_goto C 233 dX12_free_224 (by decide) ?_
      exact v_Mo_free_b233 C K hk214 h
def f_Mo_free_l214 : Nat → Int32 → Int32 → Mem → Option Mem
  | 0, _, _, _ => none
  | n + 1, a1, a2, M => f_Mo_free_l214B (f_Mo_free_l214 n) a1 a2 M
theorem v_Mo_free_l214 {S : SE} {X : MX} {q : Mem} (C : CX S X cX12_free 4 RX12 4) (K : RT S X none none q) : ∀ (n : Nat) (a1 : Int32) (a2 : Int32) (M : Mem), f_Mo_free_l214 n a1 a2 M = some q → V S X 4 M 214 [(0, .ref (S.2.1 91)), (1, .int a1), (2, .int a2)] [] := by
  intro n
  induction n with
  | zero => intro a1 a2 M h; cases h
  | succ n ih => intro a1 a2 M h; exact v_Mo_free_l214B C K ih h
def f_Mo_free_l155B (k155 : Int32 → Int32 → Mem → Option Mem) (a1 : Int32) (a2 : Int32) (M : Mem) : Option Mem :=
  if (M 91 17) ≤ a2 then
    bnd ((M 95 (0 : Int32).toNatClampNeg) - 1) fun x9 =>
    f_Mo_free_l214 FU a1 x9 M
  else
    if gin a2 300 then
      if gin a2 300 then
        bnd (mset M 108 a2.toNatClampNeg (M 105 a2.toNatClampNeg)) fun M31 =>
        if gin a2 300 then
          if gin a2 300 then
            bnd (mset M31 109 a2.toNatClampNeg (M31 106 a2.toNatClampNeg)) fun M34 =>
            if gin a2 300 then
              if gin a2 300 then
                bnd (mset M34 110 a2.toNatClampNeg (M34 107 a2.toNatClampNeg)) fun M37 =>
                k155 a1 (a2 + 1) M37
              else none
            else none
          else none
        else none
      else none
    else none
set_option maxRecDepth 20000 in
theorem v_Mo_free_l155B {S : SE} {X : MX} {q : Mem} {k155 : Int32 → Int32 → Mem → Option Mem} {a1 : Int32} {a2 : Int32} {M : Mem} (C : CX S X cX12_free 4 RX12 4) (K : RT S X none none q) (hk155 : ∀ (a1 : Int32) (a2 : Int32) (M : Mem), k155 a1 a2 M = some q → V S X 4 M 155 [(0, .ref (S.2.1 91)), (1, .int a1), (2, .int a2)] []) (h : f_Mo_free_l155B k155 a1 a2 M = some q) : V S X 4 M 155 [(0, .ref (S.2.1 91)), (1, .int a1), (2, .int a2)] [] := by
  unfold f_Mo_free_l155B at h
  refine v_iload_n C 2 dX12_free_155 rfl ?_
  refine v_aload_n C 0 dX12_free_156 rfl ?_
  refine g_Mo_many C kk91 fl_X12_181 dX12_free_157 ?_
  refine v_icmp_ge C 205 dX12_free_160 (by decide) (fun c38 => ?_) (fun c38 => ?_)
  · replace h := (ite_h h).1 c38
    refine v_aload_n C 0 dX12_free_205 rfl ?_
    refine g_Mo_rows C kk91 fl_X12_19 dX12_free_206 ?_
    refine v_iconst C 0 dX12_free_209 rfl ?_
    refine v_iald C kk95 ll95 (by decide) dX12_free_210 ?_
    refine v_iconst C 1 dX12_free_211 rfl ?_
    refine v_isub C dX12_free_212 ?_
    refine v_nmi h (fun x9 h => ?_)
    refine v_istore_n C [(2, .int x9), (0, .ref (S.2.1 91)), (1, .int a1)] dX12_free_213 (by decide) rfl ?_
    refine v_sub [1, 2, 0] rfl ?_
    exact v_Mo_free_l214 C K FU _ _ _ h
  · replace h := (ite_h h).2 c38
    refine v_aload_n C 0 dX12_free_163 rfl ?_
    refine g_Mo_outK C kk91 fl_X12_58 dX12_free_164 ?_
    refine v_iload_n C 2 dX12_free_167 rfl ?_
    refine v_aload_n C 0 dX12_free_168 rfl ?_
    refine g_Mo_rowK C kk91 fl_X12_49 dX12_free_169 ?_
    refine v_iload_n C 2 dX12_free_172 rfl ?_
    obtain ⟨g29, h⟩ := gd_h h
    refine v_iald C kk105 ll105 g29 dX12_free_173 ?_
    obtain ⟨g30, h⟩ := gd_h h
    refine v_iast C kk108 ll108 g30 dX12_free_174 ?_
    refine v_nmm h (fun M31 h => ?_)
    refine v_aload_n C 0 dX12_free_175 rfl ?_
    refine g_Mo_outV C kk91 fl_X12_61 dX12_free_176 ?_
    refine v_iload_n C 2 dX12_free_179 rfl ?_
    refine v_aload_n C 0 dX12_free_180 rfl ?_
    refine g_Mo_rowV C kk91 fl_X12_52 dX12_free_181 ?_
    refine v_iload_n C 2 dX12_free_184 rfl ?_
    obtain ⟨g32, h⟩ := gd_h h
    refine v_iald C kk106 ll106 g32 dX12_free_185 ?_
    obtain ⟨g33, h⟩ := gd_h h
    refine v_iast C kk109 ll109 g33 dX12_free_186 ?_
    refine v_nmm h (fun M34 h => ?_)
    refine v_aload_n C 0 dX12_free_187 rfl ?_
    refine g_Mo_outPair C kk91 fl_X12_64 dX12_free_188 ?_
    refine v_iload_n C 2 dX12_free_191 rfl ?_
    refine v_aload_n C 0 dX12_free_192 rfl ?_
    refine g_Mo_rowPair C kk91 fl_X12_55 dX12_free_193 ?_
    refine v_iload_n C 2 dX12_free_196 rfl ?_
    obtain ⟨g35, h⟩ := gd_h h
    refine v_iald C kk107 ll107 g35 dX12_free_197 ?_
    obtain ⟨g36, h⟩ := gd_h h
    refine v_iast C kk110 ll110 g36 dX12_free_198 ?_
    refine v_nmm h (fun M37 h => ?_)
    refine v_iinc C [(2, .int (a2 + 1)), (0, .ref (S.2.1 91)), (1, .int a1)] 2 (a2 + 1) dX12_free_199 rfl rfl (by decide) rfl ?_
    refine v_goto C 155 dX12_free_202 (by decide) ?_
    refine v_sub [1, 2, 0] rfl ?_
    exact hk155 _ _ _ h
def f_Mo_free_l155 : Nat → Int32 → Int32 → Mem → Option Mem
  | 0, _, _, _ => none
  | n + 1, a1, a2, M => f_Mo_free_l155B (f_Mo_free_l155 n) a1 a2 M
theorem v_Mo_free_l155 {S : SE} {X : MX} {q : Mem} (C : CX S X cX12_free 4 RX12 4) (K : RT S X none none q) : ∀ (n : Nat) (a1 : Int32) (a2 : Int32) (M : Mem), f_Mo_free_l155 n a1 a2 M = some q → V S X 4 M 155 [(0, .ref (S.2.1 91)), (1, .int a1), (2, .int a2)] [] := by
  intro n
  induction n with
  | zero => intro a1 a2 M h; cases h
  | succ n ih => intro a1 a2 M h; exact v_Mo_free_l155B C K ih h
def f_Mo_free_b139 (k67 : Int32 → Int32 → Mem → Option Mem) (a1 : Int32) (a2 : Int32) (M : Mem) : Option Mem :=
  k67 a1 (a2 + 1) M
set_option maxRecDepth 20000 in
theorem v_Mo_free_b139 {S : SE} {X : MX} {q : Mem} {k67 : Int32 → Int32 → Mem → Option Mem} {a1 : Int32} {a2 : Int32} {M : Mem} (C : CX S X cX12_free 4 RX12 4) (K : RT S X none none q) (hk67 : ∀ (a1 : Int32) (a2 : Int32) (M : Mem), k67 a1 a2 M = some q → V S X 4 M 67 [(0, .ref (S.2.1 91)), (1, .int a1), (2, .int a2)] []) (h : f_Mo_free_b139 k67 a1 a2 M = some q) : V S X 4 M 139 [(0, .ref (S.2.1 91)), (1, .int a1), (2, .int a2)] [] := by
  unfold f_Mo_free_b139 at h
  refine v_iinc C [(2, .int (a2 + 1)), (0, .ref (S.2.1 91)), (1, .int a1)] 2 (a2 + 1) dX12_free_139 rfl rfl (by decide) rfl ?_
  refine v_goto C 67 dX12_free_142 (by decide) ?_
  refine v_sub [1, 2, 0] rfl ?_
  exact hk67 _ _ _ h
def f_Mo_free_b130 (k67 : Int32 → Int32 → Mem → Option Mem) (a1 : Int32) (a2 : Int32) (M : Mem) : Option Mem :=
  (f_Mo_does M a2).bind fun q39 =>
  (f_Mo_comesIn q39).bind fun q40 =>
  f_Mo_free_b139 k67 a1 a2 q40
set_option maxRecDepth 20000 in
theorem v_Mo_free_b130 {S : SE} {X : MX} {q : Mem} {k67 : Int32 → Int32 → Mem → Option Mem} {a1 : Int32} {a2 : Int32} {M : Mem} (C : CX S X cX12_free 4 RX12 4) (K : RT S X none none q) (hk67 : ∀ (a1 : Int32) (a2 : Int32) (M : Mem), k67 a1 a2 M = some q → V S X 4 M 67 [(0, .ref (S.2.1 91)), (1, .int a1), (2, .int a2)] []) (h : f_Mo_free_b130 k67 a1 a2 M = some q) : V S X 4 M 130 [(0, .ref (S.2.1 91)), (1, .int a1), (2, .int a2)] [] := by
  unfold f_Mo_free_b130 at h
  refine v_aload_n C 0 dX12_free_130 rfl ?_
  refine v_iload_n C 2 dX12_free_131 rfl ?_
  obtain ⟨q39, hq39, h⟩ := Option.bind_eq_some_iff.mp h
  refine cv12v C [] kk91 (m_Mo_does C.inj M a2 q39 hq39) ci_Mo_does rfl lk_X12_280 (by decide) rfl rfl (Nat.le_of_ble_eq_true rfl) dX12_free_132 ?_
  refine v_aload_n C 0 dX12_free_135 rfl ?_
  obtain ⟨q40, hq40, h⟩ := Option.bind_eq_some_iff.mp h
  refine cv12v C [] kk91 (m_Mo_comesIn C.inj q39 q40 hq40) ci_Mo_comesIn rfl lk_X12_277 (by decide) rfl rfl (Nat.le_of_ble_eq_true rfl) dX12_free_136 ?_
  exact v_Mo_free_b139 C K hk67 h
def f_Mo_free_b113 (k67 : Int32 → Int32 → Mem → Option Mem) (a1 : Int32) (a2 : Int32) (a3 : Int32) (M : Mem) : Option Mem :=
  if (M 91 6) ≤ a2 then
    f_Mo_free_b139 k67 a1 a2 M
  else
    if a2 = a1 then
      if a3 = 0 then
        f_Mo_free_b130 k67 a1 a2 M
      else
        f_Mo_free_b139 k67 a1 a2 M
    else
      f_Mo_free_b130 k67 a1 a2 M
set_option maxRecDepth 20000 in
theorem v_Mo_free_b113 {S : SE} {X : MX} {q : Mem} {k67 : Int32 → Int32 → Mem → Option Mem} {a1 : Int32} {a2 : Int32} {a3 : Int32} {M : Mem} (C : CX S X cX12_free 4 RX12 4) (K : RT S X none none q) (hk67 : ∀ (a1 : Int32) (a2 : Int32) (M : Mem), k67 a1 a2 M = some q → V S X 4 M 67 [(0, .ref (S.2.1 91)), (1, .int a1), (2, .int a2)] []) (h : f_Mo_free_b113 k67 a1 a2 a3 M = some q) : V S X 4 M 113 [(0, .ref (S.2.1 91)), (1, .int a1), (2, .int a2), (3, .int a3)] [] := by
  unfold f_Mo_free_b113 at h
  refine v_iload_n C 2 dX12_free_113 rfl ?_
  refine v_aload_n C 0 dX12_free_114 rfl ?_
  refine g_Mo_stepsTold C kk91 fl_X12_145 dX12_free_115 ?_
  refine v_icmp_ge C 139 dX12_free_118 (by decide) (fun c43 => ?_) (fun c43 => ?_)
  · replace h := (ite_h h).1 c43
    refine v_sub [0, 1, 2] rfl ?_
    exact v_Mo_free_b139 C K hk67 h
  · replace h := (ite_h h).2 c43
    refine v_iload_n C 2 dX12_free_121 rfl ?_
    refine v_iload_n C 1 dX12_free_122 rfl ?_
    refine v_icmp_ne C 130 dX12_free_123 (by decide) (fun c42 => ?_) (fun c42 => ?_)
    · replace h := (ite_h h).2 c42
      refine v_sub [0, 1, 2] rfl ?_
      exact v_Mo_free_b130 C K hk67 h
    · replace h := (ite_h h).1 c42
      refine v_iload_n C 3 dX12_free_126 rfl ?_
      refine v_if_ne C 139 dX12_free_127 (by decide) (fun c41 => ?_) (fun c41 => ?_)
      · replace h := (ite_h h).2 c41
        refine v_sub [0, 1, 2] rfl ?_
        exact v_Mo_free_b139 C K hk67 h
      · replace h := (ite_h h).1 c41
        refine v_sub [0, 1, 2] rfl ?_
        exact v_Mo_free_b130 C K hk67 h
def f_Mo_free_b98 (k67 : Int32 → Int32 → Mem → Option Mem) (a1 : Int32) (a2 : Int32) (s0 : Int32) (M : Mem) : Option Mem :=
  if a2 = a1 then
    (f_Mo_joins M s0).bind fun q44 =>
    (f_Mo_comesIn q44).bind fun q45 =>
    f_Mo_free_b113 k67 a1 a2 s0 q45
  else
    f_Mo_free_b113 k67 a1 a2 s0 M
set_option maxRecDepth 20000 in
theorem v_Mo_free_b98 {S : SE} {X : MX} {q : Mem} {k67 : Int32 → Int32 → Mem → Option Mem} {a1 : Int32} {a2 : Int32} {s0 : Int32} {M : Mem} (C : CX S X cX12_free 4 RX12 4) (K : RT S X none none q) (hk67 : ∀ (a1 : Int32) (a2 : Int32) (M : Mem), k67 a1 a2 M = some q → V S X 4 M 67 [(0, .ref (S.2.1 91)), (1, .int a1), (2, .int a2)] []) (h : f_Mo_free_b98 k67 a1 a2 s0 M = some q) : V S X 4 M 98 [(0, .ref (S.2.1 91)), (1, .int a1), (2, .int a2)] [.int s0] := by
  unfold f_Mo_free_b98 at h
  refine v_istore_n C [(3, .int s0), (0, .ref (S.2.1 91)), (1, .int a1), (2, .int a2)] dX12_free_98 (by decide) rfl ?_
  refine v_iload_n C 3 dX12_free_99 rfl ?_
  refine v_iload_n C 2 dX12_free_100 rfl ?_
  refine v_icmp_ne C 113 dX12_free_101 (by decide) (fun c46 => ?_) (fun c46 => ?_)
  · replace h := (ite_h h).2 c46
    refine v_sub [1, 2, 3, 0] rfl ?_
    exact v_Mo_free_b113 C K hk67 h
  · replace h := (ite_h h).1 c46
    refine v_aload_n C 1 dX12_free_104 rfl ?_
    refine v_iload_n C 0 dX12_free_105 rfl ?_
    obtain ⟨q44, hq44, h⟩ := Option.bind_eq_some_iff.mp h
    refine cv12v C [] kk91 (m_Mo_joins C.inj M s0 q44 hq44) ci_Mo_joins rfl lk_X12_273 (by decide) rfl rfl (Nat.le_of_ble_eq_true rfl) dX12_free_106 ?_
    refine v_aload_n C 1 dX12_free_109 rfl ?_
    obtain ⟨q45, hq45, h⟩ := Option.bind_eq_some_iff.mp h
    refine cv12v C [] kk91 (m_Mo_comesIn C.inj q44 q45 hq45) ci_Mo_comesIn rfl lk_X12_277 (by decide) rfl rfl (Nat.le_of_ble_eq_true rfl) dX12_free_110 ?_
    refine v_sub [1, 2, 3, 0] rfl ?_
    exact v_Mo_free_b113 C K hk67 h
def f_Mo_free_b97 (k67 : Int32 → Int32 → Mem → Option Mem) (a1 : Int32) (a2 : Int32) (M : Mem) : Option Mem :=
  f_Mo_free_b98 k67 a1 a2 0 M
set_option maxRecDepth 20000 in
theorem v_Mo_free_b97 {S : SE} {X : MX} {q : Mem} {k67 : Int32 → Int32 → Mem → Option Mem} {a1 : Int32} {a2 : Int32} {M : Mem} (C : CX S X cX12_free 4 RX12 4) (K : RT S X none none q) (hk67 : ∀ (a1 : Int32) (a2 : Int32) (M : Mem), k67 a1 a2 M = some q → V S X 4 M 67 [(0, .ref (S.2.1 91)), (1, .int a1), (2, .int a2)] []) (h : f_Mo_free_b97 k67 a1 a2 M = some q) : V S X 4 M 97 [(0, .ref (S.2.1 91)), (1, .int a1), (2, .int a2)] [] := by
  unfold f_Mo_free_b97 at h
  refine v_iconst C 0 dX12_free_97 rfl ?_
  exact v_Mo_free_b98 C K hk67 h
def f_Mo_free_l67B (k67 : Int32 → Int32 → Mem → Option Mem) (a1 : Int32) (a2 : Int32) (M : Mem) : Option Mem :=
  if (M 91 6) < a2 then
    bnd (mset M 91 21 (M 91 17)) fun M8 =>
    f_Mo_free_l155 FU a1 0 M8
  else
    if (M 91 6) ≤ a2 then
      f_Mo_free_b97 k67 a1 a2 M
    else
      if gin a2 12 then
        if (M 98 a2.toNatClampNeg) = 1 then
          f_Mo_free_b98 k67 a1 a2 1 M
        else
          f_Mo_free_b97 k67 a1 a2 M
      else none
set_option maxRecDepth 20000 in
theorem v_Mo_free_l67B {S : SE} {X : MX} {q : Mem} {k67 : Int32 → Int32 → Mem → Option Mem} {a1 : Int32} {a2 : Int32} {M : Mem} (C : CX S X cX12_free 4 RX12 4) (K : RT S X none none q) (hk67 : ∀ (a1 : Int32) (a2 : Int32) (M : Mem), k67 a1 a2 M = some q → V S X 4 M 67 [(0, .ref (S.2.1 91)), (1, .int a1), (2, .int a2)] []) (h : f_Mo_free_l67B k67 a1 a2 M = some q) : V S X 4 M 67 [(0, .ref (S.2.1 91)), (1, .int a1), (2, .int a2)] [] := by
  unfold f_Mo_free_l67B at h
  refine v_iload_n C 2 dX12_free_67 rfl ?_
  refine v_aload_n C 0 dX12_free_68 rfl ?_
  refine g_Mo_stepsTold C kk91 fl_X12_145 dX12_free_69 ?_
  refine v_icmp_gt C 145 dX12_free_72 (by decide) (fun c50 => ?_) (fun c50 => ?_)
  · replace h := (ite_h h).1 c50
    refine v_aload_n C 0 dX12_free_145 rfl ?_
    refine v_aload_n C 0 dX12_free_146 rfl ?_
    refine g_Mo_many C kk91 fl_X12_181 dX12_free_147 ?_
    refine p_Mo_outMany C kk91 fl_X12_178 dX12_free_150 ?_
    refine v_nmm h (fun M8 h => ?_)
    refine v_iconst C 0 dX12_free_153 rfl ?_
    refine v_istore_n C [(2, .int 0), (0, .ref (S.2.1 91)), (1, .int a1)] dX12_free_154 (by decide) rfl ?_
    refine v_sub [1, 2, 0] rfl ?_
    exact v_Mo_free_l155 C K FU _ _ _ h
  · replace h := (ite_h h).2 c50
    refine v_iload_n C 2 dX12_free_75 rfl ?_
    refine v_aload_n C 0 dX12_free_76 rfl ?_
    refine g_Mo_stepsTold C kk91 fl_X12_145 dX12_free_77 ?_
    refine v_icmp_ge C 97 dX12_free_80 (by decide) (fun c49 => ?_) (fun c49 => ?_)
    · replace h := (ite_h h).1 c49
      exact v_Mo_free_b97 C K hk67 h
    · replace h := (ite_h h).2 c49
      refine v_aload_n C 0 dX12_free_83 rfl ?_
      refine g_Mo_kinds C kk91 fl_X12_28 dX12_free_84 ?_
      refine v_iload_n C 2 dX12_free_87 rfl ?_
      obtain ⟨g47, h⟩ := gd_h h
      refine v_iald C kk98 ll98 g47 dX12_free_88 ?_
      refine v_iconst C 1 dX12_free_89 rfl ?_
      refine v_icmp_ne C 97 dX12_free_90 (by decide) (fun c48 => ?_) (fun c48 => ?_)
      · replace h := (ite_h h).2 c48
        exact v_Mo_free_b97 C K hk67 h
      · replace h := (ite_h h).1 c48
        refine v_iconst C 1 dX12_free_93 rfl ?_
        refine v_goto C 98 dX12_free_94 (by decide) ?_
        exact v_Mo_free_b98 C K hk67 h
def f_Mo_free_l67 : Nat → Int32 → Int32 → Mem → Option Mem
  | 0, _, _, _ => none
  | n + 1, a1, a2, M => f_Mo_free_l67B (f_Mo_free_l67 n) a1 a2 M
theorem v_Mo_free_l67 {S : SE} {X : MX} {q : Mem} (C : CX S X cX12_free 4 RX12 4) (K : RT S X none none q) : ∀ (n : Nat) (a1 : Int32) (a2 : Int32) (M : Mem), f_Mo_free_l67 n a1 a2 M = some q → V S X 4 M 67 [(0, .ref (S.2.1 91)), (1, .int a1), (2, .int a2)] [] := by
  intro n
  induction n with
  | zero => intro a1 a2 M h; cases h
  | succ n ih => intro a1 a2 M h; exact v_Mo_free_l67B C K ih h
def f_Mo_free_l15B (k15 : Int32 → Mem → Option Mem) (a1 : Int32) (M : Mem) : Option Mem :=
  if (M 91 35) ≤ a1 then
    (f_Mo_comesOfInner M).bind fun q4 =>
    bnd (mset q4 91 29 (q4 91 17)) fun M5 =>
    bnd (mset M5 91 28 (M5 91 17)) fun M6 =>
    (f_Mo_joinAt M6).bind fun q7 =>
    f_Mo_free_l67 FU q7 0 M6
  else
    if gin a1 20 then
      (f_Mo_opens M 1 (M 117 a1.toNatClampNeg)).bind fun q52 =>
      k15 (a1 + 1) q52
    else none
set_option maxRecDepth 20000 in
theorem v_Mo_free_l15B {S : SE} {X : MX} {q : Mem} {k15 : Int32 → Mem → Option Mem} {a1 : Int32} {M : Mem} (C : CX S X cX12_free 4 RX12 4) (K : RT S X none none q) (hk15 : ∀ (a1 : Int32) (M : Mem), k15 a1 M = some q → V S X 4 M 15 [(0, .ref (S.2.1 91)), (1, .int a1)] []) (h : f_Mo_free_l15B k15 a1 M = some q) : V S X 4 M 15 [(0, .ref (S.2.1 91)), (1, .int a1)] [] := by
  unfold f_Mo_free_l15B at h
  refine v_iload_n C 1 dX12_free_15 rfl ?_
  refine v_aload_n C 0 dX12_free_16 rfl ?_
  refine g_Mo_planMany C kk91 fl_X12_261 dX12_free_17 ?_
  refine v_icmp_ge C 40 dX12_free_20 (by decide) (fun c53 => ?_) (fun c53 => ?_)
  · replace h := (ite_h h).1 c53
    refine v_aload_n C 0 dX12_free_40 rfl ?_
    obtain ⟨q4, hq4, h⟩ := Option.bind_eq_some_iff.mp h
    refine cv12v C [] kk91 (m_Mo_comesOfInner C.inj M q4 hq4) ci_Mo_comesOfInner rfl lk_X12_218 (by decide) rfl rfl (Nat.le_of_ble_eq_true rfl) dX12_free_41 ?_
    refine v_aload_n C 0 dX12_free_44 rfl ?_
    refine v_aload_n C 0 dX12_free_45 rfl ?_
    refine g_Mo_many C kk91 fl_X12_181 dX12_free_46 ?_
    refine p_Mo_readMany C kk91 fl_X12_211 dX12_free_49 ?_
    refine v_nmm h (fun M5 h => ?_)
    refine v_aload_n C 0 dX12_free_52 rfl ?_
    refine v_aload_n C 0 dX12_free_53 rfl ?_
    refine g_Mo_many C kk91 fl_X12_181 dX12_free_54 ?_
    refine p_Mo_handed C kk91 fl_X12_200 dX12_free_57 ?_
    refine v_nmm h (fun M6 h => ?_)
    refine v_aload_n C 0 dX12_free_60 rfl ?_
    obtain ⟨q7, hq7, h⟩ := Option.bind_eq_some_iff.mp h
    refine cv12 C [] kk91 (m_Mo_joinAt C.inj M6 q7 hq7) ci_Mo_joinAt rfl lk_X12_258 (by decide) rfl rfl (Nat.le_of_ble_eq_true rfl) dX12_free_61 ?_
    refine v_istore_n C [(1, .int q7), (0, .ref (S.2.1 91))] dX12_free_64 (by decide) rfl ?_
    refine v_iconst C 0 dX12_free_65 rfl ?_
    refine v_istore_n C [(2, .int 0), (1, .int q7), (0, .ref (S.2.1 91))] dX12_free_66 (by decide) rfl ?_
    refine v_sub [2, 1, 0] rfl ?_
    exact v_Mo_free_l67 C K FU _ _ _ h
  · replace h := (ite_h h).2 c53
    refine v_aload_n C 0 dX12_free_23 rfl ?_
    refine v_iconst C 1 dX12_free_24 rfl ?_
    refine v_aload_n C 0 dX12_free_25 rfl ?_
    refine g_Mo_planRow C kk91 fl_X12_85 dX12_free_26 ?_
    refine v_iload_n C 1 dX12_free_29 rfl ?_
    obtain ⟨g51, h⟩ := gd_h h
    refine v_iald C kk117 ll117 g51 dX12_free_30 ?_
    obtain ⟨q52, hq52, h⟩ := Option.bind_eq_some_iff.mp h
    refine cv12v C [] kk91 (m_Mo_opens C.inj M 1 (M 117 a1.toNatClampNeg) q52 hq52) ci_Mo_opens rfl lk_X12_235 (by decide) rfl rfl (Nat.le_of_ble_eq_true rfl) dX12_free_31 ?_
    refine v_iinc C [(1, .int (a1 + 1)), (0, .ref (S.2.1 91))] 1 (a1 + 1) dX12_free_34 rfl rfl (by decide) rfl ?_
    refine v_goto C 15 dX12_free_37 (by decide) ?_
    refine v_sub [1, 0] rfl ?_
    exact hk15 _ _ h
def f_Mo_free_l15 : Nat → Int32 → Mem → Option Mem
  | 0, _, _ => none
  | n + 1, a1, M => f_Mo_free_l15B (f_Mo_free_l15 n) a1 M
theorem v_Mo_free_l15 {S : SE} {X : MX} {q : Mem} (C : CX S X cX12_free 4 RX12 4) (K : RT S X none none q) : ∀ (n : Nat) (a1 : Int32) (M : Mem), f_Mo_free_l15 n a1 M = some q → V S X 4 M 15 [(0, .ref (S.2.1 91)), (1, .int a1)] [] := by
  intro n
  induction n with
  | zero => intro a1 M h; cases h
  | succ n ih => intro a1 M h; exact v_Mo_free_l15B C K ih h
def f_Mo_free (M : Mem) : Option Mem :=
  (f_Mo_begins M 1).bind fun q1 =>
  (f_Mo_findsDomain q1).bind fun q2 =>
  (f_Mo_plans q2).bind fun q3 =>
  f_Mo_free_l15 FU 0 q3
set_option maxRecDepth 20000 in
theorem v_Mo_free {S : SE} {X : MX} {q : Mem} {M : Mem} (C : CX S X cX12_free 4 RX12 4) (K : RT S X none none q) (h : f_Mo_free M = some q) : V S X 4 M 0 [(0, .ref (S.2.1 91))] [] := by
  unfold f_Mo_free at h
  refine v_aload_n C 0 dX12_free_0 rfl ?_
  refine v_iconst C 1 dX12_free_1 rfl ?_
  obtain ⟨q1, hq1, h⟩ := Option.bind_eq_some_iff.mp h
  refine cv12v C [] kk91 (m_Mo_begins C.inj M 1 q1 hq1) ci_Mo_begins rfl lk_X12_231 (by decide) rfl rfl (Nat.le_of_ble_eq_true rfl) dX12_free_2 ?_
  refine v_aload_n C 0 dX12_free_5 rfl ?_
  obtain ⟨q2, hq2, h⟩ := Option.bind_eq_some_iff.mp h
  refine cv12v C [] kk91 (m_Mo_findsDomain C.inj q1 q2 hq2) ci_Mo_findsDomain rfl lk_X12_267 (by decide) rfl rfl (Nat.le_of_ble_eq_true rfl) dX12_free_6 ?_
  refine v_aload_n C 0 dX12_free_9 rfl ?_
  obtain ⟨q3, hq3, h⟩ := Option.bind_eq_some_iff.mp h
  refine cv12v C [] kk91 (m_Mo_plans C.inj q2 q3 hq3) ci_Mo_plans rfl lk_X12_270 (by decide) rfl rfl (Nat.le_of_ble_eq_true rfl) dX12_free_10 ?_
  refine v_iconst C 0 dX12_free_13 rfl ?_
  refine v_istore_n C [(1, .int 0), (0, .ref (S.2.1 91))] dX12_free_14 (by decide) rfl ?_
  refine v_sub [1, 0] rfl ?_
  exact v_Mo_free_l15 C K FU _ _ h
theorem m_Mo_free {S : SE} (hI : Inj S) (M : Mem) (q : Mem) (h : f_Mo_free M = some q) : CM S yX12_free cX12_free 4 none 4 [.ref (S.2.1 91)] M none q :=
  CM.of [(0, .ref (S.2.1 91))] hI (by decide) rfl (Nat.le_of_ble_eq_true rfl) (fun X C K => v_Mo_free C K  h)
def f_Mo_runs (M : Mem) (a1 : Int32) : Option Mem :=
  (f_Mo_reads M).bind fun q1 =>
  bnd (mset q1 91 10 a1) fun M2 =>
  bnd (mset M2 91 11 (-1)) fun M3 =>
  (f_Mo_rowByRow M3).bind fun q4 =>
  (f_Mo_free q4).bind fun q5 =>
  some q5
set_option maxRecDepth 20000 in
theorem v_Mo_runs {S : SE} {X : MX} {q : Mem} {M : Mem} {a1 : Int32} (C : CX S X cX12_runs 2 RX12 5) (K : RT S X none none q) (h : f_Mo_runs M a1 = some q) : V S X 2 M 0 [(0, .ref (S.2.1 91)), (1, .int a1)] [] := by
  unfold f_Mo_runs at h
  refine v_aload_n C 0 dX12_runs_0 rfl ?_
  obtain ⟨q1, hq1, h⟩ := Option.bind_eq_some_iff.mp h
  refine cv12v C [] kk91 (m_Mo_reads C.inj M q1 hq1) ci_Mo_reads rfl lk_X12_159 (by decide) rfl rfl (Nat.le_of_ble_eq_true rfl) dX12_runs_1 ?_
  refine v_aload_n C 0 dX12_runs_4 rfl ?_
  refine v_iload_n C 1 dX12_runs_5 rfl ?_
  refine p_Mo_endNow C kk91 fl_X12_184 dX12_runs_6 ?_
  refine v_nmm h (fun M2 h => ?_)
  refine v_aload_n C 0 dX12_runs_9 rfl ?_
  refine v_iconst C (-1) dX12_runs_10 rfl ?_
  refine p_Mo_without C kk91 fl_X12_190 dX12_runs_11 ?_
  refine v_nmm h (fun M3 h => ?_)
  refine v_aload_n C 0 dX12_runs_14 rfl ?_
  obtain ⟨q4, hq4, h⟩ := Option.bind_eq_some_iff.mp h
  refine cv12v C [] kk91 (m_Mo_rowByRow C.inj M3 q4 hq4) ci_Mo_rowByRow rfl lk_X12_283 (by decide) rfl rfl (Nat.le_of_ble_eq_true rfl) dX12_runs_15 ?_
  refine v_aload_n C 0 dX12_runs_18 rfl ?_
  obtain ⟨q5, hq5, h⟩ := Option.bind_eq_some_iff.mp h
  refine cv12v C [] kk91 (m_Mo_free C.inj q4 q5 hq5) ci_Mo_free rfl lk_X12_286 (by decide) rfl rfl (Nat.le_of_ble_eq_true rfl) dX12_runs_19 ?_
  obtain rfl := Option.some.inj h
  exact v_vret C K dX12_runs_22
theorem m_Mo_runs {S : SE} (hI : Inj S) (M : Mem) (a1 : Int32) (q : Mem) (h : f_Mo_runs M a1 = some q) : CM S yX12_runs cX12_runs 2 none 5 [.ref (S.2.1 91), .int a1] M none q :=
  CM.of [(0, .ref (S.2.1 91)), (1, .int a1)] hI (by decide) rfl (Nat.le_of_ble_eq_true rfl) (fun X C K => v_Mo_runs C K  h)
def f_Mo_runsTold (M : Mem) : Option Mem :=
  (f_Mo_runs M (M 91 9)).bind fun q1 =>
  some q1
set_option maxRecDepth 20000 in
theorem v_Mo_runsTold {S : SE} {X : MX} {q : Mem} {M : Mem} (C : CX S X cX12_runsTold 1 RX12 6) (K : RT S X none none q) (h : f_Mo_runsTold M = some q) : V S X 1 M 0 [(0, .ref (S.2.1 91))] [] := by
  unfold f_Mo_runsTold at h
  refine v_aload_n C 0 dX12_runsTold_0 rfl ?_
  refine v_aload_n C 0 dX12_runsTold_1 rfl ?_
  refine g_Mo_endTold C kk91 fl_X12_175 dX12_runsTold_2 ?_
  obtain ⟨q1, hq1, h⟩ := Option.bind_eq_some_iff.mp h
  refine cv12v C [] kk91 (m_Mo_runs C.inj M (M 91 9) q1 hq1) ci_Mo_runs rfl lk_X12_289 (by decide) rfl rfl (Nat.le_of_ble_eq_true rfl) dX12_runsTold_5 ?_
  obtain rfl := Option.some.inj h
  exact v_vret C K dX12_runsTold_8
theorem m_Mo_runsTold {S : SE} (hI : Inj S) (M : Mem) (q : Mem) (h : f_Mo_runsTold M = some q) : CM S yX12_runsTold cX12_runsTold 1 none 6 [.ref (S.2.1 91)] M none q :=
  CM.of [(0, .ref (S.2.1 91))] hI (by decide) rfl (Nat.le_of_ble_eq_true rfl) (fun X C K => v_Mo_runsTold C K  h)
def f_Mo_errorOf (M : Mem) (a1 : Int32) : Option (Int32 × Mem) :=
  (f_Mo_runsTold M).bind fun q1 =>
  if gin a1 2 then
    some ((q1 100 a1.toNatClampNeg), q1)
  else none
set_option maxRecDepth 20000 in
theorem v_Mo_errorOf {S : SE} {X : MX} {q : (Int32 × Mem)} {M : Mem} {a1 : Int32} (C : CX S X cX12_errorOf 2 RX12 7) (K : RT S X (some .int) (some (.int q.1)) q.2) (h : f_Mo_errorOf M a1 = some q) : V S X 2 M 0 [(0, .ref (S.2.1 91)), (1, .int a1)] [] := by
  unfold f_Mo_errorOf at h
  refine v_aload_n C 0 dX12_errorOf_0 rfl ?_
  obtain ⟨q1, hq1, h⟩ := Option.bind_eq_some_iff.mp h
  refine cv12v C [] kk91 (m_Mo_runsTold C.inj M q1 hq1) ci_Mo_runsTold rfl lk_X12_292 (by decide) rfl rfl (Nat.le_of_ble_eq_true rfl) dX12_errorOf_1 ?_
  refine v_aload_n C 0 dX12_errorOf_4 rfl ?_
  refine g_Mo_errorAt C kk91 fl_X12_34 dX12_errorOf_5 ?_
  refine v_iload_n C 1 dX12_errorOf_8 rfl ?_
  obtain ⟨g2, h⟩ := gd_h h
  refine v_iald C kk100 ll100 g2 dX12_errorOf_9 ?_
  obtain rfl := Option.some.inj h
  exact v_iret C K dX12_errorOf_10
theorem m_Mo_errorOf {S : SE} (hI : Inj S) (M : Mem) (a1 : Int32) (q : (Int32 × Mem)) (h : f_Mo_errorOf M a1 = some q) : CM S yX12_errorOf cX12_errorOf 2 (some .int) 7 [.ref (S.2.1 91), .int a1] M (some (.int q.1)) q.2 :=
  CM.of [(0, .ref (S.2.1 91)), (1, .int a1)] hI (by decide) rfl (Nat.le_of_ble_eq_true rfl) (fun X C K => v_Mo_errorOf C K  h)
def f_Mo_error (M : Mem) (a1 : Int32) : Option (Int32 × Mem) :=
  if (f_Mo_isTwo a1) = 0 then
    some ((-2), M)
  else
    (f_Mo_errorOf M a1).bind fun q1 =>
    some (q1.1, q1.2)
set_option maxRecDepth 20000 in
theorem v_Mo_error {S : SE} {X : MX} {q : (Int32 × Mem)} {M : Mem} {a1 : Int32} (C : CX S X cX12_error 2 RX12 8) (K : RT S X (some .int) (some (.int q.1)) q.2) (h : f_Mo_error M a1 = some q) : V S X 2 M 0 [(0, .ref (S.2.1 91)), (1, .int a1)] [] := by
  unfold f_Mo_error at h
  refine v_iload_n C 1 dX12_error_0 rfl ?_
  refine cs C [] (m_Mo_isTwo C.inj M a1 _ rfl) ci_Mo_isTwo lk_X12_165 (by decide) rfl rfl (Nat.le_of_ble_eq_true rfl) dX12_error_1 ?_
  refine v_if_eq C 15 dX12_error_4 (by decide) (fun c2 => ?_) (fun c2 => ?_)
  · replace h := (ite_h h).1 c2
    refine v_bipush C (-2) dX12_error_15 rfl ?_
    obtain rfl := Option.some.inj h
    exact v_iret C K dX12_error_17
  · replace h := (ite_h h).2 c2
    refine v_aload_n C 0 dX12_error_7 rfl ?_
    refine v_iload_n C 1 dX12_error_8 rfl ?_
    obtain ⟨q1, hq1, h⟩ := Option.bind_eq_some_iff.mp h
    refine cv12 C [] kk91 (m_Mo_errorOf C.inj M a1 q1 hq1) ci_Mo_errorOf rfl lk_X12_295 (by decide) rfl rfl (Nat.le_of_ble_eq_true rfl) dX12_error_9 ?_
    refine v_goto C 17 dX12_error_12 (by decide) ?_
    obtain rfl := Option.some.inj h
    exact v_iret C K dX12_error_17
theorem m_Mo_error {S : SE} (hI : Inj S) (M : Mem) (a1 : Int32) (q : (Int32 × Mem)) (h : f_Mo_error M a1 = some q) : CM S yX12_error cX12_error 2 (some .int) 8 [.ref (S.2.1 91), .int a1] M (some (.int q.1)) q.2 :=
  CM.of [(0, .ref (S.2.1 91)), (1, .int a1)] hI (by decide) rfl (Nat.le_of_ble_eq_true rfl) (fun X C K => v_Mo_error C K  h)
def f_Mo_answerNow (M : Mem) (a1 : Int32) (a2 : Int32) : Option Int32 :=
  if gin a1 2 then
    if (M 100 a1.toNatClampNeg) = (-1) then
      if gin ((10 * a1) + a2) 20 then
        some (M 101 ((10 * a1) + a2).toNatClampNeg)
      else none
    else
      some (-3)
  else none
set_option maxRecDepth 20000 in
theorem v_Mo_answerNow {S : SE} {X : MX} {q : Int32} {M : Mem} {a1 : Int32} {a2 : Int32} (C : CX S X cX12_answerNow 3 RX12 0) (K : RT S X (some .int) (some (.int q)) M) (h : f_Mo_answerNow M a1 a2 = some q) : V S X 3 M 0 [(0, .ref (S.2.1 91)), (1, .int a1), (2, .int a2)] [] := by
  unfold f_Mo_answerNow at h
  refine v_aload_n C 0 dX12_answerNow_0 rfl ?_
  refine g_Mo_errorAt C kk91 fl_X12_34 dX12_answerNow_1 ?_
  refine v_iload_n C 1 dX12_answerNow_4 rfl ?_
  obtain ⟨g1, h⟩ := gd_h h
  refine v_iald C kk100 ll100 g1 dX12_answerNow_5 ?_
  refine v_iconst C (-1) dX12_answerNow_6 rfl ?_
  refine v_icmp_ne C 24 dX12_answerNow_7 (by decide) (fun c3 => ?_) (fun c3 => ?_)
  · replace h := (ite_h h).2 c3
    refine v_bipush C (-3) dX12_answerNow_24 rfl ?_
    obtain rfl := Option.some.inj h
    exact v_iret C K dX12_answerNow_26
  · replace h := (ite_h h).1 c3
    refine v_aload_n C 0 dX12_answerNow_10 rfl ?_
    refine g_Mo_answers C kk91 fl_X12_37 dX12_answerNow_11 ?_
    refine v_bipush C 10 dX12_answerNow_14 rfl ?_
    refine v_iload_n C 1 dX12_answerNow_16 rfl ?_
    refine v_imul C dX12_answerNow_17 ?_
    refine v_iload_n C 2 dX12_answerNow_18 rfl ?_
    refine v_iadd C dX12_answerNow_19 ?_
    obtain ⟨g2, h⟩ := gd_h h
    refine v_iald C kk101 ll101 g2 dX12_answerNow_20 ?_
    refine v_goto C 26 dX12_answerNow_21 (by decide) ?_
    obtain rfl := Option.some.inj h
    exact v_iret C K dX12_answerNow_26
theorem m_Mo_answerNow {S : SE} (hI : Inj S) (M : Mem) (a1 : Int32) (a2 : Int32) (q : Int32) (h : f_Mo_answerNow M a1 a2 = some q) : CM S yX12_answerNow cX12_answerNow 3 (some .int) 0 [.ref (S.2.1 91), .int a1, .int a2] M (some (.int q)) M :=
  CM.of [(0, .ref (S.2.1 91)), (1, .int a1), (2, .int a2)] hI (by decide) rfl (Nat.le_of_ble_eq_true rfl) (fun X C K => v_Mo_answerNow C K  h)
def f_Mo_answerFor (M : Mem) (a1 : Int32) (a2 : Int32) : Option (Int32 × Mem) :=
  (f_Mo_runsTold M).bind fun q1 =>
  if (q1 95 (0 : Int32).toNatClampNeg) ≤ a2 then
    some ((-2), q1)
  else
    (f_Mo_answerNow q1 a1 a2).bind fun q2 =>
    some (q2, q1)
set_option maxRecDepth 20000 in
theorem v_Mo_answerFor {S : SE} {X : MX} {q : (Int32 × Mem)} {M : Mem} {a1 : Int32} {a2 : Int32} (C : CX S X cX12_answerFor 3 RX12 7) (K : RT S X (some .int) (some (.int q.1)) q.2) (h : f_Mo_answerFor M a1 a2 = some q) : V S X 3 M 0 [(0, .ref (S.2.1 91)), (1, .int a1), (2, .int a2)] [] := by
  unfold f_Mo_answerFor at h
  refine v_aload_n C 0 dX12_answerFor_0 rfl ?_
  obtain ⟨q1, hq1, h⟩ := Option.bind_eq_some_iff.mp h
  refine cv12v C [] kk91 (m_Mo_runsTold C.inj M q1 hq1) ci_Mo_runsTold rfl lk_X12_292 (by decide) rfl rfl (Nat.le_of_ble_eq_true rfl) dX12_answerFor_1 ?_
  refine v_iload_n C 2 dX12_answerFor_4 rfl ?_
  refine v_aload_n C 0 dX12_answerFor_5 rfl ?_
  refine g_Mo_rows C kk91 fl_X12_19 dX12_answerFor_6 ?_
  refine v_iconst C 0 dX12_answerFor_9 rfl ?_
  refine v_iald C kk95 ll95 (by decide) dX12_answerFor_10 ?_
  refine v_icmp_ge C 23 dX12_answerFor_11 (by decide) (fun c3 => ?_) (fun c3 => ?_)
  · replace h := (ite_h h).1 c3
    refine v_bipush C (-2) dX12_answerFor_23 rfl ?_
    obtain rfl := Option.some.inj h
    exact v_iret C K dX12_answerFor_25
  · replace h := (ite_h h).2 c3
    refine v_aload_n C 0 dX12_answerFor_14 rfl ?_
    refine v_iload_n C 1 dX12_answerFor_15 rfl ?_
    refine v_iload_n C 2 dX12_answerFor_16 rfl ?_
    obtain ⟨q2, hq2, h⟩ := Option.bind_eq_some_iff.mp h
    refine cv12 C [] kk91 (m_Mo_answerNow C.inj q1 a1 a2 q2 hq2) ci_Mo_answerNow rfl lk_X12_298 (by decide) rfl rfl (Nat.le_of_ble_eq_true rfl) dX12_answerFor_17 ?_
    refine v_goto C 25 dX12_answerFor_20 (by decide) ?_
    obtain rfl := Option.some.inj h
    exact v_iret C K dX12_answerFor_25
theorem m_Mo_answerFor {S : SE} (hI : Inj S) (M : Mem) (a1 : Int32) (a2 : Int32) (q : (Int32 × Mem)) (h : f_Mo_answerFor M a1 a2 = some q) : CM S yX12_answerFor cX12_answerFor 3 (some .int) 7 [.ref (S.2.1 91), .int a1, .int a2] M (some (.int q.1)) q.2 :=
  CM.of [(0, .ref (S.2.1 91)), (1, .int a1), (2, .int a2)] hI (by decide) rfl (Nat.le_of_ble_eq_true rfl) (fun X C K => v_Mo_answerFor C K  h)
def f_Mo_answer_b26 (M : Mem) : Option (Int32 × Mem) :=
  some ((-2), M)
set_option maxRecDepth 20000 in
theorem v_Mo_answer_b26 {S : SE} {X : MX} {q : (Int32 × Mem)} {M : Mem} (C : CX S X cX12_answer 3 RX12 8) (K : RT S X (some .int) (some (.int q.1)) q.2) (h : f_Mo_answer_b26 M = some q) : V S X 3 M 26 [] [] := by
  unfold f_Mo_answer_b26 at h
  refine v_bipush C (-2) dX12_answer_26 rfl ?_
  obtain rfl := Option.some.inj h
  exact v_iret C K dX12_answer_28
def f_Mo_answer (M : Mem) (a1 : Int32) (a2 : Int32) : Option (Int32 × Mem) :=
  if (f_Mo_isTwo a1) = 0 then
    f_Mo_answer_b26 M
  else
    if (f_Mo_in a2 0 9) = 0 then
      f_Mo_answer_b26 M
    else
      (f_Mo_answerFor M a1 a2).bind fun q1 =>
      some (q1.1, q1.2)
set_option maxRecDepth 20000 in
theorem v_Mo_answer {S : SE} {X : MX} {q : (Int32 × Mem)} {M : Mem} {a1 : Int32} {a2 : Int32} (C : CX S X cX12_answer 3 RX12 8) (K : RT S X (some .int) (some (.int q.1)) q.2) (h : f_Mo_answer M a1 a2 = some q) : V S X 3 M 0 [(0, .ref (S.2.1 91)), (1, .int a1), (2, .int a2)] [] := by
  unfold f_Mo_answer at h
  refine v_iload_n C 1 dX12_answer_0 rfl ?_
  refine cs C [] (m_Mo_isTwo C.inj M a1 _ rfl) ci_Mo_isTwo lk_X12_165 (by decide) rfl rfl (Nat.le_of_ble_eq_true rfl) dX12_answer_1 ?_
  refine v_if_eq C 26 dX12_answer_4 (by decide) (fun c3 => ?_) (fun c3 => ?_)
  · replace h := (ite_h h).1 c3
    refine v_sub [] rfl ?_
    exact v_Mo_answer_b26 C K h
  · replace h := (ite_h h).2 c3
    refine v_iload_n C 2 dX12_answer_7 rfl ?_
    refine v_iconst C 0 dX12_answer_8 rfl ?_
    refine v_bipush C 9 dX12_answer_9 rfl ?_
    refine cs C [] (m_Mo_in C.inj M a2 0 9 _ rfl) ci_Mo_in lk_X12_107 (by decide) rfl rfl (Nat.le_of_ble_eq_true rfl) dX12_answer_11 ?_
    refine v_if_eq C 26 dX12_answer_14 (by decide) (fun c2 => ?_) (fun c2 => ?_)
    · replace h := (ite_h h).1 c2
      refine v_sub [] rfl ?_
      exact v_Mo_answer_b26 C K h
    · replace h := (ite_h h).2 c2
      refine v_aload_n C 0 dX12_answer_17 rfl ?_
      refine v_iload_n C 1 dX12_answer_18 rfl ?_
      refine v_iload_n C 2 dX12_answer_19 rfl ?_
      obtain ⟨q1, hq1, h⟩ := Option.bind_eq_some_iff.mp h
      refine cv12 C [] kk91 (m_Mo_answerFor C.inj M a1 a2 q1 hq1) ci_Mo_answerFor rfl lk_X12_301 (by decide) rfl rfl (Nat.le_of_ble_eq_true rfl) dX12_answer_20 ?_
      refine v_goto C 28 dX12_answer_23 (by decide) ?_
      obtain rfl := Option.some.inj h
      exact v_iret C K dX12_answer_28
theorem m_Mo_answer {S : SE} (hI : Inj S) (M : Mem) (a1 : Int32) (a2 : Int32) (q : (Int32 × Mem)) (h : f_Mo_answer M a1 a2 = some q) : CM S yX12_answer cX12_answer 3 (some .int) 8 [.ref (S.2.1 91), .int a1, .int a2] M (some (.int q.1)) q.2 :=
  CM.of [(0, .ref (S.2.1 91)), (1, .int a1), (2, .int a2)] hI (by decide) rfl (Nat.le_of_ble_eq_true rfl) (fun X C K => v_Mo_answer C K  h)
def f_Mo_sameOf_b61 (k27 : Int32 → Int32 → Mem → Option (Int32 × Mem)) (a2 : Int32) (s0 : Int32) (M : Mem) : Option (Int32 × Mem) :=
  k27 s0 (a2 + 1) M
set_option maxRecDepth 20000 in
theorem v_Mo_sameOf_b61 {S : SE} {X : MX} {q : (Int32 × Mem)} {k27 : Int32 → Int32 → Mem → Option (Int32 × Mem)} {a2 : Int32} {s0 : Int32} {M : Mem} (C : CX S X cX12_sameOf 3 RX12 7) (K : RT S X (some .int) (some (.int q.1)) q.2) (hk27 : ∀ (a1 : Int32) (a2 : Int32) (M : Mem), k27 a1 a2 M = some q → V S X 3 M 27 [(0, .ref (S.2.1 91)), (1, .int a1), (2, .int a2)] []) (h : f_Mo_sameOf_b61 k27 a2 s0 M = some q) : V S X 3 M 61 [(0, .ref (S.2.1 91)), (2, .int a2)] [.int s0] := by
  unfold f_Mo_sameOf_b61 at h
  refine v_istore_n C [(1, .int s0), (0, .ref (S.2.1 91)), (2, .int a2)] dX12_sameOf_61 (by decide) rfl ?_
  refine v_iinc C [(2, .int (a2 + 1)), (1, .int s0), (0, .ref (S.2.1 91))] 2 (a2 + 1) dX12_sameOf_62 rfl rfl (by decide) rfl ?_
  refine v_goto C 27 dX12_sameOf_65 (by decide) ?_
  refine v_sub [2, 1, 0] rfl ?_
  exact hk27 _ _ _ h
def f_Mo_sameOf_b60 (k27 : Int32 → Int32 → Mem → Option (Int32 × Mem)) (a2 : Int32) (M : Mem) : Option (Int32 × Mem) :=
  f_Mo_sameOf_b61 k27 a2 0 M
set_option maxRecDepth 20000 in
theorem v_Mo_sameOf_b60 {S : SE} {X : MX} {q : (Int32 × Mem)} {k27 : Int32 → Int32 → Mem → Option (Int32 × Mem)} {a2 : Int32} {M : Mem} (C : CX S X cX12_sameOf 3 RX12 7) (K : RT S X (some .int) (some (.int q.1)) q.2) (hk27 : ∀ (a1 : Int32) (a2 : Int32) (M : Mem), k27 a1 a2 M = some q → V S X 3 M 27 [(0, .ref (S.2.1 91)), (1, .int a1), (2, .int a2)] []) (h : f_Mo_sameOf_b60 k27 a2 M = some q) : V S X 3 M 60 [(0, .ref (S.2.1 91)), (2, .int a2)] [] := by
  unfold f_Mo_sameOf_b60 at h
  refine v_iconst C 0 dX12_sameOf_60 rfl ?_
  exact v_Mo_sameOf_b61 C K hk27 h
def f_Mo_sameOf_l27B (k27 : Int32 → Int32 → Mem → Option (Int32 × Mem)) (a1 : Int32) (a2 : Int32) (M : Mem) : Option (Int32 × Mem) :=
  if (M 95 (0 : Int32).toNatClampNeg) ≤ a2 then
    if a1 = 0 then
      some (0, M)
    else
      some (1, M)
  else
    if a1 = 0 then
      f_Mo_sameOf_b60 k27 a2 M
    else
      (f_Mo_answerNow M 0 a2).bind fun q3 =>
      (f_Mo_answerNow M 1 a2).bind fun q4 =>
      if q3 = q4 then
        f_Mo_sameOf_b61 k27 a2 1 M
      else
        f_Mo_sameOf_b60 k27 a2 M
set_option maxRecDepth 20000 in
theorem v_Mo_sameOf_l27B {S : SE} {X : MX} {q : (Int32 × Mem)} {k27 : Int32 → Int32 → Mem → Option (Int32 × Mem)} {a1 : Int32} {a2 : Int32} {M : Mem} (C : CX S X cX12_sameOf 3 RX12 7) (K : RT S X (some .int) (some (.int q.1)) q.2) (hk27 : ∀ (a1 : Int32) (a2 : Int32) (M : Mem), k27 a1 a2 M = some q → V S X 3 M 27 [(0, .ref (S.2.1 91)), (1, .int a1), (2, .int a2)] []) (h : f_Mo_sameOf_l27B k27 a1 a2 M = some q) : V S X 3 M 27 [(0, .ref (S.2.1 91)), (1, .int a1), (2, .int a2)] [] := by
  unfold f_Mo_sameOf_l27B at h
  refine v_iload_n C 2 dX12_sameOf_27 rfl ?_
  refine v_aload_n C 0 dX12_sameOf_28 rfl ?_
  refine g_Mo_rows C kk91 fl_X12_19 dX12_sameOf_29 ?_
  refine v_iconst C 0 dX12_sameOf_32 rfl ?_
  refine v_iald C kk95 ll95 (by decide) dX12_sameOf_33 ?_
  refine v_icmp_ge C 68 dX12_sameOf_34 (by decide) (fun c7 => ?_) (fun c7 => ?_)
  · replace h := (ite_h h).1 c7
    refine v_iload_n C 1 dX12_sameOf_68 rfl ?_
    refine v_if_eq C 76 dX12_sameOf_69 (by decide) (fun c2 => ?_) (fun c2 => ?_)
    · replace h := (ite_h h).1 c2
      refine v_iconst C 0 dX12_sameOf_76 rfl ?_
      obtain rfl := Option.some.inj h
      exact v_iret C K dX12_sameOf_77
    · replace h := (ite_h h).2 c2
      refine v_iconst C 1 dX12_sameOf_72 rfl ?_
      refine v_goto C 77 dX12_sameOf_73 (by decide) ?_
      obtain rfl := Option.some.inj h
      exact v_iret C K dX12_sameOf_77
  · replace h := (ite_h h).2 c7
    refine v_iload_n C 1 dX12_sameOf_37 rfl ?_
    refine v_if_eq C 60 dX12_sameOf_38 (by decide) (fun c6 => ?_) (fun c6 => ?_)
    · replace h := (ite_h h).1 c6
      refine v_sub [0, 2] rfl ?_
      exact v_Mo_sameOf_b60 C K hk27 h
    · replace h := (ite_h h).2 c6
      refine v_aload_n C 0 dX12_sameOf_41 rfl ?_
      refine v_iconst C 0 dX12_sameOf_42 rfl ?_
      refine v_iload_n C 2 dX12_sameOf_43 rfl ?_
      obtain ⟨q3, hq3, h⟩ := Option.bind_eq_some_iff.mp h
      refine cv12 C [] kk91 (m_Mo_answerNow C.inj M 0 a2 q3 hq3) ci_Mo_answerNow rfl lk_X12_298 (by decide) rfl rfl (Nat.le_of_ble_eq_true rfl) dX12_sameOf_44 ?_
      refine v_aload_n C 0 dX12_sameOf_47 rfl ?_
      refine v_iconst C 1 dX12_sameOf_48 rfl ?_
      refine v_iload_n C 2 dX12_sameOf_49 rfl ?_
      obtain ⟨q4, hq4, h⟩ := Option.bind_eq_some_iff.mp h
      refine cv12 C [.int q3] kk91 (m_Mo_answerNow C.inj M 1 a2 q4 hq4) ci_Mo_answerNow rfl lk_X12_298 (by decide) rfl rfl (Nat.le_of_ble_eq_true rfl) dX12_sameOf_50 ?_
      refine v_icmp_ne C 60 dX12_sameOf_53 (by decide) (fun c5 => ?_) (fun c5 => ?_)
      · replace h := (ite_h h).2 c5
        refine v_sub [0, 2] rfl ?_
        exact v_Mo_sameOf_b60 C K hk27 h
      · replace h := (ite_h h).1 c5
        refine v_iconst C 1 dX12_sameOf_56 rfl ?_
        refine v_goto C 61 dX12_sameOf_57 (by decide) ?_
        refine v_sub [0, 2] rfl ?_
        exact v_Mo_sameOf_b61 C K hk27 h
def f_Mo_sameOf_l27 : Nat → Int32 → Int32 → Mem → Option (Int32 × Mem)
  | 0, _, _, _ => none
  | n + 1, a1, a2, M => f_Mo_sameOf_l27B (f_Mo_sameOf_l27 n) a1 a2 M
theorem v_Mo_sameOf_l27 {S : SE} {X : MX} {q : (Int32 × Mem)} (C : CX S X cX12_sameOf 3 RX12 7) (K : RT S X (some .int) (some (.int q.1)) q.2) : ∀ (n : Nat) (a1 : Int32) (a2 : Int32) (M : Mem), f_Mo_sameOf_l27 n a1 a2 M = some q → V S X 3 M 27 [(0, .ref (S.2.1 91)), (1, .int a1), (2, .int a2)] [] := by
  intro n
  induction n with
  | zero => intro a1 a2 M h; cases h
  | succ n ih => intro a1 a2 M h; exact v_Mo_sameOf_l27B C K ih h
def f_Mo_sameOf_b24 (s0 : Int32) (M : Mem) : Option (Int32 × Mem) :=
  f_Mo_sameOf_l27 FU s0 0 M
set_option maxRecDepth 20000 in
theorem v_Mo_sameOf_b24 {S : SE} {X : MX} {q : (Int32 × Mem)} {s0 : Int32} {M : Mem} (C : CX S X cX12_sameOf 3 RX12 7) (K : RT S X (some .int) (some (.int q.1)) q.2) (h : f_Mo_sameOf_b24 s0 M = some q) : V S X 3 M 24 [(0, .ref (S.2.1 91))] [.int s0] := by
  unfold f_Mo_sameOf_b24 at h
  refine v_istore_n C [(1, .int s0), (0, .ref (S.2.1 91))] dX12_sameOf_24 (by decide) rfl ?_
  refine v_iconst C 0 dX12_sameOf_25 rfl ?_
  refine v_istore_n C [(2, .int 0), (1, .int s0), (0, .ref (S.2.1 91))] dX12_sameOf_26 (by decide) rfl ?_
  refine v_sub [2, 1, 0] rfl ?_
  exact v_Mo_sameOf_l27 C K FU _ _ _ h
def f_Mo_sameOf (M : Mem) : Option (Int32 × Mem) :=
  (f_Mo_runsTold M).bind fun q1 =>
  if (q1 100 (0 : Int32).toNatClampNeg) = (q1 100 (1 : Int32).toNatClampNeg) then
    f_Mo_sameOf_b24 1 q1
  else
    f_Mo_sameOf_b24 0 q1
set_option maxRecDepth 20000 in
theorem v_Mo_sameOf {S : SE} {X : MX} {q : (Int32 × Mem)} {M : Mem} (C : CX S X cX12_sameOf 3 RX12 7) (K : RT S X (some .int) (some (.int q.1)) q.2) (h : f_Mo_sameOf M = some q) : V S X 3 M 0 [(0, .ref (S.2.1 91))] [] := by
  unfold f_Mo_sameOf at h
  refine v_aload_n C 0 dX12_sameOf_0 rfl ?_
  obtain ⟨q1, hq1, h⟩ := Option.bind_eq_some_iff.mp h
  refine cv12v C [] kk91 (m_Mo_runsTold C.inj M q1 hq1) ci_Mo_runsTold rfl lk_X12_292 (by decide) rfl rfl (Nat.le_of_ble_eq_true rfl) dX12_sameOf_1 ?_
  refine v_aload_n C 0 dX12_sameOf_4 rfl ?_
  refine g_Mo_errorAt C kk91 fl_X12_34 dX12_sameOf_5 ?_
  refine v_iconst C 0 dX12_sameOf_8 rfl ?_
  refine v_iald C kk100 ll100 (by decide) dX12_sameOf_9 ?_
  refine v_aload_n C 0 dX12_sameOf_10 rfl ?_
  refine g_Mo_errorAt C kk91 fl_X12_34 dX12_sameOf_11 ?_
  refine v_iconst C 1 dX12_sameOf_14 rfl ?_
  refine v_iald C kk100 ll100 (by decide) dX12_sameOf_15 ?_
  refine v_icmp_ne C 23 dX12_sameOf_16 (by decide) (fun c8 => ?_) (fun c8 => ?_)
  · replace h := (ite_h h).2 c8
    refine v_iconst C 0 dX12_sameOf_23 rfl ?_
    exact v_Mo_sameOf_b24 C K h
  · replace h := (ite_h h).1 c8
    refine v_iconst C 1 dX12_sameOf_19 rfl ?_
    refine v_goto C 24 dX12_sameOf_20 (by decide) ?_
    exact v_Mo_sameOf_b24 C K h
theorem m_Mo_sameOf {S : SE} (hI : Inj S) (M : Mem) (q : (Int32 × Mem)) (h : f_Mo_sameOf M = some q) : CM S yX12_sameOf cX12_sameOf 3 (some .int) 7 [.ref (S.2.1 91)] M (some (.int q.1)) q.2 :=
  CM.of [(0, .ref (S.2.1 91))] hI (by decide) rfl (Nat.le_of_ble_eq_true rfl) (fun X C K => v_Mo_sameOf C K  h)
def f_Mo_same (M : Mem) : Option (Int32 × Mem) :=
  (f_Mo_sameOf M).bind fun q1 =>
  some (q1.1, q1.2)
set_option maxRecDepth 20000 in
theorem v_Mo_same {S : SE} {X : MX} {q : (Int32 × Mem)} {M : Mem} (C : CX S X cX12_same 1 RX12 8) (K : RT S X (some .int) (some (.int q.1)) q.2) (h : f_Mo_same M = some q) : V S X 1 M 0 [(0, .ref (S.2.1 91))] [] := by
  unfold f_Mo_same at h
  refine v_aload_n C 0 dX12_same_0 rfl ?_
  obtain ⟨q1, hq1, h⟩ := Option.bind_eq_some_iff.mp h
  refine cv12 C [] kk91 (m_Mo_sameOf C.inj M q1 hq1) ci_Mo_sameOf rfl lk_X12_304 (by decide) rfl rfl (Nat.le_of_ble_eq_true rfl) dX12_same_1 ?_
  obtain rfl := Option.some.inj h
  exact v_iret C K dX12_same_4
theorem m_Mo_same {S : SE} (hI : Inj S) (M : Mem) (q : (Int32 × Mem)) (h : f_Mo_same M = some q) : CM S yX12_same cX12_same 1 (some .int) 8 [.ref (S.2.1 91)] M (some (.int q.1)) q.2 :=
  CM.of [(0, .ref (S.2.1 91))] hI (by decide) rfl (Nat.le_of_ble_eq_true rfl) (fun X C K => v_Mo_same C K  h)
def f_Mo_totalOf_b66 (k21 : Int32 → Int32 → Mem → Option (Int32 × Mem)) (a2 : Int32) (s0 : Int32) (M : Mem) : Option (Int32 × Mem) :=
  k21 s0 (a2 + 1) M
set_option maxRecDepth 20000 in
theorem v_Mo_totalOf_b66 {S : SE} {X : MX} {q : (Int32 × Mem)} {k21 : Int32 → Int32 → Mem → Option (Int32 × Mem)} {a2 : Int32} {s0 : Int32} {M : Mem} (C : CX S X cX12_totalOf 4 RX12 7) (K : RT S X (some .int) (some (.int q.1)) q.2) (hk21 : ∀ (a1 : Int32) (a2 : Int32) (M : Mem), k21 a1 a2 M = some q → V S X 4 M 21 [(0, .ref (S.2.1 91)), (1, .int a1), (2, .int a2)] []) (h : f_Mo_totalOf_b66 k21 a2 s0 M = some q) : V S X 4 M 66 [(0, .ref (S.2.1 91)), (2, .int a2)] [.int s0] := by
  unfold f_Mo_totalOf_b66 at h
  refine v_istore_n C [(1, .int s0), (0, .ref (S.2.1 91)), (2, .int a2)] dX12_totalOf_66 (by decide) rfl ?_
  refine v_iinc C [(2, .int (a2 + 1)), (1, .int s0), (0, .ref (S.2.1 91))] 2 (a2 + 1) dX12_totalOf_67 rfl rfl (by decide) rfl ?_
  refine v_goto C 21 dX12_totalOf_70 (by decide) ?_
  refine v_sub [2, 1, 0] rfl ?_
  exact hk21 _ _ _ h
def f_Mo_totalOf_l21B (k21 : Int32 → Int32 → Mem → Option (Int32 × Mem)) (a1 : Int32) (a2 : Int32) (M : Mem) : Option (Int32 × Mem) :=
  if (M 95 (0 : Int32).toNatClampNeg) ≤ a2 then
    some (a1, M)
  else
    if gin a2 20 then
      bnd (M 101 a2.toNatClampNeg) fun x3 =>
      if x3 = (-1) then
        f_Mo_totalOf_b66 k21 a2 a1 M
      else
        if (M 91 10) = 4 then
          (f_Mo_added a1 x3).bind fun q4 =>
          f_Mo_totalOf_b66 k21 a2 q4 M
        else
          f_Mo_totalOf_b66 k21 a2 (a1 + x3) M
    else none
set_option maxRecDepth 20000 in
theorem v_Mo_totalOf_l21B {S : SE} {X : MX} {q : (Int32 × Mem)} {k21 : Int32 → Int32 → Mem → Option (Int32 × Mem)} {a1 : Int32} {a2 : Int32} {M : Mem} (C : CX S X cX12_totalOf 4 RX12 7) (K : RT S X (some .int) (some (.int q.1)) q.2) (hk21 : ∀ (a1 : Int32) (a2 : Int32) (M : Mem), k21 a1 a2 M = some q → V S X 4 M 21 [(0, .ref (S.2.1 91)), (1, .int a1), (2, .int a2)] []) (h : f_Mo_totalOf_l21B k21 a1 a2 M = some q) : V S X 4 M 21 [(0, .ref (S.2.1 91)), (1, .int a1), (2, .int a2)] [] := by
  unfold f_Mo_totalOf_l21B at h
  refine v_iload_n C 2 dX12_totalOf_21 rfl ?_
  refine v_aload_n C 0 dX12_totalOf_22 rfl ?_
  refine g_Mo_rows C kk91 fl_X12_19 dX12_totalOf_23 ?_
  refine v_iconst C 0 dX12_totalOf_26 rfl ?_
  refine v_iald C kk95 ll95 (by decide) dX12_totalOf_27 ?_
  refine v_icmp_ge C 73 dX12_totalOf_28 (by decide) (fun c7 => ?_) (fun c7 => ?_)
  · replace h := (ite_h h).1 c7
    refine v_iload_n C 1 dX12_totalOf_73 rfl ?_
    obtain rfl := Option.some.inj h
    exact v_iret C K dX12_totalOf_74
  · replace h := (ite_h h).2 c7
    refine v_aload_n C 0 dX12_totalOf_31 rfl ?_
    refine g_Mo_answers C kk91 fl_X12_37 dX12_totalOf_32 ?_
    refine v_iload_n C 2 dX12_totalOf_35 rfl ?_
    obtain ⟨g2, h⟩ := gd_h h
    refine v_iald C kk101 ll101 g2 dX12_totalOf_36 ?_
    refine v_nmi h (fun x3 h => ?_)
    refine v_istore_n C [(3, .int x3), (0, .ref (S.2.1 91)), (1, .int a1), (2, .int a2)] dX12_totalOf_37 (by decide) rfl ?_
    refine v_iload_n C 0 dX12_totalOf_38 rfl ?_
    refine v_iconst C (-1) dX12_totalOf_39 rfl ?_
    refine v_icmp_ne C 47 dX12_totalOf_40 (by decide) (fun c6 => ?_) (fun c6 => ?_)
    · replace h := (ite_h h).2 c6
      refine v_aload_n C 1 dX12_totalOf_47 rfl ?_
      refine g_Mo_endNow C kk91 fl_X12_184 dX12_totalOf_48 ?_
      refine v_iconst C 4 dX12_totalOf_51 rfl ?_
      refine v_icmp_ne C 63 dX12_totalOf_52 (by decide) (fun c5 => ?_) (fun c5 => ?_)
      · replace h := (ite_h h).2 c5
        refine v_iload_n C 2 dX12_totalOf_63 rfl ?_
        refine v_iload_n C 0 dX12_totalOf_64 rfl ?_
        refine v_iadd C dX12_totalOf_65 ?_
        refine v_sub [1, 3] rfl ?_
        exact v_Mo_totalOf_b66 C K hk21 h
      · replace h := (ite_h h).1 c5
        refine v_iload_n C 2 dX12_totalOf_55 rfl ?_
        refine v_iload_n C 0 dX12_totalOf_56 rfl ?_
        obtain ⟨q4, hq4, h⟩ := Option.bind_eq_some_iff.mp h
        refine cs C [] (m_Mo_added C.inj M a1 x3 q4 hq4) ci_Mo_added lk_X12_307 (by decide) rfl rfl (Nat.le_of_ble_eq_true rfl) dX12_totalOf_57 ?_
        refine v_goto C 66 dX12_totalOf_60 (by decide) ?_
        refine v_sub [1, 3] rfl ?_
        exact v_Mo_totalOf_b66 C K hk21 h
    · replace h := (ite_h h).1 c6
      refine v_iload_n C 2 dX12_totalOf_43 rfl ?_
      refine v_goto C 66 dX12_totalOf_44 (by decide) ?_
      refine v_sub [1, 3] rfl ?_
      exact v_Mo_totalOf_b66 C K hk21 h
def f_Mo_totalOf_l21 : Nat → Int32 → Int32 → Mem → Option (Int32 × Mem)
  | 0, _, _, _ => none
  | n + 1, a1, a2, M => f_Mo_totalOf_l21B (f_Mo_totalOf_l21 n) a1 a2 M
theorem v_Mo_totalOf_l21 {S : SE} {X : MX} {q : (Int32 × Mem)} (C : CX S X cX12_totalOf 4 RX12 7) (K : RT S X (some .int) (some (.int q.1)) q.2) : ∀ (n : Nat) (a1 : Int32) (a2 : Int32) (M : Mem), f_Mo_totalOf_l21 n a1 a2 M = some q → V S X 4 M 21 [(0, .ref (S.2.1 91)), (1, .int a1), (2, .int a2)] [] := by
  intro n
  induction n with
  | zero => intro a1 a2 M h; cases h
  | succ n ih => intro a1 a2 M h; exact v_Mo_totalOf_l21B C K ih h
def f_Mo_totalOf (M : Mem) : Option (Int32 × Mem) :=
  (f_Mo_runsTold M).bind fun q1 =>
  if (q1 100 (0 : Int32).toNatClampNeg) = (-1) then
    f_Mo_totalOf_l21 FU 0 0 q1
  else
    some ((-3), q1)
set_option maxRecDepth 20000 in
theorem v_Mo_totalOf {S : SE} {X : MX} {q : (Int32 × Mem)} {M : Mem} (C : CX S X cX12_totalOf 4 RX12 7) (K : RT S X (some .int) (some (.int q.1)) q.2) (h : f_Mo_totalOf M = some q) : V S X 4 M 0 [(0, .ref (S.2.1 91))] [] := by
  unfold f_Mo_totalOf at h
  refine v_aload_n C 0 dX12_totalOf_0 rfl ?_
  obtain ⟨q1, hq1, h⟩ := Option.bind_eq_some_iff.mp h
  refine cv12v C [] kk91 (m_Mo_runsTold C.inj M q1 hq1) ci_Mo_runsTold rfl lk_X12_292 (by decide) rfl rfl (Nat.le_of_ble_eq_true rfl) dX12_totalOf_1 ?_
  refine v_aload_n C 0 dX12_totalOf_4 rfl ?_
  refine g_Mo_errorAt C kk91 fl_X12_34 dX12_totalOf_5 ?_
  refine v_iconst C 0 dX12_totalOf_8 rfl ?_
  refine v_iald C kk100 ll100 (by decide) dX12_totalOf_9 ?_
  refine v_iconst C (-1) dX12_totalOf_10 rfl ?_
  refine v_icmp_eq C 17 dX12_totalOf_11 (by decide) (fun c8 => ?_) (fun c8 => ?_)
  · replace h := (ite_h h).1 c8
    refine v_iconst C 0 dX12_totalOf_17 rfl ?_
    refine v_istore_n C [(1, .int 0), (0, .ref (S.2.1 91))] dX12_totalOf_18 (by decide) rfl ?_
    refine v_iconst C 0 dX12_totalOf_19 rfl ?_
    refine v_istore_n C [(2, .int 0), (1, .int 0), (0, .ref (S.2.1 91))] dX12_totalOf_20 (by decide) rfl ?_
    refine v_sub [2, 1, 0] rfl ?_
    exact v_Mo_totalOf_l21 C K FU _ _ _ h
  · replace h := (ite_h h).2 c8
    refine v_bipush C (-3) dX12_totalOf_14 rfl ?_
    obtain rfl := Option.some.inj h
    exact v_iret C K dX12_totalOf_16
theorem m_Mo_totalOf {S : SE} (hI : Inj S) (M : Mem) (q : (Int32 × Mem)) (h : f_Mo_totalOf M = some q) : CM S yX12_totalOf cX12_totalOf 4 (some .int) 7 [.ref (S.2.1 91)] M (some (.int q.1)) q.2 :=
  CM.of [(0, .ref (S.2.1 91))] hI (by decide) rfl (Nat.le_of_ble_eq_true rfl) (fun X C K => v_Mo_totalOf C K  h)
