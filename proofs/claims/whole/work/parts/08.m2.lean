def f_Mo_comesOfInner_l17B (k17 : Int32 → Mem → Option Mem) (a1 : Int32) (M : Mem) : Option Mem :=
  if (M 91 17) ≤ a1 then
    some M
  else
    if gin (10 + a1) 20 then
      if gin a1 300 then
        bnd (mset M 105 a1.toNatClampNeg (M 96 (10 + a1).toNatClampNeg)) fun M5 =>
        if gin (10 + a1) 20 then
          if gin a1 300 then
            bnd (mset M5 106 a1.toNatClampNeg (M5 97 (10 + a1).toNatClampNeg)) fun M8 =>
            if gin a1 300 then
              bnd (mset M8 107 a1.toNatClampNeg (-1)) fun M10 =>
              k17 (a1 + 1) M10
            else none
          else none
        else none
      else none
    else none
set_option maxRecDepth 20000 in
theorem v_Mo_comesOfInner_l17B {S : SE} {X : MX} {q : Mem} {k17 : Int32 → Mem → Option Mem} {a1 : Int32} {M : Mem} (C : CX S X cX12_comesOfInner 2 RX12 0) (K : RT S X none none q) (hk17 : ∀ (a1 : Int32) (M : Mem), k17 a1 M = some q → V S X 2 M 17 [(0, .ref (S.2.1 91)), (1, .int a1)] []) (h : f_Mo_comesOfInner_l17B k17 a1 M = some q) : V S X 2 M 17 [(0, .ref (S.2.1 91)), (1, .int a1)] [] := by
  unfold f_Mo_comesOfInner_l17B at h
  refine v_iload_n C 1 dX12_comesOfInner_17 rfl ?_
  refine v_aload_n C 0 dX12_comesOfInner_18 rfl ?_
  refine g_Mo_many C kk91 fl_X12_181 dX12_comesOfInner_19 ?_
  refine v_icmp_ge C 68 dX12_comesOfInner_22 (by decide) (fun c11 => ?_) (fun c11 => ?_)
  · replace h := (ite_h h).1 c11
    obtain rfl := Option.some.inj h
    exact v_vret C K dX12_comesOfInner_68
  · replace h := (ite_h h).2 c11
    refine v_aload_n C 0 dX12_comesOfInner_25 rfl ?_
    refine g_Mo_rowK C kk91 fl_X12_49 dX12_comesOfInner_26 ?_
    refine v_iload_n C 1 dX12_comesOfInner_29 rfl ?_
    refine v_aload_n C 0 dX12_comesOfInner_30 rfl ?_
    refine g_Mo_ks C kk91 fl_X12_22 dX12_comesOfInner_31 ?_
    refine v_bipush C 10 dX12_comesOfInner_34 rfl ?_
    refine v_iload_n C 1 dX12_comesOfInner_36 rfl ?_
    refine v_iadd C dX12_comesOfInner_37 ?_
    obtain ⟨g3, h⟩ := gd_h h
    refine v_iald C kk96 ll96 g3 dX12_comesOfInner_38 ?_
    obtain ⟨g4, h⟩ := gd_h h
    refine v_iast C kk105 ll105 g4 dX12_comesOfInner_39 ?_
    refine v_nmm h (fun M5 h => ?_)
    refine v_aload_n C 0 dX12_comesOfInner_40 rfl ?_
    refine g_Mo_rowV C kk91 fl_X12_52 dX12_comesOfInner_41 ?_
    refine v_iload_n C 1 dX12_comesOfInner_44 rfl ?_
    refine v_aload_n C 0 dX12_comesOfInner_45 rfl ?_
    refine g_Mo_vs C kk91 fl_X12_25 dX12_comesOfInner_46 ?_
    refine v_bipush C 10 dX12_comesOfInner_49 rfl ?_
    refine v_iload_n C 1 dX12_comesOfInner_51 rfl ?_
    refine v_iadd C dX12_comesOfInner_52 ?_
    obtain ⟨g6, h⟩ := gd_h h
    refine v_iald C kk97 ll97 g6 dX12_comesOfInner_53 ?_
    obtain ⟨g7, h⟩ := gd_h h
    refine v_iast C kk106 ll106 g7 dX12_comesOfInner_54 ?_
    refine v_nmm h (fun M8 h => ?_)
    refine v_aload_n C 0 dX12_comesOfInner_55 rfl ?_
    refine g_Mo_rowPair C kk91 fl_X12_55 dX12_comesOfInner_56 ?_
    refine v_iload_n C 1 dX12_comesOfInner_59 rfl ?_
    refine v_iconst C (-1) dX12_comesOfInner_60 rfl ?_
    obtain ⟨g9, h⟩ := gd_h h
    refine v_iast C kk107 ll107 g9 dX12_comesOfInner_61 ?_
    refine v_nmm h (fun M10 h => ?_)
    refine v_iinc C [(1, .int (a1 + 1)), (0, .ref (S.2.1 91))] 1 (a1 + 1) dX12_comesOfInner_62 rfl rfl (by decide) rfl ?_
    refine v_goto C 17 dX12_comesOfInner_65 (by decide) ?_
    refine v_sub [1, 0] rfl ?_
    exact hk17 _ _ h
def f_Mo_comesOfInner_l17 : Nat → Int32 → Mem → Option Mem
  | 0, _, _ => none
  | n + 1, a1, M => f_Mo_comesOfInner_l17B (f_Mo_comesOfInner_l17 n) a1 M
theorem v_Mo_comesOfInner_l17 {S : SE} {X : MX} {q : Mem} (C : CX S X cX12_comesOfInner 2 RX12 0) (K : RT S X none none q) : ∀ (n : Nat) (a1 : Int32) (M : Mem), f_Mo_comesOfInner_l17 n a1 M = some q → V S X 2 M 17 [(0, .ref (S.2.1 91)), (1, .int a1)] [] := by
  intro n
  induction n with
  | zero => intro a1 M h; cases h
  | succ n ih => intro a1 M h; exact v_Mo_comesOfInner_l17B C K ih h
def f_Mo_comesOfInner (M : Mem) : Option Mem :=
  bnd (mset M 91 17 (M 95 (1 : Int32).toNatClampNeg)) fun M1 =>
  bnd (mset M1 91 21 0) fun M2 =>
  f_Mo_comesOfInner_l17 FU 0 M2
set_option maxRecDepth 20000 in
theorem v_Mo_comesOfInner {S : SE} {X : MX} {q : Mem} {M : Mem} (C : CX S X cX12_comesOfInner 2 RX12 0) (K : RT S X none none q) (h : f_Mo_comesOfInner M = some q) : V S X 2 M 0 [(0, .ref (S.2.1 91))] [] := by
  unfold f_Mo_comesOfInner at h
  refine v_aload_n C 0 dX12_comesOfInner_0 rfl ?_
  refine v_aload_n C 0 dX12_comesOfInner_1 rfl ?_
  refine g_Mo_rows C kk91 fl_X12_19 dX12_comesOfInner_2 ?_
  refine v_iconst C 1 dX12_comesOfInner_5 rfl ?_
  refine v_iald C kk95 ll95 (by decide) dX12_comesOfInner_6 ?_
  refine p_Mo_many C kk91 fl_X12_181 dX12_comesOfInner_7 ?_
  refine v_nmm h (fun M1 h => ?_)
  refine v_aload_n C 0 dX12_comesOfInner_10 rfl ?_
  refine v_iconst C 0 dX12_comesOfInner_11 rfl ?_
  refine p_Mo_outMany C kk91 fl_X12_178 dX12_comesOfInner_12 ?_
  refine v_nmm h (fun M2 h => ?_)
  refine v_iconst C 0 dX12_comesOfInner_15 rfl ?_
  refine v_istore_n C [(1, .int 0), (0, .ref (S.2.1 91))] dX12_comesOfInner_16 (by decide) rfl ?_
  refine v_sub [1, 0] rfl ?_
  exact v_Mo_comesOfInner_l17 C K FU _ _ h
theorem m_Mo_comesOfInner {S : SE} (hI : Inj S) (M : Mem) (q : Mem) (h : f_Mo_comesOfInner M = some q) : CM S yX12_comesOfInner cX12_comesOfInner 2 none 0 [.ref (S.2.1 91)] M none q :=
  CM.of [(0, .ref (S.2.1 91))] hI (by decide) rfl (Nat.le_of_ble_eq_true rfl) (fun X C K => v_Mo_comesOfInner C K  h)
def f_Mo_stays_b75 : Int32 :=
  (-2)
set_option maxRecDepth 20000 in
theorem v_Mo_stays_b75 {S : SE} {X : MX} {q : Int32} {M : Mem} (C : CX S X cX12_stays 6 RX12 0) (K : RT S X (some .int) (some (.int q)) M) (h : f_Mo_stays_b75 = q) : V S X 6 M 75 [] [] := by
  unfold f_Mo_stays_b75 at h
  refine v_bipush C (-2) dX12_stays_75 rfl ?_
  subst h
  exact v_iret C K dX12_stays_77
def f_Mo_stays_b93 : Int32 :=
  (-2)
set_option maxRecDepth 20000 in
theorem v_Mo_stays_b93 {S : SE} {X : MX} {q : Int32} {M : Mem} (C : CX S X cX12_stays 6 RX12 0) (K : RT S X (some .int) (some (.int q)) M) (h : f_Mo_stays_b93 = q) : V S X 6 M 93 [] [] := by
  unfold f_Mo_stays_b93 at h
  refine v_bipush C (-2) dX12_stays_93 rfl ?_
  subst h
  exact v_iret C K dX12_stays_95
def f_Mo_stays_b114 : Int32 :=
  (-1)
set_option maxRecDepth 20000 in
theorem v_Mo_stays_b114 {S : SE} {X : MX} {q : Int32} {M : Mem} (C : CX S X cX12_stays 6 RX12 0) (K : RT S X (some .int) (some (.int q)) M) (h : f_Mo_stays_b114 = q) : V S X 6 M 114 [] [] := by
  unfold f_Mo_stays_b114 at h
  refine v_iconst C (-1) dX12_stays_114 rfl ?_
  subst h
  exact v_iret C K dX12_stays_115
def f_Mo_stays_b130 : Int32 :=
  (-2)
set_option maxRecDepth 20000 in
theorem v_Mo_stays_b130 {S : SE} {X : MX} {q : Int32} {M : Mem} (C : CX S X cX12_stays 6 RX12 0) (K : RT S X (some .int) (some (.int q)) M) (h : f_Mo_stays_b130 = q) : V S X 6 M 130 [] [] := by
  unfold f_Mo_stays_b130 at h
  refine v_bipush C (-2) dX12_stays_130 rfl ?_
  subst h
  exact v_iret C K dX12_stays_132
def f_Mo_stays_b16 (a0 : Int32) (a1 : Int32) (a2 : Int32) (a3 : Int32) (a4 : Int32) (s0 : Int32) : Int32 :=
  if a0 = 1 then
    if s0 = 0 then
      f_Mo_stays_b75
    else
      if a2 = a4 then
        a3
      else
        f_Mo_stays_b75
  else
  if a0 = 2 then
    if s0 = 0 then
      f_Mo_stays_b93
    else
      if a4 ≤ a2 then
        f_Mo_stays_b93
      else
        a3
  else
  if a0 = 3 then
    if a3 = (-1) then
      f_Mo_stays_b114
    else
      if a4 = (-1) then
        f_Mo_stays_b114
      else
        (a3 + a4)
  else
  if a0 = 4 then
    a3
  else
  if a0 = 5 then
    a3
  else
  if a0 = 6 then
    a3
  else
  if a0 = 7 then
    if a3 = (-1) then
      f_Mo_stays_b130
    else
      if a3 < a1 then
        f_Mo_stays_b130
      else
        a3
  else
  a3
set_option maxRecDepth 20000 in
theorem v_Mo_stays_b16 {S : SE} {X : MX} {q : Int32} {a0 : Int32} {a1 : Int32} {a2 : Int32} {a3 : Int32} {a4 : Int32} {s0 : Int32} {M : Mem} (C : CX S X cX12_stays 6 RX12 0) (K : RT S X (some .int) (some (.int q)) M) (h : f_Mo_stays_b16 a0 a1 a2 a3 a4 s0 = q) : V S X 6 M 16 [(0, .int a0), (1, .int a1), (2, .int a2), (3, .int a3), (4, .int a4)] [.int s0] := by
  unfold f_Mo_stays_b16 at h
  refine v_istore C [(5, .int s0), (0, .int a0), (1, .int a1), (2, .int a2), (3, .int a3), (4, .int a4)] dX12_stays_16 (by decide) rfl ?_
  refine v_iload_n C 1 dX12_stays_18 rfl ?_
  by_cases c1 : a0 = 1
  · replace h := (ite_h h).1 c1
    refine v_tableIn C 60 dX12_stays_19 (by rw [c1]; decide) (by rw [c1]; decide) (by rw [c1]; rfl) (by decide) ?_
    refine v_iload C 0 dX12_stays_60 rfl ?_
    refine v_if_eq C 75 dX12_stays_62 (by decide) (fun c3 => ?_) (fun c3 => ?_)
    · replace h := (ite_h h).1 c3
      refine v_sub [] rfl ?_
      exact v_Mo_stays_b75 C K h
    · replace h := (ite_h h).2 c3
      refine v_iload_n C 3 dX12_stays_65 rfl ?_
      refine v_iload C 5 dX12_stays_66 rfl ?_
      refine v_icmp_ne C 75 dX12_stays_68 (by decide) (fun c2 => ?_) (fun c2 => ?_)
      · replace h := (ite_h h).2 c2
        refine v_sub [] rfl ?_
        exact v_Mo_stays_b75 C K h
      · replace h := (ite_h h).1 c2
        refine v_iload_n C 4 dX12_stays_71 rfl ?_
        refine v_goto C 77 dX12_stays_72 (by decide) ?_
        subst h
        exact v_iret C K dX12_stays_77
  replace h := (ite_h h).2 c1
  by_cases c4 : a0 = 2
  · replace h := (ite_h h).1 c4
    refine v_tableIn C 78 dX12_stays_19 (by rw [c4]; decide) (by rw [c4]; decide) (by rw [c4]; rfl) (by decide) ?_
    refine v_iload C 0 dX12_stays_78 rfl ?_
    refine v_if_eq C 93 dX12_stays_80 (by decide) (fun c6 => ?_) (fun c6 => ?_)
    · replace h := (ite_h h).1 c6
      refine v_sub [] rfl ?_
      exact v_Mo_stays_b93 C K h
    · replace h := (ite_h h).2 c6
      refine v_iload_n C 3 dX12_stays_83 rfl ?_
      refine v_iload C 5 dX12_stays_84 rfl ?_
      refine v_icmp_ge C 93 dX12_stays_86 (by decide) (fun c5 => ?_) (fun c5 => ?_)
      · replace h := (ite_h h).1 c5
        refine v_sub [] rfl ?_
        exact v_Mo_stays_b93 C K h
      · replace h := (ite_h h).2 c5
        refine v_iload_n C 4 dX12_stays_89 rfl ?_
        refine v_goto C 95 dX12_stays_90 (by decide) ?_
        subst h
        exact v_iret C K dX12_stays_95
  replace h := (ite_h h).2 c4
  by_cases c7 : a0 = 3
  · replace h := (ite_h h).1 c7
    refine v_tableIn C 96 dX12_stays_19 (by rw [c7]; decide) (by rw [c7]; decide) (by rw [c7]; rfl) (by decide) ?_
    refine v_iload_n C 4 dX12_stays_96 rfl ?_
    refine v_iconst C (-1) dX12_stays_97 rfl ?_
    refine v_icmp_eq C 114 dX12_stays_98 (by decide) (fun c9 => ?_) (fun c9 => ?_)
    · replace h := (ite_h h).1 c9
      refine v_sub [] rfl ?_
      exact v_Mo_stays_b114 C K h
    · replace h := (ite_h h).2 c9
      refine v_iload C 5 dX12_stays_101 rfl ?_
      refine v_iconst C (-1) dX12_stays_103 rfl ?_
      refine v_icmp_eq C 114 dX12_stays_104 (by decide) (fun c8 => ?_) (fun c8 => ?_)
      · replace h := (ite_h h).1 c8
        refine v_sub [] rfl ?_
        exact v_Mo_stays_b114 C K h
      · replace h := (ite_h h).2 c8
        refine v_iload_n C 4 dX12_stays_107 rfl ?_
        refine v_iload C 5 dX12_stays_108 rfl ?_
        refine v_iadd C dX12_stays_110 ?_
        refine v_goto C 115 dX12_stays_111 (by decide) ?_
        subst h
        exact v_iret C K dX12_stays_115
  replace h := (ite_h h).2 c7
  by_cases c10 : a0 = 4
  · replace h := (ite_h h).1 c10
    refine v_tableIn C 133 dX12_stays_19 (by rw [c10]; decide) (by rw [c10]; decide) (by rw [c10]; rfl) (by decide) ?_
    refine v_iload_n C 4 dX12_stays_133 rfl ?_
    subst h
    exact v_iret C K dX12_stays_134
  replace h := (ite_h h).2 c10
  by_cases c11 : a0 = 5
  · replace h := (ite_h h).1 c11
    refine v_tableIn C 133 dX12_stays_19 (by rw [c11]; decide) (by rw [c11]; decide) (by rw [c11]; rfl) (by decide) ?_
    refine v_iload_n C 4 dX12_stays_133 rfl ?_
    subst h
    exact v_iret C K dX12_stays_134
  replace h := (ite_h h).2 c11
  by_cases c12 : a0 = 6
  · replace h := (ite_h h).1 c12
    refine v_tableIn C 133 dX12_stays_19 (by rw [c12]; decide) (by rw [c12]; decide) (by rw [c12]; rfl) (by decide) ?_
    refine v_iload_n C 4 dX12_stays_133 rfl ?_
    subst h
    exact v_iret C K dX12_stays_134
  replace h := (ite_h h).2 c12
  by_cases c13 : a0 = 7
  · replace h := (ite_h h).1 c13
    refine v_tableIn C 116 dX12_stays_19 (by rw [c13]; decide) (by rw [c13]; decide) (by rw [c13]; rfl) (by decide) ?_
    refine v_iload_n C 4 dX12_stays_116 rfl ?_
    refine v_iconst C (-1) dX12_stays_117 rfl ?_
    refine v_icmp_eq C 130 dX12_stays_118 (by decide) (fun c15 => ?_) (fun c15 => ?_)
    · replace h := (ite_h h).1 c15
      refine v_sub [] rfl ?_
      exact v_Mo_stays_b130 C K h
    · replace h := (ite_h h).2 c15
      refine v_iload_n C 4 dX12_stays_121 rfl ?_
      refine v_iload_n C 2 dX12_stays_122 rfl ?_
      refine v_icmp_lt C 130 dX12_stays_123 (by decide) (fun c14 => ?_) (fun c14 => ?_)
      · replace h := (ite_h h).1 c14
        refine v_sub [] rfl ?_
        exact v_Mo_stays_b130 C K h
      · replace h := (ite_h h).2 c14
        refine v_iload_n C 4 dX12_stays_126 rfl ?_
        refine v_goto C 132 dX12_stays_127 (by decide) ?_
        subst h
        exact v_iret C K dX12_stays_132
  replace h := (ite_h h).2 c13
  refine v_tableOut C 133 dX12_stays_19 (by
      have := ne_toInt c1 (1 : Int) rfl
      have := ne_toInt c4 (2 : Int) rfl
      have := ne_toInt c7 (3 : Int) rfl
      have := ne_toInt c10 (4 : Int) rfl
      have := ne_toInt c11 (5 : Int) rfl
      have := ne_toInt c12 (6 : Int) rfl
      have := ne_toInt c13 (7 : Int) rfl
      omega) (by decide) ?_
  refine v_iload_n C 4 dX12_stays_133 rfl ?_
  subst h
  exact v_iret C K dX12_stays_134
def f_Mo_stays_b15 (a0 : Int32) (a1 : Int32) (a2 : Int32) (a3 : Int32) (a4 : Int32) : Int32 :=
  f_Mo_stays_b16 a0 a1 a2 a3 a4 0
set_option maxRecDepth 20000 in
theorem v_Mo_stays_b15 {S : SE} {X : MX} {q : Int32} {a0 : Int32} {a1 : Int32} {a2 : Int32} {a3 : Int32} {a4 : Int32} {M : Mem} (C : CX S X cX12_stays 6 RX12 0) (K : RT S X (some .int) (some (.int q)) M) (h : f_Mo_stays_b15 a0 a1 a2 a3 a4 = q) : V S X 6 M 15 [(0, .int a0), (1, .int a1), (2, .int a2), (3, .int a3), (4, .int a4)] [] := by
  unfold f_Mo_stays_b15 at h
  refine v_iconst C 0 dX12_stays_15 rfl ?_
  exact v_Mo_stays_b16 C K h
def f_Mo_stays (a0 : Int32) (a1 : Int32) (a2 : Int32) (a3 : Int32) (a4 : Int32) : Int32 :=
  if a2 = (-1) then
    f_Mo_stays_b15 a0 a1 a2 a3 a4
  else
    if a4 = (-1) then
      f_Mo_stays_b15 a0 a1 a2 a3 a4
    else
      f_Mo_stays_b16 a0 a1 a2 a3 a4 1
set_option maxRecDepth 20000 in
theorem v_Mo_stays {S : SE} {X : MX} {q : Int32} {M : Mem} {a0 : Int32} {a1 : Int32} {a2 : Int32} {a3 : Int32} {a4 : Int32} (C : CX S X cX12_stays 6 RX12 0) (K : RT S X (some .int) (some (.int q)) M) (h : f_Mo_stays a0 a1 a2 a3 a4 = q) : V S X 6 M 0 [(0, .int a0), (1, .int a1), (2, .int a2), (3, .int a3), (4, .int a4)] [] := by
  unfold f_Mo_stays at h
  refine v_iload_n C 2 dX12_stays_0 rfl ?_
  refine v_iconst C (-1) dX12_stays_1 rfl ?_
  refine v_icmp_eq C 15 dX12_stays_2 (by decide) (fun c17 => ?_) (fun c17 => ?_)
  · replace h := (ite_h h).1 c17
    exact v_Mo_stays_b15 C K h
  · replace h := (ite_h h).2 c17
    refine v_iload C 4 dX12_stays_5 rfl ?_
    refine v_iconst C (-1) dX12_stays_7 rfl ?_
    refine v_icmp_eq C 15 dX12_stays_8 (by decide) (fun c16 => ?_) (fun c16 => ?_)
    · replace h := (ite_h h).1 c16
      exact v_Mo_stays_b15 C K h
    · replace h := (ite_h h).2 c16
      refine v_iconst C 1 dX12_stays_11 rfl ?_
      refine v_goto C 16 dX12_stays_12 (by decide) ?_
      exact v_Mo_stays_b16 C K h
theorem m_Mo_stays {S : SE} (hI : Inj S) (M : Mem) (a0 : Int32) (a1 : Int32) (a2 : Int32) (a3 : Int32) (a4 : Int32) (q : Int32) (h : f_Mo_stays a0 a1 a2 a3 a4 = q) : CM S yX12_stays cX12_stays 6 (some .int) 0 [.int a0, .int a1, .int a2, .int a3, .int a4] M (some (.int q)) M :=
  CM.of [(0, .int a0), (1, .int a1), (2, .int a2), (3, .int a3), (4, .int a4)] hI (by decide) rfl (Nat.le_of_ble_eq_true rfl) (fun X C K => v_Mo_stays C K  h)
def f_Mo_groups_b110 (k7 : Int32 → Mem → Option Mem) (a1 : Int32) (a2 : Int32) (M : Mem) : Option Mem :=
  if gin a2 300 then
    if gin a2 300 then
      bnd (mset M 106 a2.toNatClampNeg ((M 106 a2.toNatClampNeg) + 1)) fun M5 =>
      k7 (a1 + 1) M5
    else none
  else none
set_option maxRecDepth 20000 in
theorem v_Mo_groups_b110 {S : SE} {X : MX} {q : Mem} {k7 : Int32 → Mem → Option Mem} {a1 : Int32} {a2 : Int32} {M : Mem} (C : CX S X cX12_groups 3 RX12 0) (K : RT S X none none q) (hk7 : ∀ (a1 : Int32) (M : Mem), k7 a1 M = some q → V S X 3 M 7 [(0, .ref (S.2.1 91)), (1, .int a1)] []) (h : f_Mo_groups_b110 k7 a1 a2 M = some q) : V S X 3 M 110 [(0, .ref (S.2.1 91)), (1, .int a1), (2, .int a2)] [] := by
  unfold f_Mo_groups_b110 at h
  refine v_aload_n C 0 dX12_groups_110 rfl ?_
  refine g_Mo_rowV C kk91 fl_X12_52 dX12_groups_111 ?_
  refine v_iload_n C 2 dX12_groups_114 rfl ?_
  refine v_dup2 C dX12_groups_115 rfl rfl ?_
  obtain ⟨g3, h⟩ := gd_h h
  refine v_iald C kk106 ll106 g3 dX12_groups_116 ?_
  refine v_iconst C 1 dX12_groups_117 rfl ?_
  refine v_iadd C dX12_groups_118 ?_
  obtain ⟨g4, h⟩ := gd_h h
  refine v_iast C kk106 ll106 g4 dX12_groups_119 ?_
  refine v_nmm h (fun M5 h => ?_)
  refine v_iinc C [(1, .int (a1 + 1)), (0, .ref (S.2.1 91)), (2, .int a2)] 1 (a1 + 1) dX12_groups_120 rfl rfl (by decide) rfl ?_
  refine v_goto C 7 dX12_groups_123 (by decide) ?_
  refine v_sub [1, 0] rfl ?_
  exact hk7 _ _ h
def f_Mo_groups_b61 (k7 : Int32 → Mem → Option Mem) (a1 : Int32) (a2 : Int32) (M : Mem) : Option Mem :=
  if a2 = (M 91 17) then
    if gin a1 300 then
      if gin a2 300 then
        bnd (mset M 105 a2.toNatClampNeg (M 108 a1.toNatClampNeg)) fun M8 =>
        if gin a1 300 then
          if gin a2 300 then
            bnd (mset M8 107 a2.toNatClampNeg (M8 110 a1.toNatClampNeg)) fun M11 =>
            if gin a2 300 then
              bnd (mset M11 106 a2.toNatClampNeg 0) fun M13 =>
              bnd (mset M13 91 17 ((M13 91 17) + 1)) fun M14 =>
              f_Mo_groups_b110 k7 a1 a2 M14
            else none
          else none
        else none
      else none
    else none
  else
    f_Mo_groups_b110 k7 a1 a2 M
set_option maxRecDepth 20000 in
theorem v_Mo_groups_b61 {S : SE} {X : MX} {q : Mem} {k7 : Int32 → Mem → Option Mem} {a1 : Int32} {a2 : Int32} {M : Mem} (C : CX S X cX12_groups 3 RX12 0) (K : RT S X none none q) (hk7 : ∀ (a1 : Int32) (M : Mem), k7 a1 M = some q → V S X 3 M 7 [(0, .ref (S.2.1 91)), (1, .int a1)] []) (h : f_Mo_groups_b61 k7 a1 a2 M = some q) : V S X 3 M 61 [(0, .ref (S.2.1 91)), (1, .int a1), (2, .int a2)] [] := by
  unfold f_Mo_groups_b61 at h
  refine v_iload_n C 2 dX12_groups_61 rfl ?_
  refine v_aload_n C 0 dX12_groups_62 rfl ?_
  refine g_Mo_many C kk91 fl_X12_181 dX12_groups_63 ?_
  refine v_icmp_ne C 110 dX12_groups_66 (by decide) (fun c15 => ?_) (fun c15 => ?_)
  · replace h := (ite_h h).2 c15
    exact v_Mo_groups_b110 C K hk7 h
  · replace h := (ite_h h).1 c15
    refine v_aload_n C 0 dX12_groups_69 rfl ?_
    refine g_Mo_rowK C kk91 fl_X12_49 dX12_groups_70 ?_
    refine v_iload_n C 2 dX12_groups_73 rfl ?_
    refine v_aload_n C 0 dX12_groups_74 rfl ?_
    refine g_Mo_outK C kk91 fl_X12_58 dX12_groups_75 ?_
    refine v_iload_n C 1 dX12_groups_78 rfl ?_
    obtain ⟨g6, h⟩ := gd_h h
    refine v_iald C kk108 ll108 g6 dX12_groups_79 ?_
    obtain ⟨g7, h⟩ := gd_h h
    refine v_iast C kk105 ll105 g7 dX12_groups_80 ?_
    refine v_nmm h (fun M8 h => ?_)
    refine v_aload_n C 0 dX12_groups_81 rfl ?_
    refine g_Mo_rowPair C kk91 fl_X12_55 dX12_groups_82 ?_
    refine v_iload_n C 2 dX12_groups_85 rfl ?_
    refine v_aload_n C 0 dX12_groups_86 rfl ?_
    refine g_Mo_outPair C kk91 fl_X12_64 dX12_groups_87 ?_
    refine v_iload_n C 1 dX12_groups_90 rfl ?_
    obtain ⟨g9, h⟩ := gd_h h
    refine v_iald C kk110 ll110 g9 dX12_groups_91 ?_
    obtain ⟨g10, h⟩ := gd_h h
    refine v_iast C kk107 ll107 g10 dX12_groups_92 ?_
    refine v_nmm h (fun M11 h => ?_)
    refine v_aload_n C 0 dX12_groups_93 rfl ?_
    refine g_Mo_rowV C kk91 fl_X12_52 dX12_groups_94 ?_
    refine v_iload_n C 2 dX12_groups_97 rfl ?_
    refine v_iconst C 0 dX12_groups_98 rfl ?_
    obtain ⟨g12, h⟩ := gd_h h
    refine v_iast C kk106 ll106 g12 dX12_groups_99 ?_
    refine v_nmm h (fun M13 h => ?_)
    refine v_aload_n C 0 dX12_groups_100 rfl ?_
    refine v_dup C dX12_groups_101 rfl ?_
    refine g_Mo_many C kk91 fl_X12_181 dX12_groups_102 ?_
    refine v_iconst C 1 dX12_groups_105 rfl ?_
    refine v_iadd C dX12_groups_106 ?_
    refine p_Mo_many C kk91 fl_X12_181 dX12_groups_107 ?_
    refine v_nmm h (fun M14 h => ?_)
    exact v_Mo_groups_b110 C K hk7 h
def f_Mo_groups_b55 (k7 : Int32 → Mem → Option Mem) (k17 : Int32 → Int32 → Mem → Option Mem) (a1 : Int32) (a2 : Int32) (M : Mem) : Option Mem :=
  k17 a1 (a2 + 1) M
set_option maxRecDepth 20000 in
theorem v_Mo_groups_b55 {S : SE} {X : MX} {q : Mem} {k7 : Int32 → Mem → Option Mem} {k17 : Int32 → Int32 → Mem → Option Mem} {a1 : Int32} {a2 : Int32} {M : Mem} (C : CX S X cX12_groups 3 RX12 0) (K : RT S X none none q) (hk7 : ∀ (a1 : Int32) (M : Mem), k7 a1 M = some q → V S X 3 M 7 [(0, .ref (S.2.1 91)), (1, .int a1)] []) (hk17 : ∀ (a1 : Int32) (a2 : Int32) (M : Mem), k17 a1 a2 M = some q → V S X 3 M 17 [(0, .ref (S.2.1 91)), (1, .int a1), (2, .int a2)] []) (h : f_Mo_groups_b55 k7 k17 a1 a2 M = some q) : V S X 3 M 55 [(0, .ref (S.2.1 91)), (1, .int a1), (2, .int a2)] [] := by
  unfold f_Mo_groups_b55 at h
  refine v_iinc C [(2, .int (a2 + 1)), (0, .ref (S.2.1 91)), (1, .int a1)] 2 (a2 + 1) dX12_groups_55 rfl rfl (by decide) rfl ?_
  refine v_goto C 17 dX12_groups_58 (by decide) ?_
  refine v_sub [1, 2, 0] rfl ?_
  exact hk17 _ _ _ h
def f_Mo_groups_l17B (k7 : Int32 → Mem → Option Mem) (k17 : Int32 → Int32 → Mem → Option Mem) (a1 : Int32) (a2 : Int32) (M : Mem) : Option Mem :=
  if (M 91 17) ≤ a2 then
    f_Mo_groups_b61 k7 a1 a2 M
  else
    if gin a2 300 then
      if gin a1 300 then
        if (M 105 a2.toNatClampNeg) = (M 108 a1.toNatClampNeg) then
          if gin a2 300 then
            if gin a1 300 then
              if (M 107 a2.toNatClampNeg) = (M 110 a1.toNatClampNeg) then
                f_Mo_groups_b61 k7 a1 a2 M
              else
                f_Mo_groups_b55 k7 k17 a1 a2 M
            else none
          else none
        else
          f_Mo_groups_b55 k7 k17 a1 a2 M
      else none
    else none
set_option maxRecDepth 20000 in
theorem v_Mo_groups_l17B {S : SE} {X : MX} {q : Mem} {k7 : Int32 → Mem → Option Mem} {k17 : Int32 → Int32 → Mem → Option Mem} {a1 : Int32} {a2 : Int32} {M : Mem} (C : CX S X cX12_groups 3 RX12 0) (K : RT S X none none q) (hk7 : ∀ (a1 : Int32) (M : Mem), k7 a1 M = some q → V S X 3 M 7 [(0, .ref (S.2.1 91)), (1, .int a1)] []) (hk17 : ∀ (a1 : Int32) (a2 : Int32) (M : Mem), k17 a1 a2 M = some q → V S X 3 M 17 [(0, .ref (S.2.1 91)), (1, .int a1), (2, .int a2)] []) (h : f_Mo_groups_l17B k7 k17 a1 a2 M = some q) : V S X 3 M 17 [(0, .ref (S.2.1 91)), (1, .int a1), (2, .int a2)] [] := by
  unfold f_Mo_groups_l17B at h
  refine v_iload_n C 2 dX12_groups_17 rfl ?_
  refine v_aload_n C 0 dX12_groups_18 rfl ?_
  refine g_Mo_many C kk91 fl_X12_181 dX12_groups_19 ?_
  refine v_icmp_ge C 61 dX12_groups_22 (by decide) (fun c22 => ?_) (fun c22 => ?_)
  · replace h := (ite_h h).1 c22
    exact v_Mo_groups_b61 C K hk7 h
  · replace h := (ite_h h).2 c22
    refine v_aload_n C 0 dX12_groups_25 rfl ?_
    refine g_Mo_rowK C kk91 fl_X12_49 dX12_groups_26 ?_
    refine v_iload_n C 2 dX12_groups_29 rfl ?_
    obtain ⟨g16, h⟩ := gd_h h
    refine v_iald C kk105 ll105 g16 dX12_groups_30 ?_
    refine v_aload_n C 0 dX12_groups_31 rfl ?_
    refine g_Mo_outK C kk91 fl_X12_58 dX12_groups_32 ?_
    refine v_iload_n C 1 dX12_groups_35 rfl ?_
    obtain ⟨g17, h⟩ := gd_h h
    refine v_iald C kk108 ll108 g17 dX12_groups_36 ?_
    refine v_icmp_ne C 55 dX12_groups_37 (by decide) (fun c21 => ?_) (fun c21 => ?_)
    · replace h := (ite_h h).2 c21
      exact v_Mo_groups_b55 C K hk7 hk17 h
    · replace h := (ite_h h).1 c21
      refine v_aload_n C 0 dX12_groups_40 rfl ?_
      refine g_Mo_rowPair C kk91 fl_X12_55 dX12_groups_41 ?_
      refine v_iload_n C 2 dX12_groups_44 rfl ?_
      obtain ⟨g18, h⟩ := gd_h h
      refine v_iald C kk107 ll107 g18 dX12_groups_45 ?_
      refine v_aload_n C 0 dX12_groups_46 rfl ?_
      refine g_Mo_outPair C kk91 fl_X12_64 dX12_groups_47 ?_
      refine v_iload_n C 1 dX12_groups_50 rfl ?_
      obtain ⟨g19, h⟩ := gd_h h
      refine v_iald C kk110 ll110 g19 dX12_groups_51 ?_
      refine v_icmp_eq C 61 dX12_groups_52 (by decide) (fun c20 => ?_) (fun c20 => ?_)
      · replace h := (ite_h h).1 c20
        exact v_Mo_groups_b61 C K hk7 h
      · replace h := (ite_h h).2 c20
        exact v_Mo_groups_b55 C K hk7 hk17 h
def f_Mo_groups_l17 (k7 : Int32 → Mem → Option Mem) : Nat → Int32 → Int32 → Mem → Option Mem
  | 0, _, _, _ => none
  | n + 1, a1, a2, M => f_Mo_groups_l17B k7 (f_Mo_groups_l17 k7 n) a1 a2 M
theorem v_Mo_groups_l17 {S : SE} {X : MX} {q : Mem} {k7 : Int32 → Mem → Option Mem} (C : CX S X cX12_groups 3 RX12 0) (K : RT S X none none q) (hk7 : ∀ (a1 : Int32) (M : Mem), k7 a1 M = some q → V S X 3 M 7 [(0, .ref (S.2.1 91)), (1, .int a1)] []) : ∀ (n : Nat) (a1 : Int32) (a2 : Int32) (M : Mem), f_Mo_groups_l17 k7 n a1 a2 M = some q → V S X 3 M 17 [(0, .ref (S.2.1 91)), (1, .int a1), (2, .int a2)] [] := by
  intro n
  induction n with
  | zero => intro a1 a2 M h; cases h
  | succ n ih => intro a1 a2 M h; exact v_Mo_groups_l17B C K hk7 ih h
def f_Mo_groups_l7B (k7 : Int32 → Mem → Option Mem) (a1 : Int32) (M : Mem) : Option Mem :=
  if (M 91 21) ≤ a1 then
    bnd (mset M 91 21 0) fun M2 =>
    some M2
  else
    f_Mo_groups_l17 k7 FU a1 0 M
set_option maxRecDepth 20000 in
theorem v_Mo_groups_l7B {S : SE} {X : MX} {q : Mem} {k7 : Int32 → Mem → Option Mem} {a1 : Int32} {M : Mem} (C : CX S X cX12_groups 3 RX12 0) (K : RT S X none none q) (hk7 : ∀ (a1 : Int32) (M : Mem), k7 a1 M = some q → V S X 3 M 7 [(0, .ref (S.2.1 91)), (1, .int a1)] []) (h : f_Mo_groups_l7B k7 a1 M = some q) : V S X 3 M 7 [(0, .ref (S.2.1 91)), (1, .int a1)] [] := by
  unfold f_Mo_groups_l7B at h
  refine v_iload_n C 1 dX12_groups_7 rfl ?_
  refine v_aload_n C 0 dX12_groups_8 rfl ?_
  refine g_Mo_outMany C kk91 fl_X12_178 dX12_groups_9 ?_
  refine v_icmp_ge C 126 dX12_groups_12 (by decide) (fun c23 => ?_) (fun c23 => ?_)
  · replace h := (ite_h h).1 c23
    refine v_aload_n C 0 dX12_groups_126 rfl ?_
    refine v_iconst C 0 dX12_groups_127 rfl ?_
    refine p_Mo_outMany C kk91 fl_X12_178 dX12_groups_128 ?_
    refine v_nmm h (fun M2 h => ?_)
    obtain rfl := Option.some.inj h
    exact v_vret C K dX12_groups_131
  · replace h := (ite_h h).2 c23
    refine v_iconst C 0 dX12_groups_15 rfl ?_
    refine v_istore_n C [(2, .int 0), (0, .ref (S.2.1 91)), (1, .int a1)] dX12_groups_16 (by decide) rfl ?_
    refine v_sub [1, 2, 0] rfl ?_
    exact v_Mo_groups_l17 C K hk7 FU _ _ _ h
def f_Mo_groups_l7 : Nat → Int32 → Mem → Option Mem
  | 0, _, _ => none
  | n + 1, a1, M => f_Mo_groups_l7B (f_Mo_groups_l7 n) a1 M
theorem v_Mo_groups_l7 {S : SE} {X : MX} {q : Mem} (C : CX S X cX12_groups 3 RX12 0) (K : RT S X none none q) : ∀ (n : Nat) (a1 : Int32) (M : Mem), f_Mo_groups_l7 n a1 M = some q → V S X 3 M 7 [(0, .ref (S.2.1 91)), (1, .int a1)] [] := by
  intro n
  induction n with
  | zero => intro a1 M h; cases h
  | succ n ih => intro a1 M h; exact v_Mo_groups_l7B C K ih h
def f_Mo_groups (M : Mem) : Option Mem :=
  bnd (mset M 91 17 0) fun M1 =>
  f_Mo_groups_l7 FU 0 M1
set_option maxRecDepth 20000 in
theorem v_Mo_groups {S : SE} {X : MX} {q : Mem} {M : Mem} (C : CX S X cX12_groups 3 RX12 0) (K : RT S X none none q) (h : f_Mo_groups M = some q) : V S X 3 M 0 [(0, .ref (S.2.1 91))] [] := by
  unfold f_Mo_groups at h
  refine v_aload_n C 0 dX12_groups_0 rfl ?_
  refine v_iconst C 0 dX12_groups_1 rfl ?_
  refine p_Mo_many C kk91 fl_X12_181 dX12_groups_2 ?_
  refine v_nmm h (fun M1 h => ?_)
  refine v_iconst C 0 dX12_groups_5 rfl ?_
  refine v_istore_n C [(1, .int 0), (0, .ref (S.2.1 91))] dX12_groups_6 (by decide) rfl ?_
  refine v_sub [1, 0] rfl ?_
  exact v_Mo_groups_l7 C K FU _ _ h
theorem m_Mo_groups {S : SE} (hI : Inj S) (M : Mem) (q : Mem) (h : f_Mo_groups M = some q) : CM S yX12_groups cX12_groups 3 none 0 [.ref (S.2.1 91)] M none q :=
  CM.of [(0, .ref (S.2.1 91))] hI (by decide) rfl (Nat.le_of_ble_eq_true rfl) (fun X C K => v_Mo_groups C K  h)
def f_Mo_answerOf_b193 (a3 : Int32) (a4 : Int32) (a5 : Int32) (a6 : Int32) (a7 : Int32) (a8 : Int32) (s0 : Int32) (M : Mem) : Option Int32 :=
  if (M 91 10) = 0 then
    some a3
  else
  if (M 91 10) = 1 then
    if a4 = 0 then
      some (-1)
    else
      some a5
  else
  if (M 91 10) = 2 then
    some a6
  else
  if (M 91 10) = 3 then
    some a7
  else
  if (M 91 10) = 4 then
    if a4 = 0 then
      some (-1)
    else
      (f_Mo_divided a5 a4).bind fun q7 =>
      some q7
  else
  if (M 91 10) = 5 then
    if a3 ≤ 1 then
      some a8
    else
      some (-2)
  else
  if (M 91 10) = 6 then
    if a3 ≤ 0 then
      some 0
    else
      some 1
  else
  if (M 91 10) = 7 then
    some s0
  else
  if s0 = (-1) then
    some (-1)
  else
    some (1 - s0)
set_option maxRecDepth 20000 in
theorem v_Mo_answerOf_b193 {S : SE} {X : MX} {q : Int32} {a3 : Int32} {a4 : Int32} {a5 : Int32} {a6 : Int32} {a7 : Int32} {a8 : Int32} {s0 : Int32} {M : Mem} (C : CX S X cX12_answerOf 12 RX12 2) (K : RT S X (some .int) (some (.int q)) M) (h : f_Mo_answerOf_b193 a3 a4 a5 a6 a7 a8 s0 M = some q) : V S X 12 M 193 [(0, .ref (S.2.1 91)), (3, .int a3), (4, .int a4), (5, .int a5), (6, .int a6), (7, .int a7), (8, .int a8)] [.int s0] := by
  unfold f_Mo_answerOf_b193 at h
  refine v_istore C [(10, .int s0), (0, .ref (S.2.1 91)), (3, .int a3), (4, .int a4), (5, .int a5), (6, .int a6), (7, .int a7), (8, .int a8)] dX12_answerOf_193 (by decide) rfl ?_
  refine v_aload_n C 1 dX12_answerOf_195 rfl ?_
  refine g_Mo_endNow C kk91 fl_X12_184 dX12_answerOf_196 ?_
  by_cases c1 : (M 91 10) = 0
  · replace h := (ite_h h).1 c1
    refine v_tableIn C 244 dX12_answerOf_199 (by rw [c1]; decide) (by rw [c1]; decide) (by rw [c1]; rfl) (by decide) ?_
    refine v_iload_n C 2 dX12_answerOf_244 rfl ?_
    obtain rfl := Option.some.inj h
    exact v_iret C K dX12_answerOf_245
  replace h := (ite_h h).2 c1
  by_cases c2 : (M 91 10) = 1
  · replace h := (ite_h h).1 c2
    refine v_tableIn C 246 dX12_answerOf_199 (by rw [c2]; decide) (by rw [c2]; decide) (by rw [c2]; rfl) (by decide) ?_
    refine v_iload C 3 dX12_answerOf_246 rfl ?_
    refine v_if_ne C 255 dX12_answerOf_248 (by decide) (fun c3 => ?_) (fun c3 => ?_)
    · replace h := (ite_h h).2 c3
      refine v_iload C 4 dX12_answerOf_255 rfl ?_
      obtain rfl := Option.some.inj h
      exact v_iret C K dX12_answerOf_257
    · replace h := (ite_h h).1 c3
      refine v_iconst C (-1) dX12_answerOf_251 rfl ?_
      refine v_goto C 257 dX12_answerOf_252 (by decide) ?_
      obtain rfl := Option.some.inj h
      exact v_iret C K dX12_answerOf_257
  replace h := (ite_h h).2 c2
  by_cases c4 : (M 91 10) = 2
  · replace h := (ite_h h).1 c4
    refine v_tableIn C 258 dX12_answerOf_199 (by rw [c4]; decide) (by rw [c4]; decide) (by rw [c4]; rfl) (by decide) ?_
    refine v_iload C 5 dX12_answerOf_258 rfl ?_
    obtain rfl := Option.some.inj h
    exact v_iret C K dX12_answerOf_260
  replace h := (ite_h h).2 c4
  by_cases c5 : (M 91 10) = 3
  · replace h := (ite_h h).1 c5
    refine v_tableIn C 261 dX12_answerOf_199 (by rw [c5]; decide) (by rw [c5]; decide) (by rw [c5]; rfl) (by decide) ?_
    refine v_iload C 6 dX12_answerOf_261 rfl ?_
    obtain rfl := Option.some.inj h
    exact v_iret C K dX12_answerOf_263
  replace h := (ite_h h).2 c5
  by_cases c6 : (M 91 10) = 4
  · replace h := (ite_h h).1 c6
    refine v_tableIn C 264 dX12_answerOf_199 (by rw [c6]; decide) (by rw [c6]; decide) (by rw [c6]; rfl) (by decide) ?_
    refine v_iload C 3 dX12_answerOf_264 rfl ?_
    refine v_if_ne C 273 dX12_answerOf_266 (by decide) (fun c8 => ?_) (fun c8 => ?_)
    · replace h := (ite_h h).2 c8
      refine v_iload C 4 dX12_answerOf_273 rfl ?_
      refine v_iload C 3 dX12_answerOf_275 rfl ?_
      obtain ⟨q7, hq7, h⟩ := Option.bind_eq_some_iff.mp h
      refine cs C [] (m_Mo_divided C.inj M a5 a4 q7 hq7) ci_Mo_divided lk_X12_187 (by decide) rfl rfl (Nat.le_of_ble_eq_true rfl) dX12_answerOf_277 ?_
      obtain rfl := Option.some.inj h
      exact v_iret C K dX12_answerOf_280
    · replace h := (ite_h h).1 c8
      refine v_iconst C (-1) dX12_answerOf_269 rfl ?_
      refine v_goto C 280 dX12_answerOf_270 (by decide) ?_
      obtain rfl := Option.some.inj h
      exact v_iret C K dX12_answerOf_280
  replace h := (ite_h h).2 c6
  by_cases c9 : (M 91 10) = 5
  · replace h := (ite_h h).1 c9
    refine v_tableIn C 281 dX12_answerOf_199 (by rw [c9]; decide) (by rw [c9]; decide) (by rw [c9]; rfl) (by decide) ?_
    refine v_iload_n C 2 dX12_answerOf_281 rfl ?_
    refine v_iconst C 1 dX12_answerOf_282 rfl ?_
    refine v_icmp_le C 291 dX12_answerOf_283 (by decide) (fun c10 => ?_) (fun c10 => ?_)
    · replace h := (ite_h h).1 c10
      refine v_iload C 7 dX12_answerOf_291 rfl ?_
      obtain rfl := Option.some.inj h
      exact v_iret C K dX12_answerOf_293
    · replace h := (ite_h h).2 c10
      refine v_bipush C (-2) dX12_answerOf_286 rfl ?_
      refine v_goto C 293 dX12_answerOf_288 (by decide) ?_
      obtain rfl := Option.some.inj h
      exact v_iret C K dX12_answerOf_293
  replace h := (ite_h h).2 c9
  by_cases c11 : (M 91 10) = 6
  · replace h := (ite_h h).1 c11
    refine v_tableIn C 294 dX12_answerOf_199 (by rw [c11]; decide) (by rw [c11]; decide) (by rw [c11]; rfl) (by decide) ?_
    refine v_iload_n C 2 dX12_answerOf_294 rfl ?_
    refine v_if_le C 302 dX12_answerOf_295 (by decide) (fun c12 => ?_) (fun c12 => ?_)
    · replace h := (ite_h h).1 c12
      refine v_iconst C 0 dX12_answerOf_302 rfl ?_
      obtain rfl := Option.some.inj h
      exact v_iret C K dX12_answerOf_303
    · replace h := (ite_h h).2 c12
      refine v_iconst C 1 dX12_answerOf_298 rfl ?_
      refine v_goto C 303 dX12_answerOf_299 (by decide) ?_
      obtain rfl := Option.some.inj h
      exact v_iret C K dX12_answerOf_303
  replace h := (ite_h h).2 c11
  by_cases c13 : (M 91 10) = 7
  · replace h := (ite_h h).1 c13
    refine v_tableIn C 304 dX12_answerOf_199 (by rw [c13]; decide) (by rw [c13]; decide) (by rw [c13]; rfl) (by decide) ?_
    refine v_iload C 0 dX12_answerOf_304 rfl ?_
    obtain rfl := Option.some.inj h
    exact v_iret C K dX12_answerOf_306
  replace h := (ite_h h).2 c13
  refine v_tableOut C 307 dX12_answerOf_199 (by
      have := ne_toInt c1 (0 : Int) rfl
      have := ne_toInt c2 (1 : Int) rfl
      have := ne_toInt c4 (2 : Int) rfl
      have := ne_toInt c5 (3 : Int) rfl
      have := ne_toInt c6 (4 : Int) rfl
      have := ne_toInt c9 (5 : Int) rfl
      have := ne_toInt c11 (6 : Int) rfl
      have := ne_toInt c13 (7 : Int) rfl
      omega) (by decide) ?_
  refine v_iload C 0 dX12_answerOf_307 rfl ?_
  refine v_iconst C (-1) dX12_answerOf_309 rfl ?_
  refine v_icmp_ne C 317 dX12_answerOf_310 (by decide) (fun c14 => ?_) (fun c14 => ?_)
  · replace h := (ite_h h).2 c14
    refine v_iconst C 1 dX12_answerOf_317 rfl ?_
    refine v_iload C 0 dX12_answerOf_318 rfl ?_
    refine v_isub C dX12_answerOf_320 ?_
    obtain rfl := Option.some.inj h
    exact v_iret C K dX12_answerOf_321
  · replace h := (ite_h h).1 c14
    refine v_iconst C (-1) dX12_answerOf_313 rfl ?_
    refine v_goto C 321 dX12_answerOf_314 (by decide) ?_
    obtain rfl := Option.some.inj h
    exact v_iret C K dX12_answerOf_321
def f_Mo_answerOf_b188 (a3 : Int32) (a4 : Int32) (a5 : Int32) (a6 : Int32) (a7 : Int32) (a8 : Int32) (M : Mem) : Option Int32 :=
  f_Mo_answerOf_b193 a3 a4 a5 a6 a7 a8 0 M
set_option maxRecDepth 20000 in
theorem v_Mo_answerOf_b188 {S : SE} {X : MX} {q : Int32} {a3 : Int32} {a4 : Int32} {a5 : Int32} {a6 : Int32} {a7 : Int32} {a8 : Int32} {M : Mem} (C : CX S X cX12_answerOf 12 RX12 2) (K : RT S X (some .int) (some (.int q)) M) (h : f_Mo_answerOf_b188 a3 a4 a5 a6 a7 a8 M = some q) : V S X 12 M 188 [(0, .ref (S.2.1 91)), (3, .int a3), (4, .int a4), (5, .int a5), (6, .int a6), (7, .int a7), (8, .int a8)] [] := by
  unfold f_Mo_answerOf_b188 at h
  refine v_iconst C 0 dX12_answerOf_188 rfl ?_
  refine v_goto C 193 dX12_answerOf_189 (by decide) ?_
  exact v_Mo_answerOf_b193 C K h
def f_Mo_answerOf_b192 (a3 : Int32) (a4 : Int32) (a5 : Int32) (a6 : Int32) (a7 : Int32) (a8 : Int32) (M : Mem) : Option Int32 :=
  f_Mo_answerOf_b193 a3 a4 a5 a6 a7 a8 (-1) M
set_option maxRecDepth 20000 in
theorem v_Mo_answerOf_b192 {S : SE} {X : MX} {q : Int32} {a3 : Int32} {a4 : Int32} {a5 : Int32} {a6 : Int32} {a7 : Int32} {a8 : Int32} {M : Mem} (C : CX S X cX12_answerOf 12 RX12 2) (K : RT S X (some .int) (some (.int q)) M) (h : f_Mo_answerOf_b192 a3 a4 a5 a6 a7 a8 M = some q) : V S X 12 M 192 [(0, .ref (S.2.1 91)), (3, .int a3), (4, .int a4), (5, .int a5), (6, .int a6), (7, .int a7), (8, .int a8)] [] := by
  unfold f_Mo_answerOf_b192 at h
  refine v_iconst C (-1) dX12_answerOf_192 rfl ?_
  exact v_Mo_answerOf_b193 C K h
def f_Mo_answerOf_b158 (k23 : Int32 → Int32 → Int32 → Int32 → Int32 → Int32 → Int32 → Int32 → Int32 → Int32 → Mem → Option Int32) (a1 : Int32) (a2 : Int32) (a3 : Int32) (a4 : Int32) (a5 : Int32) (a6 : Int32) (a7 : Int32) (a8 : Int32) (a9 : Int32) (a10 : Int32) (M : Mem) : Option Int32 :=
  k23 a1 a2 a3 a4 a5 a6 a7 a8 a9 (a10 + 1) M
set_option maxRecDepth 20000 in
theorem v_Mo_answerOf_b158 {S : SE} {X : MX} {q : Int32} {k23 : Int32 → Int32 → Int32 → Int32 → Int32 → Int32 → Int32 → Int32 → Int32 → Int32 → Mem → Option Int32} {a1 : Int32} {a2 : Int32} {a3 : Int32} {a4 : Int32} {a5 : Int32} {a6 : Int32} {a7 : Int32} {a8 : Int32} {a9 : Int32} {a10 : Int32} {M : Mem} (C : CX S X cX12_answerOf 12 RX12 2) (K : RT S X (some .int) (some (.int q)) M) (hk23 : ∀ (a1 : Int32) (a2 : Int32) (a3 : Int32) (a4 : Int32) (a5 : Int32) (a6 : Int32) (a7 : Int32) (a8 : Int32) (a9 : Int32) (a10 : Int32), k23 a1 a2 a3 a4 a5 a6 a7 a8 a9 a10 M = some q → V S X 12 M 23 [(0, .ref (S.2.1 91)), (1, .int a1), (2, .int a2), (3, .int a3), (4, .int a4), (5, .int a5), (6, .int a6), (7, .int a7), (8, .int a8), (9, .int a9), (10, .int a10)] []) (h : f_Mo_answerOf_b158 k23 a1 a2 a3 a4 a5 a6 a7 a8 a9 a10 M = some q) : V S X 12 M 158 [(0, .ref (S.2.1 91)), (1, .int a1), (2, .int a2), (3, .int a3), (4, .int a4), (5, .int a5), (6, .int a6), (7, .int a7), (8, .int a8), (9, .int a9), (10, .int a10)] [] := by
  unfold f_Mo_answerOf_b158 at h
  refine v_iinc C [(10, .int (a10 + 1)), (0, .ref (S.2.1 91)), (1, .int a1), (2, .int a2), (3, .int a3), (4, .int a4), (5, .int a5), (6, .int a6), (7, .int a7), (8, .int a8), (9, .int a9)] 10 (a10 + 1) dX12_answerOf_158 rfl rfl (by decide) rfl ?_
  refine v_goto C 23 dX12_answerOf_161 (by decide) ?_
  refine v_sub [1, 2, 3, 4, 5, 6, 7, 8, 9, 10, 0] rfl ?_
  exact hk23 _ _ _ _ _ _ _ _ _ _ h
def f_Mo_answerOf_b155 (k23 : Int32 → Int32 → Int32 → Int32 → Int32 → Int32 → Int32 → Int32 → Int32 → Int32 → Mem → Option Int32) (a1 : Int32) (a2 : Int32) (a3 : Int32) (a4 : Int32) (a5 : Int32) (a6 : Int32) (a7 : Int32) (a8 : Int32) (a10 : Int32) (s0 : Int32) (s1 : Int32) (M : Mem) : Option Int32 :=
  bnd (s1 + s0) fun x24 =>
  f_Mo_answerOf_b158 k23 a1 a2 a3 a4 a5 a6 a7 a8 x24 a10 M
set_option maxRecDepth 20000 in
theorem v_Mo_answerOf_b155 {S : SE} {X : MX} {q : Int32} {k23 : Int32 → Int32 → Int32 → Int32 → Int32 → Int32 → Int32 → Int32 → Int32 → Int32 → Mem → Option Int32} {a1 : Int32} {a2 : Int32} {a3 : Int32} {a4 : Int32} {a5 : Int32} {a6 : Int32} {a7 : Int32} {a8 : Int32} {a10 : Int32} {s0 : Int32} {s1 : Int32} {M : Mem} (C : CX S X cX12_answerOf 12 RX12 2) (K : RT S X (some .int) (some (.int q)) M) (hk23 : ∀ (a1 : Int32) (a2 : Int32) (a3 : Int32) (a4 : Int32) (a5 : Int32) (a6 : Int32) (a7 : Int32) (a8 : Int32) (a9 : Int32) (a10 : Int32), k23 a1 a2 a3 a4 a5 a6 a7 a8 a9 a10 M = some q → V S X 12 M 23 [(0, .ref (S.2.1 91)), (1, .int a1), (2, .int a2), (3, .int a3), (4, .int a4), (5, .int a5), (6, .int a6), (7, .int a7), (8, .int a8), (9, .int a9), (10, .int a10)] []) (h : f_Mo_answerOf_b155 k23 a1 a2 a3 a4 a5 a6 a7 a8 a10 s0 s1 M = some q) : V S X 12 M 155 [(0, .ref (S.2.1 91)), (1, .int a1), (2, .int a2), (3, .int a3), (4, .int a4), (5, .int a5), (6, .int a6), (7, .int a7), (8, .int a8), (10, .int a10)] [.int s0, .int s1] := by
  unfold f_Mo_answerOf_b155 at h
  refine v_iadd C dX12_answerOf_155 ?_
  refine v_nmi h (fun x24 h => ?_)
  refine v_istore C [(9, .int x24), (0, .ref (S.2.1 91)), (1, .int a1), (2, .int a2), (3, .int a3), (4, .int a4), (5, .int a5), (6, .int a6), (7, .int a7), (8, .int a8), (10, .int a10)] dX12_answerOf_156 (by decide) rfl ?_
  refine v_sub [1, 2, 3, 4, 5, 6, 7, 8, 9, 0, 10] rfl ?_
  exact v_Mo_answerOf_b158 C K hk23 h
def f_Mo_answerOf_b154 (k23 : Int32 → Int32 → Int32 → Int32 → Int32 → Int32 → Int32 → Int32 → Int32 → Int32 → Mem → Option Int32) (a1 : Int32) (a2 : Int32) (a3 : Int32) (a4 : Int32) (a5 : Int32) (a6 : Int32) (a7 : Int32) (a8 : Int32) (a10 : Int32) (s0 : Int32) (M : Mem) : Option Int32 :=
  f_Mo_answerOf_b155 k23 a1 a2 a3 a4 a5 a6 a7 a8 a10 0 s0 M
set_option maxRecDepth 20000 in
theorem v_Mo_answerOf_b154 {S : SE} {X : MX} {q : Int32} {k23 : Int32 → Int32 → Int32 → Int32 → Int32 → Int32 → Int32 → Int32 → Int32 → Int32 → Mem → Option Int32} {a1 : Int32} {a2 : Int32} {a3 : Int32} {a4 : Int32} {a5 : Int32} {a6 : Int32} {a7 : Int32} {a8 : Int32} {a10 : Int32} {s0 : Int32} {M : Mem} (C : CX S X cX12_answerOf 12 RX12 2) (K : RT S X (some .int) (some (.int q)) M) (hk23 : ∀ (a1 : Int32) (a2 : Int32) (a3 : Int32) (a4 : Int32) (a5 : Int32) (a6 : Int32) (a7 : Int32) (a8 : Int32) (a9 : Int32) (a10 : Int32), k23 a1 a2 a3 a4 a5 a6 a7 a8 a9 a10 M = some q → V S X 12 M 23 [(0, .ref (S.2.1 91)), (1, .int a1), (2, .int a2), (3, .int a3), (4, .int a4), (5, .int a5), (6, .int a6), (7, .int a7), (8, .int a8), (9, .int a9), (10, .int a10)] []) (h : f_Mo_answerOf_b154 k23 a1 a2 a3 a4 a5 a6 a7 a8 a10 s0 M = some q) : V S X 12 M 154 [(0, .ref (S.2.1 91)), (1, .int a1), (2, .int a2), (3, .int a3), (4, .int a4), (5, .int a5), (6, .int a6), (7, .int a7), (8, .int a8), (10, .int a10)] [.int s0] := by
  unfold f_Mo_answerOf_b154 at h
  refine v_iconst C 0 dX12_answerOf_154 rfl ?_
  exact v_Mo_answerOf_b155 C K hk23 h
def f_Mo_answerOf_b134 (k23 : Int32 → Int32 → Int32 → Int32 → Int32 → Int32 → Int32 → Int32 → Int32 → Int32 → Mem → Option Int32) (a1 : Int32) (a2 : Int32) (a3 : Int32) (a4 : Int32) (a5 : Int32) (a6 : Int32) (a8 : Int32) (a9 : Int32) (a10 : Int32) (a11 : Int32) (s0 : Int32) (M : Mem) : Option Int32 :=
  if a11 = (-1) then
    f_Mo_answerOf_b154 k23 a1 a2 a3 a4 a5 a6 s0 a8 a10 a9 M
  else
    if a11 = a2 then
      f_Mo_answerOf_b155 k23 a1 a2 a3 a4 a5 a6 s0 a8 a10 1 a9 M
    else
      f_Mo_answerOf_b154 k23 a1 a2 a3 a4 a5 a6 s0 a8 a10 a9 M
set_option maxRecDepth 20000 in
theorem v_Mo_answerOf_b134 {S : SE} {X : MX} {q : Int32} {k23 : Int32 → Int32 → Int32 → Int32 → Int32 → Int32 → Int32 → Int32 → Int32 → Int32 → Mem → Option Int32} {a1 : Int32} {a2 : Int32} {a3 : Int32} {a4 : Int32} {a5 : Int32} {a6 : Int32} {a8 : Int32} {a9 : Int32} {a10 : Int32} {a11 : Int32} {s0 : Int32} {M : Mem} (C : CX S X cX12_answerOf 12 RX12 2) (K : RT S X (some .int) (some (.int q)) M) (hk23 : ∀ (a1 : Int32) (a2 : Int32) (a3 : Int32) (a4 : Int32) (a5 : Int32) (a6 : Int32) (a7 : Int32) (a8 : Int32) (a9 : Int32) (a10 : Int32), k23 a1 a2 a3 a4 a5 a6 a7 a8 a9 a10 M = some q → V S X 12 M 23 [(0, .ref (S.2.1 91)), (1, .int a1), (2, .int a2), (3, .int a3), (4, .int a4), (5, .int a5), (6, .int a6), (7, .int a7), (8, .int a8), (9, .int a9), (10, .int a10)] []) (h : f_Mo_answerOf_b134 k23 a1 a2 a3 a4 a5 a6 a8 a9 a10 a11 s0 M = some q) : V S X 12 M 134 [(0, .ref (S.2.1 91)), (1, .int a1), (2, .int a2), (3, .int a3), (4, .int a4), (5, .int a5), (6, .int a6), (8, .int a8), (9, .int a9), (10, .int a10), (11, .int a11)] [.int s0] := by
  unfold f_Mo_answerOf_b134 at h
  refine v_istore C [(7, .int s0), (0, .ref (S.2.1 91)), (1, .int a1), (2, .int a2), (3, .int a3), (4, .int a4), (5, .int a5), (6, .int a6), (8, .int a8), (9, .int a9), (10, .int a10), (11, .int a11)] dX12_answerOf_134 (by decide) rfl ?_
  refine v_iload C 9 dX12_answerOf_136 rfl ?_
  refine v_iload C 11 dX12_answerOf_138 rfl ?_
  refine v_iconst C (-1) dX12_answerOf_140 rfl ?_
  refine v_icmp_eq C 154 dX12_answerOf_141 (by decide) (fun c26 => ?_) (fun c26 => ?_)
  · replace h := (ite_h h).1 c26
    refine v_sub [1, 2, 3, 4, 5, 6, 7, 0, 8, 10] rfl ?_
    exact v_Mo_answerOf_b154 C K hk23 h
  · replace h := (ite_h h).2 c26
    refine v_iload C 11 dX12_answerOf_144 rfl ?_
    refine v_iload_n C 3 dX12_answerOf_146 rfl ?_
    refine v_icmp_ne C 154 dX12_answerOf_147 (by decide) (fun c25 => ?_) (fun c25 => ?_)
    · replace h := (ite_h h).2 c25
      refine v_sub [1, 2, 3, 4, 5, 6, 7, 0, 8, 10] rfl ?_
      exact v_Mo_answerOf_b154 C K hk23 h
    · replace h := (ite_h h).1 c25
      refine v_iconst C 1 dX12_answerOf_150 rfl ?_
      refine v_goto C 155 dX12_answerOf_151 (by decide) ?_
      refine v_sub [1, 2, 3, 4, 5, 6, 7, 0, 8, 10] rfl ?_
      exact v_Mo_answerOf_b155 C K hk23 h
def f_Mo_answerOf_b118 (k23 : Int32 → Int32 → Int32 → Int32 → Int32 → Int32 → Int32 → Int32 → Int32 → Int32 → Mem → Option Int32) (a1 : Int32) (a2 : Int32) (a3 : Int32) (a4 : Int32) (a5 : Int32) (a7 : Int32) (a8 : Int32) (a9 : Int32) (a10 : Int32) (a11 : Int32) (s0 : Int32) (M : Mem) : Option Int32 :=
  if a11 ≤ a7 then
    f_Mo_answerOf_b134 k23 a1 a2 a3 a4 a5 s0 a8 a9 a10 a11 a7 M
  else
    f_Mo_answerOf_b134 k23 a1 a2 a3 a4 a5 s0 a8 a9 a10 a11 a11 M
set_option maxRecDepth 20000 in
theorem v_Mo_answerOf_b118 {S : SE} {X : MX} {q : Int32} {k23 : Int32 → Int32 → Int32 → Int32 → Int32 → Int32 → Int32 → Int32 → Int32 → Int32 → Mem → Option Int32} {a1 : Int32} {a2 : Int32} {a3 : Int32} {a4 : Int32} {a5 : Int32} {a7 : Int32} {a8 : Int32} {a9 : Int32} {a10 : Int32} {a11 : Int32} {s0 : Int32} {M : Mem} (C : CX S X cX12_answerOf 12 RX12 2) (K : RT S X (some .int) (some (.int q)) M) (hk23 : ∀ (a1 : Int32) (a2 : Int32) (a3 : Int32) (a4 : Int32) (a5 : Int32) (a6 : Int32) (a7 : Int32) (a8 : Int32) (a9 : Int32) (a10 : Int32), k23 a1 a2 a3 a4 a5 a6 a7 a8 a9 a10 M = some q → V S X 12 M 23 [(0, .ref (S.2.1 91)), (1, .int a1), (2, .int a2), (3, .int a3), (4, .int a4), (5, .int a5), (6, .int a6), (7, .int a7), (8, .int a8), (9, .int a9), (10, .int a10)] []) (h : f_Mo_answerOf_b118 k23 a1 a2 a3 a4 a5 a7 a8 a9 a10 a11 s0 M = some q) : V S X 12 M 118 [(0, .ref (S.2.1 91)), (1, .int a1), (2, .int a2), (3, .int a3), (4, .int a4), (5, .int a5), (7, .int a7), (8, .int a8), (9, .int a9), (10, .int a10), (11, .int a11)] [.int s0] := by
  unfold f_Mo_answerOf_b118 at h
  refine v_istore C [(6, .int s0), (0, .ref (S.2.1 91)), (1, .int a1), (2, .int a2), (3, .int a3), (4, .int a4), (5, .int a5), (7, .int a7), (8, .int a8), (9, .int a9), (10, .int a10), (11, .int a11)] dX12_answerOf_118 (by decide) rfl ?_
  refine v_iload C 11 dX12_answerOf_120 rfl ?_
  refine v_iload C 7 dX12_answerOf_122 rfl ?_
  refine v_icmp_le C 132 dX12_answerOf_124 (by decide) (fun c27 => ?_) (fun c27 => ?_)
  · replace h := (ite_h h).1 c27
    refine v_iload C 7 dX12_answerOf_132 rfl ?_
    refine v_sub [1, 2, 3, 4, 5, 6, 0, 8, 9, 10, 11] rfl ?_
    exact v_Mo_answerOf_b134 C K hk23 h
  · replace h := (ite_h h).2 c27
    refine v_iload C 11 dX12_answerOf_127 rfl ?_
    refine v_goto C 134 dX12_answerOf_129 (by decide) ?_
    refine v_sub [1, 2, 3, 4, 5, 6, 0, 8, 9, 10, 11] rfl ?_
    exact v_Mo_answerOf_b134 C K hk23 h
def f_Mo_answerOf_b116 (k23 : Int32 → Int32 → Int32 → Int32 → Int32 → Int32 → Int32 → Int32 → Int32 → Int32 → Mem → Option Int32) (a1 : Int32) (a2 : Int32) (a3 : Int32) (a4 : Int32) (a5 : Int32) (a6 : Int32) (a7 : Int32) (a8 : Int32) (a9 : Int32) (a10 : Int32) (a11 : Int32) (M : Mem) : Option Int32 :=
  f_Mo_answerOf_b118 k23 a1 a2 a3 a4 a5 a7 a8 a9 a10 a11 a6 M
set_option maxRecDepth 20000 in
theorem v_Mo_answerOf_b116 {S : SE} {X : MX} {q : Int32} {k23 : Int32 → Int32 → Int32 → Int32 → Int32 → Int32 → Int32 → Int32 → Int32 → Int32 → Mem → Option Int32} {a1 : Int32} {a2 : Int32} {a3 : Int32} {a4 : Int32} {a5 : Int32} {a6 : Int32} {a7 : Int32} {a8 : Int32} {a9 : Int32} {a10 : Int32} {a11 : Int32} {M : Mem} (C : CX S X cX12_answerOf 12 RX12 2) (K : RT S X (some .int) (some (.int q)) M) (hk23 : ∀ (a1 : Int32) (a2 : Int32) (a3 : Int32) (a4 : Int32) (a5 : Int32) (a6 : Int32) (a7 : Int32) (a8 : Int32) (a9 : Int32) (a10 : Int32), k23 a1 a2 a3 a4 a5 a6 a7 a8 a9 a10 M = some q → V S X 12 M 23 [(0, .ref (S.2.1 91)), (1, .int a1), (2, .int a2), (3, .int a3), (4, .int a4), (5, .int a5), (6, .int a6), (7, .int a7), (8, .int a8), (9, .int a9), (10, .int a10)] []) (h : f_Mo_answerOf_b116 k23 a1 a2 a3 a4 a5 a6 a7 a8 a9 a10 a11 M = some q) : V S X 12 M 116 [(0, .ref (S.2.1 91)), (1, .int a1), (2, .int a2), (3, .int a3), (4, .int a4), (5, .int a5), (6, .int a6), (7, .int a7), (8, .int a8), (9, .int a9), (10, .int a10), (11, .int a11)] [] := by
  unfold f_Mo_answerOf_b116 at h
  refine v_iload C 6 dX12_answerOf_116 rfl ?_
  refine v_sub [0, 1, 2, 3, 4, 5, 7, 8, 9, 10, 11] rfl ?_
  exact v_Mo_answerOf_b118 C K hk23 h
def f_Mo_answerOf_b111 (k23 : Int32 → Int32 → Int32 → Int32 → Int32 → Int32 → Int32 → Int32 → Int32 → Int32 → Mem → Option Int32) (a1 : Int32) (a2 : Int32) (a3 : Int32) (a4 : Int32) (a5 : Int32) (a7 : Int32) (a8 : Int32) (a9 : Int32) (a10 : Int32) (a11 : Int32) (M : Mem) : Option Int32 :=
  f_Mo_answerOf_b118 k23 a1 a2 a3 a4 a5 a7 a8 a9 a10 a11 a11 M
set_option maxRecDepth 20000 in
theorem v_Mo_answerOf_b111 {S : SE} {X : MX} {q : Int32} {k23 : Int32 → Int32 → Int32 → Int32 → Int32 → Int32 → Int32 → Int32 → Int32 → Int32 → Mem → Option Int32} {a1 : Int32} {a2 : Int32} {a3 : Int32} {a4 : Int32} {a5 : Int32} {a7 : Int32} {a8 : Int32} {a9 : Int32} {a10 : Int32} {a11 : Int32} {M : Mem} (C : CX S X cX12_answerOf 12 RX12 2) (K : RT S X (some .int) (some (.int q)) M) (hk23 : ∀ (a1 : Int32) (a2 : Int32) (a3 : Int32) (a4 : Int32) (a5 : Int32) (a6 : Int32) (a7 : Int32) (a8 : Int32) (a9 : Int32) (a10 : Int32), k23 a1 a2 a3 a4 a5 a6 a7 a8 a9 a10 M = some q → V S X 12 M 23 [(0, .ref (S.2.1 91)), (1, .int a1), (2, .int a2), (3, .int a3), (4, .int a4), (5, .int a5), (6, .int a6), (7, .int a7), (8, .int a8), (9, .int a9), (10, .int a10)] []) (h : f_Mo_answerOf_b111 k23 a1 a2 a3 a4 a5 a7 a8 a9 a10 a11 M = some q) : V S X 12 M 111 [(0, .ref (S.2.1 91)), (1, .int a1), (2, .int a2), (3, .int a3), (4, .int a4), (5, .int a5), (7, .int a7), (8, .int a8), (9, .int a9), (10, .int a10), (11, .int a11)] [] := by
  unfold f_Mo_answerOf_b111 at h
  refine v_iload C 10 dX12_answerOf_111 rfl ?_
  refine v_goto C 118 dX12_answerOf_113 (by decide) ?_
  exact v_Mo_answerOf_b118 C K hk23 h
def f_Mo_answerOf_b89 (k23 : Int32 → Int32 → Int32 → Int32 → Int32 → Int32 → Int32 → Int32 → Int32 → Int32 → Mem → Option Int32) (a1 : Int32) (a2 : Int32) (a3 : Int32) (a4 : Int32) (a6 : Int32) (a7 : Int32) (a8 : Int32) (a9 : Int32) (a10 : Int32) (a11 : Int32) (s0 : Int32) (s1 : Int32) (M : Mem) : Option Int32 :=
  bnd (s1 + s0) fun x23 =>
  if a11 = (-1) then
    f_Mo_answerOf_b116 k23 a1 a2 a3 a4 x23 a6 a7 a8 a9 a10 a11 M
  else
    if a6 = (-1) then
      f_Mo_answerOf_b111 k23 a1 a2 a3 a4 x23 a7 a8 a9 a10 a11 M
    else
      if a6 ≤ a11 then
        f_Mo_answerOf_b116 k23 a1 a2 a3 a4 x23 a6 a7 a8 a9 a10 a11 M
      else
        f_Mo_answerOf_b111 k23 a1 a2 a3 a4 x23 a7 a8 a9 a10 a11 M
set_option maxRecDepth 20000 in
theorem v_Mo_answerOf_b89 {S : SE} {X : MX} {q : Int32} {k23 : Int32 → Int32 → Int32 → Int32 → Int32 → Int32 → Int32 → Int32 → Int32 → Int32 → Mem → Option Int32} {a1 : Int32} {a2 : Int32} {a3 : Int32} {a4 : Int32} {a6 : Int32} {a7 : Int32} {a8 : Int32} {a9 : Int32} {a10 : Int32} {a11 : Int32} {s0 : Int32} {s1 : Int32} {M : Mem} (C : CX S X cX12_answerOf 12 RX12 2) (K : RT S X (some .int) (some (.int q)) M) (hk23 : ∀ (a1 : Int32) (a2 : Int32) (a3 : Int32) (a4 : Int32) (a5 : Int32) (a6 : Int32) (a7 : Int32) (a8 : Int32) (a9 : Int32) (a10 : Int32), k23 a1 a2 a3 a4 a5 a6 a7 a8 a9 a10 M = some q → V S X 12 M 23 [(0, .ref (S.2.1 91)), (1, .int a1), (2, .int a2), (3, .int a3), (4, .int a4), (5, .int a5), (6, .int a6), (7, .int a7), (8, .int a8), (9, .int a9), (10, .int a10)] []) (h : f_Mo_answerOf_b89 k23 a1 a2 a3 a4 a6 a7 a8 a9 a10 a11 s0 s1 M = some q) : V S X 12 M 89 [(0, .ref (S.2.1 91)), (1, .int a1), (2, .int a2), (3, .int a3), (4, .int a4), (6, .int a6), (7, .int a7), (8, .int a8), (9, .int a9), (10, .int a10), (11, .int a11)] [.int s0, .int s1] := by
  unfold f_Mo_answerOf_b89 at h
  refine v_iadd C dX12_answerOf_89 ?_
  refine v_nmi h (fun x23 h => ?_)
  refine v_istore C [(5, .int x23), (0, .ref (S.2.1 91)), (1, .int a1), (2, .int a2), (3, .int a3), (4, .int a4), (6, .int a6), (7, .int a7), (8, .int a8), (9, .int a9), (10, .int a10), (11, .int a11)] dX12_answerOf_90 (by decide) rfl ?_
  refine v_iload C 11 dX12_answerOf_92 rfl ?_
  refine v_iconst C (-1) dX12_answerOf_94 rfl ?_
  refine v_icmp_eq C 116 dX12_answerOf_95 (by decide) (fun c30 => ?_) (fun c30 => ?_)
  · replace h := (ite_h h).1 c30
    refine v_sub [1, 2, 3, 4, 5, 0, 6, 7, 8, 9, 10, 11] rfl ?_
    exact v_Mo_answerOf_b116 C K hk23 h
  · replace h := (ite_h h).2 c30
    refine v_iload C 6 dX12_answerOf_98 rfl ?_
    refine v_iconst C (-1) dX12_answerOf_100 rfl ?_
    refine v_icmp_eq C 111 dX12_answerOf_101 (by decide) (fun c29 => ?_) (fun c29 => ?_)
    · replace h := (ite_h h).1 c29
      refine v_sub [1, 2, 3, 4, 5, 0, 7, 8, 9, 10, 11] rfl ?_
      exact v_Mo_answerOf_b111 C K hk23 h
    · replace h := (ite_h h).2 c29
      refine v_iload C 11 dX12_answerOf_104 rfl ?_
      refine v_iload C 6 dX12_answerOf_106 rfl ?_
      refine v_icmp_ge C 116 dX12_answerOf_108 (by decide) (fun c28 => ?_) (fun c28 => ?_)
      · replace h := (ite_h h).1 c28
        refine v_sub [1, 2, 3, 4, 5, 0, 6, 7, 8, 9, 10, 11] rfl ?_
        exact v_Mo_answerOf_b116 C K hk23 h
      · replace h := (ite_h h).2 c28
        refine v_sub [1, 2, 3, 4, 5, 0, 7, 8, 9, 10, 11] rfl ?_
        exact v_Mo_answerOf_b111 C K hk23 h
def f_Mo_answerOf_b72 (k23 : Int32 → Int32 → Int32 → Int32 → Int32 → Int32 → Int32 → Int32 → Int32 → Int32 → Mem → Option Int32) (a1 : Int32) (a2 : Int32) (a3 : Int32) (a5 : Int32) (a6 : Int32) (a7 : Int32) (a8 : Int32) (a9 : Int32) (a10 : Int32) (a11 : Int32) (s0 : Int32) (s1 : Int32) (M : Mem) : Option Int32 :=
  bnd (s1 + s0) fun x22 =>
  if a11 = (-1) then
    f_Mo_answerOf_b89 k23 a1 a2 a3 x22 a6 a7 a8 a9 a10 a11 0 a5 M
  else
    f_Mo_answerOf_b89 k23 a1 a2 a3 x22 a6 a7 a8 a9 a10 a11 a11 a5 M
set_option maxRecDepth 20000 in
theorem v_Mo_answerOf_b72 {S : SE} {X : MX} {q : Int32} {k23 : Int32 → Int32 → Int32 → Int32 → Int32 → Int32 → Int32 → Int32 → Int32 → Int32 → Mem → Option Int32} {a1 : Int32} {a2 : Int32} {a3 : Int32} {a5 : Int32} {a6 : Int32} {a7 : Int32} {a8 : Int32} {a9 : Int32} {a10 : Int32} {a11 : Int32} {s0 : Int32} {s1 : Int32} {M : Mem} (C : CX S X cX12_answerOf 12 RX12 2) (K : RT S X (some .int) (some (.int q)) M) (hk23 : ∀ (a1 : Int32) (a2 : Int32) (a3 : Int32) (a4 : Int32) (a5 : Int32) (a6 : Int32) (a7 : Int32) (a8 : Int32) (a9 : Int32) (a10 : Int32), k23 a1 a2 a3 a4 a5 a6 a7 a8 a9 a10 M = some q → V S X 12 M 23 [(0, .ref (S.2.1 91)), (1, .int a1), (2, .int a2), (3, .int a3), (4, .int a4), (5, .int a5), (6, .int a6), (7, .int a7), (8, .int a8), (9, .int a9), (10, .int a10)] []) (h : f_Mo_answerOf_b72 k23 a1 a2 a3 a5 a6 a7 a8 a9 a10 a11 s0 s1 M = some q) : V S X 12 M 72 [(0, .ref (S.2.1 91)), (1, .int a1), (2, .int a2), (3, .int a3), (5, .int a5), (6, .int a6), (7, .int a7), (8, .int a8), (9, .int a9), (10, .int a10), (11, .int a11)] [.int s0, .int s1] := by
  unfold f_Mo_answerOf_b72 at h
  refine v_iadd C dX12_answerOf_72 ?_
  refine v_nmi h (fun x22 h => ?_)
  refine v_istore C [(4, .int x22), (0, .ref (S.2.1 91)), (1, .int a1), (2, .int a2), (3, .int a3), (5, .int a5), (6, .int a6), (7, .int a7), (8, .int a8), (9, .int a9), (10, .int a10), (11, .int a11)] dX12_answerOf_73 (by decide) rfl ?_
  refine v_iload C 5 dX12_answerOf_75 rfl ?_
  refine v_iload C 11 dX12_answerOf_77 rfl ?_
  refine v_iconst C (-1) dX12_answerOf_79 rfl ?_
  refine v_icmp_ne C 87 dX12_answerOf_80 (by decide) (fun c31 => ?_) (fun c31 => ?_)
  · replace h := (ite_h h).2 c31
    refine v_iload C 11 dX12_answerOf_87 rfl ?_
    refine v_sub [1, 2, 3, 4, 0, 6, 7, 8, 9, 10, 11] rfl ?_
    exact v_Mo_answerOf_b89 C K hk23 h
  · replace h := (ite_h h).1 c31
    refine v_iconst C 0 dX12_answerOf_83 rfl ?_
    refine v_goto C 89 dX12_answerOf_84 (by decide) ?_
    refine v_sub [1, 2, 3, 4, 0, 6, 7, 8, 9, 10, 11] rfl ?_
    exact v_Mo_answerOf_b89 C K hk23 h
def f_Mo_answerOf_l23B (k23 : Int32 → Int32 → Int32 → Int32 → Int32 → Int32 → Int32 → Int32 → Int32 → Int32 → Mem → Option Int32) (a1 : Int32) (a2 : Int32) (a3 : Int32) (a4 : Int32) (a5 : Int32) (a6 : Int32) (a7 : Int32) (a8 : Int32) (a9 : Int32) (a10 : Int32) (M : Mem) : Option Int32 :=
  if (M 91 21) ≤ a10 then
    if a9 ≤ 0 then
      if a3 = 0 then
        f_Mo_answerOf_b188 a3 a4 a5 a6 a7 a8 M
      else
        if a2 = (-1) then
          f_Mo_answerOf_b192 a3 a4 a5 a6 a7 a8 M
        else
          if a4 = a3 then
            f_Mo_answerOf_b188 a3 a4 a5 a6 a7 a8 M
          else
            f_Mo_answerOf_b192 a3 a4 a5 a6 a7 a8 M
    else
      f_Mo_answerOf_b193 a3 a4 a5 a6 a7 a8 1 M
  else
    if gin a10 300 then
      if (M 110 a10.toNatClampNeg) = a1 then
        if gin a10 300 then
          bnd (M 109 a10.toNatClampNeg) fun x21 =>
          if x21 = (-1) then
            f_Mo_answerOf_b72 k23 a1 a2 (a3 + 1) a5 a6 a7 x21 a9 a10 x21 0 a4 M
          else
            f_Mo_answerOf_b72 k23 a1 a2 (a3 + 1) a5 a6 a7 x21 a9 a10 x21 1 a4 M
        else none
      else
        f_Mo_answerOf_b158 k23 a1 a2 a3 a4 a5 a6 a7 a8 a9 a10 M
    else none
set_option maxRecDepth 20000 in
theorem v_Mo_answerOf_l23B {S : SE} {X : MX} {q : Int32} {k23 : Int32 → Int32 → Int32 → Int32 → Int32 → Int32 → Int32 → Int32 → Int32 → Int32 → Mem → Option Int32} {a1 : Int32} {a2 : Int32} {a3 : Int32} {a4 : Int32} {a5 : Int32} {a6 : Int32} {a7 : Int32} {a8 : Int32} {a9 : Int32} {a10 : Int32} {M : Mem} (C : CX S X cX12_answerOf 12 RX12 2) (K : RT S X (some .int) (some (.int q)) M) (hk23 : ∀ (a1 : Int32) (a2 : Int32) (a3 : Int32) (a4 : Int32) (a5 : Int32) (a6 : Int32) (a7 : Int32) (a8 : Int32) (a9 : Int32) (a10 : Int32), k23 a1 a2 a3 a4 a5 a6 a7 a8 a9 a10 M = some q → V S X 12 M 23 [(0, .ref (S.2.1 91)), (1, .int a1), (2, .int a2), (3, .int a3), (4, .int a4), (5, .int a5), (6, .int a6), (7, .int a7), (8, .int a8), (9, .int a9), (10, .int a10)] []) (h : f_Mo_answerOf_l23B k23 a1 a2 a3 a4 a5 a6 a7 a8 a9 a10 M = some q) : V S X 12 M 23 [(0, .ref (S.2.1 91)), (1, .int a1), (2, .int a2), (3, .int a3), (4, .int a4), (5, .int a5), (6, .int a6), (7, .int a7), (8, .int a8), (9, .int a9), (10, .int a10)] [] := by
  unfold f_Mo_answerOf_l23B at h
  refine v_iload C 10 dX12_answerOf_23 rfl ?_
  refine v_aload_n C 0 dX12_answerOf_25 rfl ?_
  refine g_Mo_outMany C kk91 fl_X12_178 dX12_answerOf_26 ?_
  refine v_icmp_ge C 164 dX12_answerOf_29 (by decide) (fun c34 => ?_) (fun c34 => ?_)
  · replace h := (ite_h h).1 c34
    refine v_iload C 9 dX12_answerOf_164 rfl ?_
    refine v_if_le C 173 dX12_answerOf_166 (by decide) (fun c18 => ?_) (fun c18 => ?_)
    · replace h := (ite_h h).1 c18
      refine v_iload_n C 3 dX12_answerOf_173 rfl ?_
      refine v_if_eq C 188 dX12_answerOf_174 (by decide) (fun c17 => ?_) (fun c17 => ?_)
      · replace h := (ite_h h).1 c17
        refine v_sub [0, 3, 4, 5, 6, 7, 8] rfl ?_
        exact v_Mo_answerOf_b188 C K h
      · replace h := (ite_h h).2 c17
        refine v_iload_n C 2 dX12_answerOf_177 rfl ?_
        refine v_iconst C (-1) dX12_answerOf_178 rfl ?_
        refine v_icmp_eq C 192 dX12_answerOf_179 (by decide) (fun c16 => ?_) (fun c16 => ?_)
        · replace h := (ite_h h).1 c16
          refine v_sub [0, 3, 4, 5, 6, 7, 8] rfl ?_
          exact v_Mo_answerOf_b192 C K h
        · replace h := (ite_h h).2 c16
          refine v_iload C 4 dX12_answerOf_182 rfl ?_
          refine v_iload_n C 3 dX12_answerOf_184 rfl ?_
          refine v_icmp_ne C 192 dX12_answerOf_185 (by decide) (fun c15 => ?_) (fun c15 => ?_)
          · replace h := (ite_h h).2 c15
            refine v_sub [0, 3, 4, 5, 6, 7, 8] rfl ?_
            exact v_Mo_answerOf_b192 C K h
          · replace h := (ite_h h).1 c15
            refine v_sub [0, 3, 4, 5, 6, 7, 8] rfl ?_
            exact v_Mo_answerOf_b188 C K h
    · replace h := (ite_h h).2 c18
      refine v_iconst C 1 dX12_answerOf_169 rfl ?_
      refine v_goto C 193 dX12_answerOf_170 (by decide) ?_
      refine v_sub [0, 3, 4, 5, 6, 7, 8] rfl ?_
      exact v_Mo_answerOf_b193 C K h
  · replace h := (ite_h h).2 c34
    refine v_aload_n C 0 dX12_answerOf_32 rfl ?_
    refine g_Mo_outPair C kk91 fl_X12_64 dX12_answerOf_33 ?_
    refine v_iload C 10 dX12_answerOf_36 rfl ?_
    obtain ⟨g19, h⟩ := gd_h h
    refine v_iald C kk110 ll110 g19 dX12_answerOf_38 ?_
    refine v_iload_n C 1 dX12_answerOf_39 rfl ?_
    refine v_icmp_ne C 158 dX12_answerOf_40 (by decide) (fun c33 => ?_) (fun c33 => ?_)
    · replace h := (ite_h h).2 c33
      exact v_Mo_answerOf_b158 C K hk23 h
    · replace h := (ite_h h).1 c33
      refine v_aload_n C 0 dX12_answerOf_43 rfl ?_
      refine g_Mo_outV C kk91 fl_X12_61 dX12_answerOf_44 ?_
      refine v_iload C 10 dX12_answerOf_47 rfl ?_
      obtain ⟨g20, h⟩ := gd_h h
      refine v_iald C kk109 ll109 g20 dX12_answerOf_49 ?_
      refine v_nmi h (fun x21 h => ?_)
      refine v_istore C [(11, .int x21), (0, .ref (S.2.1 91)), (1, .int a1), (2, .int a2), (3, .int a3), (4, .int a4), (5, .int a5), (6, .int a6), (7, .int a7), (8, .int a8), (9, .int a9), (10, .int a10)] dX12_answerOf_50 (by decide) rfl ?_
      refine v_iinc C [(3, .int (a3 + 1)), (11, .int x21), (0, .ref (S.2.1 91)), (1, .int a1), (2, .int a2), (4, .int a4), (5, .int a5), (6, .int a6), (7, .int a7), (8, .int a8), (9, .int a9), (10, .int a10)] 4 (a3 + 1) dX12_answerOf_52 rfl rfl (by decide) rfl ?_
      refine v_iload C 1 dX12_answerOf_55 rfl ?_
      refine v_istore C [(8, .int x21), (3, .int (a3 + 1)), (11, .int x21), (0, .ref (S.2.1 91)), (1, .int a1), (2, .int a2), (4, .int a4), (5, .int a5), (6, .int a6), (7, .int a7), (9, .int a9), (10, .int a10)] dX12_answerOf_57 (by decide) rfl ?_
      refine v_iload C 6 dX12_answerOf_59 rfl ?_
      refine v_iload C 2 dX12_answerOf_61 rfl ?_
      refine v_iconst C (-1) dX12_answerOf_63 rfl ?_
      refine v_icmp_ne C 71 dX12_answerOf_64 (by decide) (fun c32 => ?_) (fun c32 => ?_)
      · replace h := (ite_h h).2 c32
        refine v_iconst C 1 dX12_answerOf_71 rfl ?_
        refine v_sub [3, 4, 5, 1, 7, 8, 9, 0, 10, 11, 2] rfl ?_
        exact v_Mo_answerOf_b72 C K hk23 h
      · replace h := (ite_h h).1 c32
        refine v_iconst C 0 dX12_answerOf_67 rfl ?_
        refine v_goto C 72 dX12_answerOf_68 (by decide) ?_
        refine v_sub [3, 4, 5, 1, 7, 8, 9, 0, 10, 11, 2] rfl ?_
        exact v_Mo_answerOf_b72 C K hk23 h
def f_Mo_answerOf_l23 : Nat → Int32 → Int32 → Int32 → Int32 → Int32 → Int32 → Int32 → Int32 → Int32 → Int32 → Mem → Option Int32
  | 0, _, _, _, _, _, _, _, _, _, _, _ => none
  | n + 1, a1, a2, a3, a4, a5, a6, a7, a8, a9, a10, M => f_Mo_answerOf_l23B (f_Mo_answerOf_l23 n) a1 a2 a3 a4 a5 a6 a7 a8 a9 a10 M
theorem v_Mo_answerOf_l23 {S : SE} {X : MX} {q : Int32} {M : Mem} (C : CX S X cX12_answerOf 12 RX12 2) (K : RT S X (some .int) (some (.int q)) M) : ∀ (n : Nat) (a1 : Int32) (a2 : Int32) (a3 : Int32) (a4 : Int32) (a5 : Int32) (a6 : Int32) (a7 : Int32) (a8 : Int32) (a9 : Int32) (a10 : Int32), f_Mo_answerOf_l23 n a1 a2 a3 a4 a5 a6 a7 a8 a9 a10 M = some q → V S X 12 M 23 [(0, .ref (S.2.1 91)), (1, .int a1), (2, .int a2), (3, .int a3), (4, .int a4), (5, .int a5), (6, .int a6), (7, .int a7), (8, .int a8), (9, .int a9), (10, .int a10)] [] := by
  intro n
  induction n with
  | zero => intro a1 a2 a3 a4 a5 a6 a7 a8 a9 a10 h; cases h
  | succ n ih => intro a1 a2 a3 a4 a5 a6 a7 a8 a9 a10 h; exact v_Mo_answerOf_l23B C K ih h
def f_Mo_answerOf (M : Mem) (a1 : Int32) (a2 : Int32) : Option Int32 :=
  f_Mo_answerOf_l23 FU a1 a2 0 0 0 (-1) (-1) (-1) 0 0 M
set_option maxRecDepth 20000 in
theorem v_Mo_answerOf {S : SE} {X : MX} {q : Int32} {M : Mem} {a1 : Int32} {a2 : Int32} (C : CX S X cX12_answerOf 12 RX12 2) (K : RT S X (some .int) (some (.int q)) M) (h : f_Mo_answerOf M a1 a2 = some q) : V S X 12 M 0 [(0, .ref (S.2.1 91)), (1, .int a1), (2, .int a2)] [] := by
  unfold f_Mo_answerOf at h
  refine v_iconst C 0 dX12_answerOf_0 rfl ?_
  refine v_istore_n C [(3, .int 0), (0, .ref (S.2.1 91)), (1, .int a1), (2, .int a2)] dX12_answerOf_1 (by decide) rfl ?_
  refine v_iconst C 0 dX12_answerOf_2 rfl ?_
  refine v_istore C [(4, .int 0), (3, .int 0), (0, .ref (S.2.1 91)), (1, .int a1), (2, .int a2)] dX12_answerOf_3 (by decide) rfl ?_
  refine v_iconst C 0 dX12_answerOf_5 rfl ?_
  refine v_istore C [(5, .int 0), (4, .int 0), (3, .int 0), (0, .ref (S.2.1 91)), (1, .int a1), (2, .int a2)] dX12_answerOf_6 (by decide) rfl ?_
  refine v_iconst C (-1) dX12_answerOf_8 rfl ?_
  refine v_istore C [(6, .int (-1)), (5, .int 0), (4, .int 0), (3, .int 0), (0, .ref (S.2.1 91)), (1, .int a1), (2, .int a2)] dX12_answerOf_9 (by decide) rfl ?_
  refine v_iconst C (-1) dX12_answerOf_11 rfl ?_
  refine v_istore C [(7, .int (-1)), (6, .int (-1)), (5, .int 0), (4, .int 0), (3, .int 0), (0, .ref (S.2.1 91)), (1, .int a1), (2, .int a2)] dX12_answerOf_12 (by decide) rfl ?_
  refine v_iconst C (-1) dX12_answerOf_14 rfl ?_
  refine v_istore C [(8, .int (-1)), (7, .int (-1)), (6, .int (-1)), (5, .int 0), (4, .int 0), (3, .int 0), (0, .ref (S.2.1 91)), (1, .int a1), (2, .int a2)] dX12_answerOf_15 (by decide) rfl ?_
  refine v_iconst C 0 dX12_answerOf_17 rfl ?_
  refine v_istore C [(9, .int 0), (8, .int (-1)), (7, .int (-1)), (6, .int (-1)), (5, .int 0), (4, .int 0), (3, .int 0), (0, .ref (S.2.1 91)), (1, .int a1), (2, .int a2)] dX12_answerOf_18 (by decide) rfl ?_
  refine v_iconst C 0 dX12_answerOf_20 rfl ?_
  refine v_istore C [(10, .int 0), (9, .int 0), (8, .int (-1)), (7, .int (-1)), (6, .int (-1)), (5, .int 0), (4, .int 0), (3, .int 0), (0, .ref (S.2.1 91)), (1, .int a1), (2, .int a2)] dX12_answerOf_21 (by decide) rfl ?_
  refine v_sub [8, 9, 10, 7, 6, 5, 4, 3, 2, 1, 0] rfl ?_
  exact v_Mo_answerOf_l23 C K FU _ _ _ _ _ _ _ _ _ _ h
theorem m_Mo_answerOf {S : SE} (hI : Inj S) (M : Mem) (a1 : Int32) (a2 : Int32) (q : Int32) (h : f_Mo_answerOf M a1 a2 = some q) : CM S yX12_answerOf cX12_answerOf 12 (some .int) 2 [.ref (S.2.1 91), .int a1, .int a2] M (some (.int q)) M :=
  CM.of [(0, .ref (S.2.1 91)), (1, .int a1), (2, .int a2)] hI (by decide) rfl (Nat.le_of_ble_eq_true rfl) (fun X C K => v_Mo_answerOf C K  h)
def f_Mo_isNew_b114 (a5 : Int32) (M : Mem) : Option (Int32 × Mem) :=
  if a5 = 0 ∨ a5 = 1 then
    some (a5, M)
  else none
set_option maxRecDepth 20000 in
theorem v_Mo_isNew_b114 {S : SE} {X : MX} {q : (Int32 × Mem)} {a5 : Int32} {M : Mem} (C : CX S X cX12_isNew 7 RX12 0) (K : RT S X (some .boolean) (some (.int q.1)) q.2) (h : f_Mo_isNew_b114 a5 M = some q) : V S X 7 M 114 [(5, .int a5)] [] := by
  unfold f_Mo_isNew_b114 at h
  refine v_iload C 0 dX12_isNew_114 rfl ?_
  obtain ⟨g3, h⟩ := gd_h h
  obtain rfl := Option.some.inj h
  exact v_zret C g3 K dX12_isNew_116
def f_Mo_isNew_b61 (k12 : Int32 → Int32 → Int32 → Int32 → Int32 → Int32 → Mem → Option (Int32 × Mem)) (a1 : Int32) (a2 : Int32) (a3 : Int32) (a4 : Int32) (a6 : Int32) (s0 : Int32) (M : Mem) : Option (Int32 × Mem) :=
  k12 a1 a2 a3 a4 s0 (a6 + 1) M
set_option maxRecDepth 20000 in
theorem v_Mo_isNew_b61 {S : SE} {X : MX} {q : (Int32 × Mem)} {k12 : Int32 → Int32 → Int32 → Int32 → Int32 → Int32 → Mem → Option (Int32 × Mem)} {a1 : Int32} {a2 : Int32} {a3 : Int32} {a4 : Int32} {a6 : Int32} {s0 : Int32} {M : Mem} (C : CX S X cX12_isNew 7 RX12 0) (K : RT S X (some .boolean) (some (.int q.1)) q.2) (hk12 : ∀ (a1 : Int32) (a2 : Int32) (a3 : Int32) (a4 : Int32) (a5 : Int32) (a6 : Int32) (M : Mem), k12 a1 a2 a3 a4 a5 a6 M = some q → V S X 7 M 12 [(0, .ref (S.2.1 91)), (1, .int a1), (2, .int a2), (3, .int a3), (4, .int a4), (5, .int a5), (6, .int a6)] []) (h : f_Mo_isNew_b61 k12 a1 a2 a3 a4 a6 s0 M = some q) : V S X 7 M 61 [(0, .ref (S.2.1 91)), (1, .int a1), (2, .int a2), (3, .int a3), (4, .int a4), (6, .int a6)] [.int s0] := by
  unfold f_Mo_isNew_b61 at h
  refine v_istore C [(5, .int s0), (0, .ref (S.2.1 91)), (1, .int a1), (2, .int a2), (3, .int a3), (4, .int a4), (6, .int a6)] dX12_isNew_61 (by decide) rfl ?_
  refine v_iinc C [(6, .int (a6 + 1)), (5, .int s0), (0, .ref (S.2.1 91)), (1, .int a1), (2, .int a2), (3, .int a3), (4, .int a4)] 6 (a6 + 1) dX12_isNew_63 rfl rfl (by decide) rfl ?_
  refine v_goto C 12 dX12_isNew_66 (by decide) ?_
  refine v_sub [2, 3, 4, 5, 6, 1, 0] rfl ?_
  exact hk12 _ _ _ _ _ _ _ h
def f_Mo_isNew_b60 (k12 : Int32 → Int32 → Int32 → Int32 → Int32 → Int32 → Mem → Option (Int32 × Mem)) (a1 : Int32) (a2 : Int32) (a3 : Int32) (a4 : Int32) (a6 : Int32) (M : Mem) : Option (Int32 × Mem) :=
  f_Mo_isNew_b61 k12 a1 a2 a3 a4 a6 0 M
set_option maxRecDepth 20000 in
theorem v_Mo_isNew_b60 {S : SE} {X : MX} {q : (Int32 × Mem)} {k12 : Int32 → Int32 → Int32 → Int32 → Int32 → Int32 → Mem → Option (Int32 × Mem)} {a1 : Int32} {a2 : Int32} {a3 : Int32} {a4 : Int32} {a6 : Int32} {M : Mem} (C : CX S X cX12_isNew 7 RX12 0) (K : RT S X (some .boolean) (some (.int q.1)) q.2) (hk12 : ∀ (a1 : Int32) (a2 : Int32) (a3 : Int32) (a4 : Int32) (a5 : Int32) (a6 : Int32) (M : Mem), k12 a1 a2 a3 a4 a5 a6 M = some q → V S X 7 M 12 [(0, .ref (S.2.1 91)), (1, .int a1), (2, .int a2), (3, .int a3), (4, .int a4), (5, .int a5), (6, .int a6)] []) (h : f_Mo_isNew_b60 k12 a1 a2 a3 a4 a6 M = some q) : V S X 7 M 60 [(0, .ref (S.2.1 91)), (1, .int a1), (2, .int a2), (3, .int a3), (4, .int a4), (6, .int a6)] [] := by
  unfold f_Mo_isNew_b60 at h
  refine v_iconst C 0 dX12_isNew_60 rfl ?_
  exact v_Mo_isNew_b61 C K hk12 h
def f_Mo_isNew_b56 (k12 : Int32 → Int32 → Int32 → Int32 → Int32 → Int32 → Mem → Option (Int32 × Mem)) (a1 : Int32) (a2 : Int32) (a3 : Int32) (a4 : Int32) (a6 : Int32) (M : Mem) : Option (Int32 × Mem) :=
  f_Mo_isNew_b61 k12 a1 a2 a3 a4 a6 1 M
set_option maxRecDepth 20000 in
theorem v_Mo_isNew_b56 {S : SE} {X : MX} {q : (Int32 × Mem)} {k12 : Int32 → Int32 → Int32 → Int32 → Int32 → Int32 → Mem → Option (Int32 × Mem)} {a1 : Int32} {a2 : Int32} {a3 : Int32} {a4 : Int32} {a6 : Int32} {M : Mem} (C : CX S X cX12_isNew 7 RX12 0) (K : RT S X (some .boolean) (some (.int q.1)) q.2) (hk12 : ∀ (a1 : Int32) (a2 : Int32) (a3 : Int32) (a4 : Int32) (a5 : Int32) (a6 : Int32) (M : Mem), k12 a1 a2 a3 a4 a5 a6 M = some q → V S X 7 M 12 [(0, .ref (S.2.1 91)), (1, .int a1), (2, .int a2), (3, .int a3), (4, .int a4), (5, .int a5), (6, .int a6)] []) (h : f_Mo_isNew_b56 k12 a1 a2 a3 a4 a6 M = some q) : V S X 7 M 56 [(0, .ref (S.2.1 91)), (1, .int a1), (2, .int a2), (3, .int a3), (4, .int a4), (6, .int a6)] [] := by
  unfold f_Mo_isNew_b56 at h
  refine v_iconst C 1 dX12_isNew_56 rfl ?_
  refine v_goto C 61 dX12_isNew_57 (by decide) ?_
  exact v_Mo_isNew_b61 C K hk12 h
def f_Mo_isNew_l12B (k12 : Int32 → Int32 → Int32 → Int32 → Int32 → Int32 → Mem → Option (Int32 × Mem)) (a1 : Int32) (a2 : Int32) (a3 : Int32) (a4 : Int32) (a5 : Int32) (a6 : Int32) (M : Mem) : Option (Int32 × Mem) :=
  if gin a1 12 then
    if (M 111 a1.toNatClampNeg) ≤ a6 then
      if a5 = 0 then
        f_Mo_isNew_b114 a5 M
      else
        if gin a1 12 then
          if gin (a4 + (M 111 a1.toNatClampNeg)) 480 then
            bnd (mset M 112 (a4 + (M 111 a1.toNatClampNeg)).toNatClampNeg a2) fun M6 =>
            if gin a1 12 then
              if gin (a4 + (M6 111 a1.toNatClampNeg)) 480 then
                bnd (mset M6 113 (a4 + (M6 111 a1.toNatClampNeg)).toNatClampNeg a3) fun M9 =>
                if gin a1 12 then
                  if gin a1 12 then
                    bnd (mset M9 111 a1.toNatClampNeg ((M9 111 a1.toNatClampNeg) + 1)) fun M12 =>
                    f_Mo_isNew_b114 a5 M12
                  else none
                else none
              else none
            else none
          else none
        else none
    else
      if a5 = 0 then
        f_Mo_isNew_b60 k12 a1 a2 a3 a4 a6 M
      else
        if gin (a4 + a6) 480 then
          if (M 112 (a4 + a6).toNatClampNeg) = a2 then
            if gin (a4 + a6) 480 then
              if (M 113 (a4 + a6).toNatClampNeg) = a3 then
                f_Mo_isNew_b60 k12 a1 a2 a3 a4 a6 M
              else
                f_Mo_isNew_b56 k12 a1 a2 a3 a4 a6 M
            else none
          else
            f_Mo_isNew_b56 k12 a1 a2 a3 a4 a6 M
        else none
  else none
set_option maxRecDepth 20000 in
theorem v_Mo_isNew_l12B {S : SE} {X : MX} {q : (Int32 × Mem)} {k12 : Int32 → Int32 → Int32 → Int32 → Int32 → Int32 → Mem → Option (Int32 × Mem)} {a1 : Int32} {a2 : Int32} {a3 : Int32} {a4 : Int32} {a5 : Int32} {a6 : Int32} {M : Mem} (C : CX S X cX12_isNew 7 RX12 0) (K : RT S X (some .boolean) (some (.int q.1)) q.2) (hk12 : ∀ (a1 : Int32) (a2 : Int32) (a3 : Int32) (a4 : Int32) (a5 : Int32) (a6 : Int32) (M : Mem), k12 a1 a2 a3 a4 a5 a6 M = some q → V S X 7 M 12 [(0, .ref (S.2.1 91)), (1, .int a1), (2, .int a2), (3, .int a3), (4, .int a4), (5, .int a5), (6, .int a6)] []) (h : f_Mo_isNew_l12B k12 a1 a2 a3 a4 a5 a6 M = some q) : V S X 7 M 12 [(0, .ref (S.2.1 91)), (1, .int a1), (2, .int a2), (3, .int a3), (4, .int a4), (5, .int a5), (6, .int a6)] [] := by
  unfold f_Mo_isNew_l12B at h
  refine v_iload C 6 dX12_isNew_12 rfl ?_
  refine v_aload_n C 0 dX12_isNew_14 rfl ?_
  refine g_Mo_hadMany C kk91 fl_X12_67 dX12_isNew_15 ?_
  refine v_iload_n C 1 dX12_isNew_18 rfl ?_
  obtain ⟨g2, h⟩ := gd_h h
  refine v_iald C kk111 ll111 g2 dX12_isNew_19 ?_
  refine v_icmp_ge C 69 dX12_isNew_20 (by decide) (fun c19 => ?_) (fun c19 => ?_)
  · replace h := (ite_h h).1 c19
    refine v_iload C 5 dX12_isNew_69 rfl ?_
    refine v_if_eq C 114 dX12_isNew_71 (by decide) (fun c13 => ?_) (fun c13 => ?_)
    · replace h := (ite_h h).1 c13
      refine v_sub [5] rfl ?_
      exact v_Mo_isNew_b114 C K h
    · replace h := (ite_h h).2 c13
      refine v_aload_n C 0 dX12_isNew_74 rfl ?_
      refine g_Mo_hadK C kk91 fl_X12_70 dX12_isNew_75 ?_
      refine v_iload C 4 dX12_isNew_78 rfl ?_
      refine v_aload_n C 0 dX12_isNew_80 rfl ?_
      refine g_Mo_hadMany C kk91 fl_X12_67 dX12_isNew_81 ?_
      refine v_iload_n C 1 dX12_isNew_84 rfl ?_
      obtain ⟨g4, h⟩ := gd_h h
      refine v_iald C kk111 ll111 g4 dX12_isNew_85 ?_
      refine v_iadd C dX12_isNew_86 ?_
      refine v_iload_n C 2 dX12_isNew_87 rfl ?_
      obtain ⟨g5, h⟩ := gd_h h
      refine v_iast C kk112 ll112 g5 dX12_isNew_88 ?_
      refine v_nmm h (fun M6 h => ?_)
      refine v_aload_n C 0 dX12_isNew_89 rfl ?_
      refine g_Mo_hadV C kk91 fl_X12_73 dX12_isNew_90 ?_
      refine v_iload C 4 dX12_isNew_93 rfl ?_
      refine v_aload_n C 0 dX12_isNew_95 rfl ?_
      refine g_Mo_hadMany C kk91 fl_X12_67 dX12_isNew_96 ?_
      refine v_iload_n C 1 dX12_isNew_99 rfl ?_
      obtain ⟨g7, h⟩ := gd_h h
      refine v_iald C kk111 ll111 g7 dX12_isNew_100 ?_
      refine v_iadd C dX12_isNew_101 ?_
      refine v_iload_n C 3 dX12_isNew_102 rfl ?_
      obtain ⟨g8, h⟩ := gd_h h
      refine v_iast C kk113 ll113 g8 dX12_isNew_103 ?_
      refine v_nmm h (fun M9 h => ?_)
      refine v_aload_n C 0 dX12_isNew_104 rfl ?_
      refine g_Mo_hadMany C kk91 fl_X12_67 dX12_isNew_105 ?_
      refine v_iload_n C 1 dX12_isNew_108 rfl ?_
      refine v_dup2 C dX12_isNew_109 rfl rfl ?_
      obtain ⟨g10, h⟩ := gd_h h
      refine v_iald C kk111 ll111 g10 dX12_isNew_110 ?_
      refine v_iconst C 1 dX12_isNew_111 rfl ?_
      refine v_iadd C dX12_isNew_112 ?_
      obtain ⟨g11, h⟩ := gd_h h
      refine v_iast C kk111 ll111 g11 dX12_isNew_113 ?_
      refine v_nmm h (fun M12 h => ?_)
      refine v_sub [5] rfl ?_
      exact v_Mo_isNew_b114 C K h
  · replace h := (ite_h h).2 c19
    refine v_iload C 5 dX12_isNew_23 rfl ?_
    refine v_if_eq C 60 dX12_isNew_25 (by decide) (fun c18 => ?_) (fun c18 => ?_)
    · replace h := (ite_h h).1 c18
      refine v_sub [0, 1, 2, 3, 4, 6] rfl ?_
      exact v_Mo_isNew_b60 C K hk12 h
    · replace h := (ite_h h).2 c18
      refine v_aload_n C 0 dX12_isNew_28 rfl ?_
      refine g_Mo_hadK C kk91 fl_X12_70 dX12_isNew_29 ?_
      refine v_iload C 4 dX12_isNew_32 rfl ?_
      refine v_iload C 6 dX12_isNew_34 rfl ?_
      refine v_iadd C dX12_isNew_36 ?_
      obtain ⟨g14, h⟩ := gd_h h
      refine v_iald C kk112 ll112 g14 dX12_isNew_37 ?_
      refine v_iload_n C 2 dX12_isNew_38 rfl ?_
      refine v_icmp_ne C 56 dX12_isNew_39 (by decide) (fun c17 => ?_) (fun c17 => ?_)
      · replace h := (ite_h h).2 c17
        refine v_sub [0, 1, 2, 3, 4, 6] rfl ?_
        exact v_Mo_isNew_b56 C K hk12 h
      · replace h := (ite_h h).1 c17
        refine v_aload_n C 0 dX12_isNew_42 rfl ?_
        refine g_Mo_hadV C kk91 fl_X12_73 dX12_isNew_43 ?_
        refine v_iload C 4 dX12_isNew_46 rfl ?_
        refine v_iload C 6 dX12_isNew_48 rfl ?_
        refine v_iadd C dX12_isNew_50 ?_
        obtain ⟨g15, h⟩ := gd_h h
        refine v_iald C kk113 ll113 g15 dX12_isNew_51 ?_
        refine v_iload_n C 3 dX12_isNew_52 rfl ?_
        refine v_icmp_eq C 60 dX12_isNew_53 (by decide) (fun c16 => ?_) (fun c16 => ?_)
        · replace h := (ite_h h).1 c16
          refine v_sub [0, 1, 2, 3, 4, 6] rfl ?_
          exact v_Mo_isNew_b60 C K hk12 h
        · replace h := (ite_h h).2 c16
          refine v_sub [0, 1, 2, 3, 4, 6] rfl ?_
          exact v_Mo_isNew_b56 C K hk12 h
def f_Mo_isNew_l12 : Nat → Int32 → Int32 → Int32 → Int32 → Int32 → Int32 → Mem → Option (Int32 × Mem)
  | 0, _, _, _, _, _, _, _ => none
  | n + 1, a1, a2, a3, a4, a5, a6, M => f_Mo_isNew_l12B (f_Mo_isNew_l12 n) a1 a2 a3 a4 a5 a6 M
theorem v_Mo_isNew_l12 {S : SE} {X : MX} {q : (Int32 × Mem)} (C : CX S X cX12_isNew 7 RX12 0) (K : RT S X (some .boolean) (some (.int q.1)) q.2) : ∀ (n : Nat) (a1 : Int32) (a2 : Int32) (a3 : Int32) (a4 : Int32) (a5 : Int32) (a6 : Int32) (M : Mem), f_Mo_isNew_l12 n a1 a2 a3 a4 a5 a6 M = some q → V S X 7 M 12 [(0, .ref (S.2.1 91)), (1, .int a1), (2, .int a2), (3, .int a3), (4, .int a4), (5, .int a5), (6, .int a6)] [] := by
  intro n
  induction n with
  | zero => intro a1 a2 a3 a4 a5 a6 M h; cases h
  | succ n ih => intro a1 a2 a3 a4 a5 a6 M h; exact v_Mo_isNew_l12B C K ih h
def f_Mo_isNew (M : Mem) (a1 : Int32) (a2 : Int32) (a3 : Int32) : Option (Int32 × Mem) :=
  bnd (40 * a1) fun x1 =>
  f_Mo_isNew_l12 FU a1 a2 a3 x1 1 0 M
set_option maxRecDepth 20000 in
theorem v_Mo_isNew {S : SE} {X : MX} {q : (Int32 × Mem)} {M : Mem} {a1 : Int32} {a2 : Int32} {a3 : Int32} (C : CX S X cX12_isNew 7 RX12 0) (K : RT S X (some .boolean) (some (.int q.1)) q.2) (h : f_Mo_isNew M a1 a2 a3 = some q) : V S X 7 M 0 [(0, .ref (S.2.1 91)), (1, .int a1), (2, .int a2), (3, .int a3)] [] := by
  unfold f_Mo_isNew at h
  refine v_bipush C 40 dX12_isNew_0 rfl ?_
  refine v_iload_n C 1 dX12_isNew_2 rfl ?_
  refine v_imul C dX12_isNew_3 ?_
  refine v_nmi h (fun x1 h => ?_)
  refine v_istore C [(4, .int x1), (0, .ref (S.2.1 91)), (1, .int a1), (2, .int a2), (3, .int a3)] dX12_isNew_4 (by decide) rfl ?_
  refine v_iconst C 1 dX12_isNew_6 rfl ?_
  refine v_istore C [(5, .int 1), (4, .int x1), (0, .ref (S.2.1 91)), (1, .int a1), (2, .int a2), (3, .int a3)] dX12_isNew_7 (by decide) rfl ?_
  refine v_iconst C 0 dX12_isNew_9 rfl ?_
  refine v_istore C [(6, .int 0), (5, .int 1), (4, .int x1), (0, .ref (S.2.1 91)), (1, .int a1), (2, .int a2), (3, .int a3)] dX12_isNew_10 (by decide) rfl ?_
  refine v_sub [3, 4, 5, 6, 2, 1, 0] rfl ?_
  exact v_Mo_isNew_l12 C K FU _ _ _ _ _ _ _ h
theorem m_Mo_isNew {S : SE} (hI : Inj S) (M : Mem) (a1 : Int32) (a2 : Int32) (a3 : Int32) (q : (Int32 × Mem)) (h : f_Mo_isNew M a1 a2 a3 = some q) : CM S yX12_isNew cX12_isNew 7 (some .boolean) 0 [.ref (S.2.1 91), .int a1, .int a2, .int a3] M (some (.int q.1)) q.2 :=
  CM.of [(0, .ref (S.2.1 91)), (1, .int a1), (2, .int a2), (3, .int a3)] hI (by decide) rfl (Nat.le_of_ble_eq_true rfl) (fun X C K => v_Mo_isNew C K  h)
def f_Mo_goes_b121 (s0 : Int32) (M : Mem) : Option Mem :=
  if s0 = 0 ∨ s0 = 1 then
    bnd (mset M 91 30 s0) fun M2 =>
    some M2
  else none
set_option maxRecDepth 20000 in
theorem v_Mo_goes_b121 {S : SE} {X : MX} {q : Mem} {s0 : Int32} {M : Mem} (C : CX S X cX12_goes 9 RX12 1) (K : RT S X none none q) (h : f_Mo_goes_b121 s0 M = some q) : V S X 9 M 121 [] [.int s0, .ref (S.2.1 91)] := by
  unfold f_Mo_goes_b121 at h
  obtain ⟨g3, h⟩ := gd_h h
  refine p_Mo_isOver C kk91 g3 fl_X12_207 dX12_goes_121 ?_
  refine v_nmm h (fun M2 h => ?_)
  obtain rfl := Option.some.inj h
  exact v_vret C K dX12_goes_124
def f_Mo_goes_b92 (k7 : Int32 → Int32 → Int32 → Int32 → Int32 → Int32 → Mem → Option Mem) (a2 : Int32) (a3 : Int32) (a5 : Int32) (a6 : Int32) (a7 : Int32) (a8 : Int32) (M : Mem) : Option Mem :=
  k7 a2 a3 a5 a6 a7 (a8 + 1) M
set_option maxRecDepth 20000 in
theorem v_Mo_goes_b92 {S : SE} {X : MX} {q : Mem} {k7 : Int32 → Int32 → Int32 → Int32 → Int32 → Int32 → Mem → Option Mem} {a2 : Int32} {a3 : Int32} {a5 : Int32} {a6 : Int32} {a7 : Int32} {a8 : Int32} {M : Mem} (C : CX S X cX12_goes 9 RX12 1) (K : RT S X none none q) (hk7 : ∀ (a2 : Int32) (a3 : Int32) (a5 : Int32) (a6 : Int32) (a7 : Int32) (a8 : Int32) (M : Mem), k7 a2 a3 a5 a6 a7 a8 M = some q → V S X 9 M 7 [(0, .ref (S.2.1 91)), (2, .int a2), (3, .int a3), (5, .int a5), (6, .int a6), (7, .int a7), (8, .int a8)] []) (h : f_Mo_goes_b92 k7 a2 a3 a5 a6 a7 a8 M = some q) : V S X 9 M 92 [(0, .ref (S.2.1 91)), (2, .int a2), (3, .int a3), (5, .int a5), (6, .int a6), (7, .int a7), (8, .int a8)] [] := by
  unfold f_Mo_goes_b92 at h
  refine v_iinc C [(8, .int (a8 + 1)), (0, .ref (S.2.1 91)), (2, .int a2), (3, .int a3), (5, .int a5), (6, .int a6), (7, .int a7)] 6 (a8 + 1) dX12_goes_92 rfl rfl (by decide) rfl ?_
  refine v_goto C 7 dX12_goes_95 (by decide) ?_
  refine v_sub [1, 2, 3, 4, 5, 6, 0] rfl ?_
  exact hk7 _ _ _ _ _ _ _ h
def f_Mo_goes_b82 (k7 : Int32 → Int32 → Int32 → Int32 → Int32 → Int32 → Mem → Option Mem) (a2 : Int32) (a3 : Int32) (a5 : Int32) (a6 : Int32) (a7 : Int32) (a8 : Int32) (M : Mem) : Option Mem :=
  bnd (mset M 91 28 ((M 91 28) + 1)) fun M10 =>
  f_Mo_goes_b92 k7 a2 a3 a5 a6 a7 a8 M10
set_option maxRecDepth 20000 in
theorem v_Mo_goes_b82 {S : SE} {X : MX} {q : Mem} {k7 : Int32 → Int32 → Int32 → Int32 → Int32 → Int32 → Mem → Option Mem} {a2 : Int32} {a3 : Int32} {a5 : Int32} {a6 : Int32} {a7 : Int32} {a8 : Int32} {M : Mem} (C : CX S X cX12_goes 9 RX12 1) (K : RT S X none none q) (hk7 : ∀ (a2 : Int32) (a3 : Int32) (a5 : Int32) (a6 : Int32) (a7 : Int32) (a8 : Int32) (M : Mem), k7 a2 a3 a5 a6 a7 a8 M = some q → V S X 9 M 7 [(0, .ref (S.2.1 91)), (2, .int a2), (3, .int a3), (5, .int a5), (6, .int a6), (7, .int a7), (8, .int a8)] []) (h : f_Mo_goes_b82 k7 a2 a3 a5 a6 a7 a8 M = some q) : V S X 9 M 82 [(0, .ref (S.2.1 91)), (2, .int a2), (3, .int a3), (5, .int a5), (6, .int a6), (7, .int a7), (8, .int a8)] [] := by
  unfold f_Mo_goes_b82 at h
  refine v_aload_n C 0 dX12_goes_82 rfl ?_
  refine v_dup C dX12_goes_83 rfl ?_
  refine g_Mo_handed C kk91 fl_X12_200 dX12_goes_84 ?_
  refine v_iconst C 1 dX12_goes_87 rfl ?_
  refine v_iadd C dX12_goes_88 ?_
  refine p_Mo_handed C kk91 fl_X12_200 dX12_goes_89 ?_
  refine v_nmm h (fun M10 h => ?_)
  exact v_Mo_goes_b92 C K hk7 h
def f_Mo_goes_l7B (k7 : Int32 → Int32 → Int32 → Int32 → Int32 → Int32 → Mem → Option Mem) (a2 : Int32) (a3 : Int32) (a5 : Int32) (a6 : Int32) (a7 : Int32) (a8 : Int32) (M : Mem) : Option Mem :=
  if a2 ≤ a8 then
    (f_Mo_puts M a3 a7 (-1)).bind fun q1 =>
    if (q1 91 21) = a6 then
      f_Mo_goes_b121 1 q1
    else
      f_Mo_goes_b121 0 q1
  else
    if a8 = (M 91 11) then
      f_Mo_goes_b92 k7 a2 a3 a5 a6 a7 a8 M
    else
      if gin a8 12 then
        if gin a8 12 then
          if gin a5 20 then
            bnd (f_Mo_stays (M 98 a8.toNatClampNeg) (M 99 a8.toNatClampNeg) a3 a7 (M 96 a5.toNatClampNeg)) fun x8 =>
            if x8 = (-2) then
              some M
            else
              if gin a8 12 then
                if (M 98 a8.toNatClampNeg) = 5 then
                  (f_Mo_isNew M a8 a3 x8).bind fun q11 =>
                  if q11.1 = 0 then
                    some q11.2
                  else
                    f_Mo_goes_b82 k7 a2 a3 a5 a6 x8 a8 q11.2
                else
                  f_Mo_goes_b82 k7 a2 a3 a5 a6 x8 a8 M
              else none
          else none
        else none
      else none
set_option maxRecDepth 20000 in
theorem v_Mo_goes_l7B {S : SE} {X : MX} {q : Mem} {k7 : Int32 → Int32 → Int32 → Int32 → Int32 → Int32 → Mem → Option Mem} {a2 : Int32} {a3 : Int32} {a5 : Int32} {a6 : Int32} {a7 : Int32} {a8 : Int32} {M : Mem} (C : CX S X cX12_goes 9 RX12 1) (K : RT S X none none q) (hk7 : ∀ (a2 : Int32) (a3 : Int32) (a5 : Int32) (a6 : Int32) (a7 : Int32) (a8 : Int32) (M : Mem), k7 a2 a3 a5 a6 a7 a8 M = some q → V S X 9 M 7 [(0, .ref (S.2.1 91)), (2, .int a2), (3, .int a3), (5, .int a5), (6, .int a6), (7, .int a7), (8, .int a8)] []) (h : f_Mo_goes_l7B k7 a2 a3 a5 a6 a7 a8 M = some q) : V S X 9 M 7 [(0, .ref (S.2.1 91)), (2, .int a2), (3, .int a3), (5, .int a5), (6, .int a6), (7, .int a7), (8, .int a8)] [] := by
  unfold f_Mo_goes_l7B at h
  refine v_iload C 6 dX12_goes_7 rfl ?_
  refine v_iload_n C 1 dX12_goes_9 rfl ?_
  refine v_icmp_ge C 98 dX12_goes_10 (by decide) (fun c16 => ?_) (fun c16 => ?_)
  · replace h := (ite_h h).1 c16
    refine v_aload_n C 0 dX12_goes_98 rfl ?_
    refine v_iload_n C 2 dX12_goes_99 rfl ?_
    refine v_iload C 5 dX12_goes_100 rfl ?_
    refine v_iconst C (-1) dX12_goes_102 rfl ?_
    obtain ⟨q1, hq1, h⟩ := Option.bind_eq_some_iff.mp h
    refine cv12v C [] kk91 (m_Mo_puts C.inj M a3 a7 (-1) q1 hq1) ci_Mo_puts rfl lk_X12_203 (by decide) rfl rfl (Nat.le_of_ble_eq_true rfl) dX12_goes_103 ?_
    refine v_aload_n C 0 dX12_goes_106 rfl ?_
    refine v_aload_n C 0 dX12_goes_107 rfl ?_
    refine g_Mo_outMany C kk91 fl_X12_178 dX12_goes_108 ?_
    refine v_iload C 4 dX12_goes_111 rfl ?_
    refine v_icmp_ne C 120 dX12_goes_113 (by decide) (fun c4 => ?_) (fun c4 => ?_)
    · replace h := (ite_h h).2 c4
      refine v_iconst C 0 dX12_goes_120 rfl ?_
      refine v_sub [] rfl ?_
      exact v_Mo_goes_b121 C K h
    · replace h := (ite_h h).1 c4
      refine v_iconst C 1 dX12_goes_116 rfl ?_
      refine v_goto C 121 dX12_goes_117 (by decide) ?_
      refine v_sub [] rfl ?_
      exact v_Mo_goes_b121 C K h
  · replace h := (ite_h h).2 c16
    refine v_iload C 6 dX12_goes_13 rfl ?_
    refine v_aload_n C 0 dX12_goes_15 rfl ?_
    refine g_Mo_without C kk91 fl_X12_190 dX12_goes_16 ?_
    refine v_icmp_eq C 92 dX12_goes_19 (by decide) (fun c15 => ?_) (fun c15 => ?_)
    · replace h := (ite_h h).1 c15
      exact v_Mo_goes_b92 C K hk7 h
    · replace h := (ite_h h).2 c15
      refine v_aload_n C 0 dX12_goes_22 rfl ?_
      refine g_Mo_kinds C kk91 fl_X12_28 dX12_goes_23 ?_
      refine v_iload C 6 dX12_goes_26 rfl ?_
      obtain ⟨g5, h⟩ := gd_h h
      refine v_iald C kk98 ll98 g5 dX12_goes_28 ?_
      refine v_aload_n C 0 dX12_goes_29 rfl ?_
      refine g_Mo_figures C kk91 fl_X12_31 dX12_goes_30 ?_
      refine v_iload C 6 dX12_goes_33 rfl ?_
      obtain ⟨g6, h⟩ := gd_h h
      refine v_iald C kk99 ll99 g6 dX12_goes_35 ?_
      refine v_iload_n C 2 dX12_goes_36 rfl ?_
      refine v_iload C 5 dX12_goes_37 rfl ?_
      refine v_aload_n C 0 dX12_goes_39 rfl ?_
      refine g_Mo_ks C kk91 fl_X12_22 dX12_goes_40 ?_
      refine v_iload C 3 dX12_goes_43 rfl ?_
      obtain ⟨g7, h⟩ := gd_h h
      refine v_iald C kk96 ll96 g7 dX12_goes_45 ?_
      refine cs C [] (m_Mo_stays C.inj M (M 98 a8.toNatClampNeg) (M 99 a8.toNatClampNeg) a3 a7 (M 96 a5.toNatClampNeg) _ rfl) ci_Mo_stays lk_X12_193 (by decide) rfl rfl (Nat.le_of_ble_eq_true rfl) dX12_goes_46 ?_
      refine v_nmi h (fun x8 h => ?_)
      refine v_istore C [(7, .int x8), (0, .ref (S.2.1 91)), (2, .int a2), (3, .int a3), (5, .int a5), (6, .int a6), (8, .int a8)] dX12_goes_49 (by decide) rfl ?_
      refine v_iload C 0 dX12_goes_51 rfl ?_
      refine v_bipush C (-2) dX12_goes_53 rfl ?_
      refine v_icmp_eq C 81 dX12_goes_55 (by decide) (fun c14 => ?_) (fun c14 => ?_)
      · replace h := (ite_h h).1 c14
        obtain rfl := Option.some.inj h
        exact v_vret C K dX12_goes_81
      · replace h := (ite_h h).2 c14
        refine v_aload_n C 1 dX12_goes_58 rfl ?_
        refine g_Mo_kinds C kk91 fl_X12_28 dX12_goes_59 ?_
        refine v_iload C 6 dX12_goes_62 rfl ?_
        obtain ⟨g9, h⟩ := gd_h h
        refine v_iald C kk98 ll98 g9 dX12_goes_64 ?_
        refine v_iconst C 5 dX12_goes_65 rfl ?_
        refine v_icmp_ne C 82 dX12_goes_66 (by decide) (fun c13 => ?_) (fun c13 => ?_)
        · replace h := (ite_h h).2 c13
          refine v_sub [1, 2, 3, 4, 5, 0, 6] rfl ?_
          exact v_Mo_goes_b82 C K hk7 h
        · replace h := (ite_h h).1 c13
          refine v_aload_n C 1 dX12_goes_69 rfl ?_
          refine v_iload C 6 dX12_goes_70 rfl ?_
          refine v_iload_n C 3 dX12_goes_72 rfl ?_
          refine v_iload C 0 dX12_goes_73 rfl ?_
          obtain ⟨q11, hq11, h⟩ := Option.bind_eq_some_iff.mp h
          refine cv12 C [] kk91 (m_Mo_isNew C.inj M a8 a3 x8 q11 hq11) ci_Mo_isNew rfl lk_X12_197 (by decide) rfl rfl (Nat.le_of_ble_eq_true rfl) dX12_goes_75 ?_
          refine v_if_ne C 82 dX12_goes_78 (by decide) (fun c12 => ?_) (fun c12 => ?_)
          · replace h := (ite_h h).2 c12
            refine v_sub [1, 2, 3, 4, 5, 0, 6] rfl ?_
            exact v_Mo_goes_b82 C K hk7 h
          · replace h := (ite_h h).1 c12
            obtain rfl := Option.some.inj h
            exact v_vret C K dX12_goes_81
def f_Mo_goes_l7 : Nat → Int32 → Int32 → Int32 → Int32 → Int32 → Int32 → Mem → Option Mem
  | 0, _, _, _, _, _, _, _ => none
  | n + 1, a2, a3, a5, a6, a7, a8, M => f_Mo_goes_l7B (f_Mo_goes_l7 n) a2 a3 a5 a6 a7 a8 M
theorem v_Mo_goes_l7 {S : SE} {X : MX} {q : Mem} (C : CX S X cX12_goes 9 RX12 1) (K : RT S X none none q) : ∀ (n : Nat) (a2 : Int32) (a3 : Int32) (a5 : Int32) (a6 : Int32) (a7 : Int32) (a8 : Int32) (M : Mem), f_Mo_goes_l7 n a2 a3 a5 a6 a7 a8 M = some q → V S X 9 M 7 [(0, .ref (S.2.1 91)), (2, .int a2), (3, .int a3), (5, .int a5), (6, .int a6), (7, .int a7), (8, .int a8)] [] := by
  intro n
  induction n with
  | zero => intro a2 a3 a5 a6 a7 a8 M h; cases h
  | succ n ih => intro a2 a3 a5 a6 a7 a8 M h; exact v_Mo_goes_l7B C K ih h
def f_Mo_goes (M : Mem) (a1 : Int32) (a2 : Int32) (a3 : Int32) (a4 : Int32) (a5 : Int32) (a6 : Int32) : Option Mem :=
  f_Mo_goes_l7 FU a2 a3 a5 a6 a4 a1 M
set_option maxRecDepth 20000 in
theorem v_Mo_goes {S : SE} {X : MX} {q : Mem} {M : Mem} {a1 : Int32} {a2 : Int32} {a3 : Int32} {a4 : Int32} {a5 : Int32} {a6 : Int32} (C : CX S X cX12_goes 9 RX12 1) (K : RT S X none none q) (h : f_Mo_goes M a1 a2 a3 a4 a5 a6 = some q) : V S X 9 M 0 [(0, .ref (S.2.1 91)), (1, .int a1), (2, .int a2), (3, .int a3), (4, .int a4), (5, .int a5), (6, .int a6)] [] := by
  unfold f_Mo_goes at h
  refine v_iload C 4 dX12_goes_0 rfl ?_
  refine v_istore C [(7, .int a4), (0, .ref (S.2.1 91)), (1, .int a1), (2, .int a2), (3, .int a3), (4, .int a4), (5, .int a5), (6, .int a6)] dX12_goes_2 (by decide) rfl ?_
  refine v_iload_n C 2 dX12_goes_4 rfl ?_
  refine v_istore C [(8, .int a1), (7, .int a4), (0, .ref (S.2.1 91)), (1, .int a1), (2, .int a2), (3, .int a3), (4, .int a4), (5, .int a5), (6, .int a6)] dX12_goes_5 (by decide) rfl ?_
  refine v_sub [2, 4, 5, 7, 8, 1, 0] rfl ?_
  exact v_Mo_goes_l7 C K FU _ _ _ _ _ _ _ h
theorem m_Mo_goes {S : SE} (hI : Inj S) (M : Mem) (a1 : Int32) (a2 : Int32) (a3 : Int32) (a4 : Int32) (a5 : Int32) (a6 : Int32) (q : Mem) (h : f_Mo_goes M a1 a2 a3 a4 a5 a6 = some q) : CM S yX12_goes cX12_goes 9 none 1 [.ref (S.2.1 91), .int a1, .int a2, .int a3, .int a4, .int a5, .int a6] M none q :=
  CM.of [(0, .ref (S.2.1 91)), (1, .int a1), (2, .int a2), (3, .int a3), (4, .int a4), (5, .int a5), (6, .int a6)] hI (by decide) rfl (Nat.le_of_ble_eq_true rfl) (fun X C K => v_Mo_goes C K  h)
def f_Mo_goThrough_b151 (k84 : Int32 → Int32 → Int32 → Int32 → Mem → Option Mem) (a2 : Int32) (a3 : Int32) (a4 : Int32) (a5 : Int32) (M : Mem) : Option Mem :=
  k84 a2 a3 a4 (a5 + 1) M
set_option maxRecDepth 20000 in
theorem v_Mo_goThrough_b151 {S : SE} {X : MX} {q : Mem} {k84 : Int32 → Int32 → Int32 → Int32 → Mem → Option Mem} {a2 : Int32} {a3 : Int32} {a4 : Int32} {a5 : Int32} {M : Mem} (C : CX S X cX12_goThrough 6 RX12 2) (K : RT S X none none q) (hk84 : ∀ (a2 : Int32) (a3 : Int32) (a4 : Int32) (a5 : Int32) (M : Mem), k84 a2 a3 a4 a5 M = some q → V S X 6 M 84 [(0, .ref (S.2.1 91)), (2, .int a2), (3, .int a3), (4, .int a4), (5, .int a5)] []) (h : f_Mo_goThrough_b151 k84 a2 a3 a4 a5 M = some q) : V S X 6 M 151 [(0, .ref (S.2.1 91)), (2, .int a2), (3, .int a3), (4, .int a4), (5, .int a5)] [] := by
  unfold f_Mo_goThrough_b151 at h
  refine v_iinc C [(5, .int (a5 + 1)), (0, .ref (S.2.1 91)), (2, .int a2), (3, .int a3), (4, .int a4)] 4 (a5 + 1) dX12_goThrough_151 rfl rfl (by decide) rfl ?_
  refine v_goto C 84 dX12_goThrough_154 (by decide) ?_
  refine v_sub [1, 2, 3, 4, 0] rfl ?_
  exact hk84 _ _ _ _ _ h
def f_Mo_goThrough_l84B (k84 : Int32 → Int32 → Int32 → Int32 → Mem → Option Mem) (a2 : Int32) (a3 : Int32) (a4 : Int32) (a5 : Int32) (M : Mem) : Option Mem :=
  if a2 ≤ a5 then
    some M
  else
    if (M 91 30) = 0 then
      if gin a5 12 then
        if (M 98 a5.toNatClampNeg) = 4 then
          if a5 = (M 91 11) then
            f_Mo_goThrough_b151 k84 a2 a3 a4 a5 M
          else
            bnd (mset M 91 28 ((M 91 28) + 1)) fun M3 =>
            if gin a3 20 then
              if gin a3 20 then
                (f_Mo_goes M3 (a5 + 1) a2 (M3 96 a3.toNatClampNeg) (M3 97 a3.toNatClampNeg) a3 a4).bind fun q6 =>
                f_Mo_goThrough_b151 k84 a2 a3 a4 a5 q6
              else none
            else none
        else
          f_Mo_goThrough_b151 k84 a2 a3 a4 a5 M
      else none
    else
      some M
set_option maxRecDepth 20000 in
theorem v_Mo_goThrough_l84B {S : SE} {X : MX} {q : Mem} {k84 : Int32 → Int32 → Int32 → Int32 → Mem → Option Mem} {a2 : Int32} {a3 : Int32} {a4 : Int32} {a5 : Int32} {M : Mem} (C : CX S X cX12_goThrough 6 RX12 2) (K : RT S X none none q) (hk84 : ∀ (a2 : Int32) (a3 : Int32) (a4 : Int32) (a5 : Int32) (M : Mem), k84 a2 a3 a4 a5 M = some q → V S X 6 M 84 [(0, .ref (S.2.1 91)), (2, .int a2), (3, .int a3), (4, .int a4), (5, .int a5)] []) (h : f_Mo_goThrough_l84B k84 a2 a3 a4 a5 M = some q) : V S X 6 M 84 [(0, .ref (S.2.1 91)), (2, .int a2), (3, .int a3), (4, .int a4), (5, .int a5)] [] := by
  unfold f_Mo_goThrough_l84B at h
  refine v_iload C 4 dX12_goThrough_84 rfl ?_
  refine v_iload_n C 1 dX12_goThrough_86 rfl ?_
  refine v_icmp_ge C 157 dX12_goThrough_87 (by decide) (fun c10 => ?_) (fun c10 => ?_)
  · replace h := (ite_h h).1 c10
    obtain rfl := Option.some.inj h
    exact v_vret C K dX12_goThrough_157
  · replace h := (ite_h h).2 c10
    refine v_aload_n C 0 dX12_goThrough_90 rfl ?_
    refine g_Mo_isOver C kk91 fl_X12_207 dX12_goThrough_91 ?_
    refine v_if_ne C 157 dX12_goThrough_94 (by decide) (fun c9 => ?_) (fun c9 => ?_)
    · replace h := (ite_h h).2 c9
      obtain rfl := Option.some.inj h
      exact v_vret C K dX12_goThrough_157
    · replace h := (ite_h h).1 c9
      refine v_aload_n C 0 dX12_goThrough_97 rfl ?_
      refine g_Mo_kinds C kk91 fl_X12_28 dX12_goThrough_98 ?_
      refine v_iload C 4 dX12_goThrough_101 rfl ?_
      obtain ⟨g2, h⟩ := gd_h h
      refine v_iald C kk98 ll98 g2 dX12_goThrough_103 ?_
      refine v_iconst C 4 dX12_goThrough_104 rfl ?_
      refine v_icmp_ne C 151 dX12_goThrough_105 (by decide) (fun c8 => ?_) (fun c8 => ?_)
      · replace h := (ite_h h).2 c8
        exact v_Mo_goThrough_b151 C K hk84 h
      · replace h := (ite_h h).1 c8
        refine v_iload C 4 dX12_goThrough_108 rfl ?_
        refine v_aload_n C 0 dX12_goThrough_110 rfl ?_
        refine g_Mo_without C kk91 fl_X12_190 dX12_goThrough_111 ?_
        refine v_icmp_eq C 151 dX12_goThrough_114 (by decide) (fun c7 => ?_) (fun c7 => ?_)
        · replace h := (ite_h h).1 c7
          exact v_Mo_goThrough_b151 C K hk84 h
        · replace h := (ite_h h).2 c7
          refine v_aload_n C 0 dX12_goThrough_117 rfl ?_
          refine v_dup C dX12_goThrough_118 rfl ?_
          refine g_Mo_handed C kk91 fl_X12_200 dX12_goThrough_119 ?_
          refine v_iconst C 1 dX12_goThrough_122 rfl ?_
          refine v_iadd C dX12_goThrough_123 ?_
          refine p_Mo_handed C kk91 fl_X12_200 dX12_goThrough_124 ?_
          refine v_nmm h (fun M3 h => ?_)
          refine v_aload_n C 0 dX12_goThrough_127 rfl ?_
          refine v_iload C 4 dX12_goThrough_128 rfl ?_
          refine v_iconst C 1 dX12_goThrough_130 rfl ?_
          refine v_iadd C dX12_goThrough_131 ?_
          refine v_iload_n C 1 dX12_goThrough_132 rfl ?_
          refine v_aload_n C 0 dX12_goThrough_133 rfl ?_
          refine g_Mo_ks C kk91 fl_X12_22 dX12_goThrough_134 ?_
          refine v_iload_n C 2 dX12_goThrough_137 rfl ?_
          obtain ⟨g4, h⟩ := gd_h h
          refine v_iald C kk96 ll96 g4 dX12_goThrough_138 ?_
          refine v_aload_n C 0 dX12_goThrough_139 rfl ?_
          refine g_Mo_vs C kk91 fl_X12_25 dX12_goThrough_140 ?_
          refine v_iload_n C 2 dX12_goThrough_143 rfl ?_
          obtain ⟨g5, h⟩ := gd_h h
          refine v_iald C kk97 ll97 g5 dX12_goThrough_144 ?_
          refine v_iload_n C 2 dX12_goThrough_145 rfl ?_
          refine v_iload C 3 dX12_goThrough_146 rfl ?_
          obtain ⟨q6, hq6, h⟩ := Option.bind_eq_some_iff.mp h
          refine cv12v C [] kk91 (m_Mo_goes C.inj M3 (a5 + 1) a2 (M3 96 a3.toNatClampNeg) (M3 97 a3.toNatClampNeg) a3 a4 q6 hq6) ci_Mo_goes rfl lk_X12_214 (by decide) rfl rfl (Nat.le_of_ble_eq_true rfl) dX12_goThrough_148 ?_
          exact v_Mo_goThrough_b151 C K hk84 h
def f_Mo_goThrough_l84 : Nat → Int32 → Int32 → Int32 → Int32 → Mem → Option Mem
  | 0, _, _, _, _, _ => none
  | n + 1, a2, a3, a4, a5, M => f_Mo_goThrough_l84B (f_Mo_goThrough_l84 n) a2 a3 a4 a5 M
theorem v_Mo_goThrough_l84 {S : SE} {X : MX} {q : Mem} (C : CX S X cX12_goThrough 6 RX12 2) (K : RT S X none none q) : ∀ (n : Nat) (a2 : Int32) (a3 : Int32) (a4 : Int32) (a5 : Int32) (M : Mem), f_Mo_goThrough_l84 n a2 a3 a4 a5 M = some q → V S X 6 M 84 [(0, .ref (S.2.1 91)), (2, .int a2), (3, .int a3), (4, .int a4), (5, .int a5)] [] := by
  intro n
  induction n with
  | zero => intro a2 a3 a4 a5 M h; cases h
  | succ n ih => intro a2 a3 a4 a5 M h; exact v_Mo_goThrough_l84B C K ih h
def f_Mo_goThrough_b81 (a1 : Int32) (a2 : Int32) (a3 : Int32) (a4 : Int32) (M : Mem) : Option Mem :=
  f_Mo_goThrough_l84 FU a2 a3 a4 a1 M
set_option maxRecDepth 20000 in
theorem v_Mo_goThrough_b81 {S : SE} {X : MX} {q : Mem} {a1 : Int32} {a2 : Int32} {a3 : Int32} {a4 : Int32} {M : Mem} (C : CX S X cX12_goThrough 6 RX12 2) (K : RT S X none none q) (h : f_Mo_goThrough_b81 a1 a2 a3 a4 M = some q) : V S X 6 M 81 [(0, .ref (S.2.1 91)), (1, .int a1), (2, .int a2), (3, .int a3), (4, .int a4)] [] := by
  unfold f_Mo_goThrough_b81 at h
  refine v_iload_n C 1 dX12_goThrough_81 rfl ?_
  refine v_istore C [(5, .int a1), (0, .ref (S.2.1 91)), (1, .int a1), (2, .int a2), (3, .int a3), (4, .int a4)] dX12_goThrough_82 (by decide) rfl ?_
  refine v_sub [1, 3, 4, 5, 0] rfl ?_
  exact v_Mo_goThrough_l84 C K FU _ _ _ _ _ h
def f_Mo_goThrough_b48 (k8 : Int32 → Int32 → Int32 → Int32 → Int32 → Mem → Option Mem) (a1 : Int32) (a2 : Int32) (a3 : Int32) (a4 : Int32) (a5 : Int32) (s0 : Int32) (s1 : Int32) (M : Mem) : Option Mem :=
  bnd (mset M 91 29 (s1 + s0)) fun M12 =>
  if gin a5 300 then
    if gin a5 300 then
      (f_Mo_goes M12 a1 a2 (M12 105 a5.toNatClampNeg) (M12 106 a5.toNatClampNeg) a3 a4).bind fun q15 =>
      k8 a1 a2 a3 a4 (a5 + 1) q15
    else none
  else none
set_option maxRecDepth 20000 in
theorem v_Mo_goThrough_b48 {S : SE} {X : MX} {q : Mem} {k8 : Int32 → Int32 → Int32 → Int32 → Int32 → Mem → Option Mem} {a1 : Int32} {a2 : Int32} {a3 : Int32} {a4 : Int32} {a5 : Int32} {s0 : Int32} {s1 : Int32} {M : Mem} (C : CX S X cX12_goThrough 6 RX12 2) (K : RT S X none none q) (hk8 : ∀ (a1 : Int32) (a2 : Int32) (a3 : Int32) (a4 : Int32) (a5 : Int32) (M : Mem), k8 a1 a2 a3 a4 a5 M = some q → V S X 6 M 8 [(0, .ref (S.2.1 91)), (1, .int a1), (2, .int a2), (3, .int a3), (4, .int a4), (5, .int a5)] []) (h : f_Mo_goThrough_b48 k8 a1 a2 a3 a4 a5 s0 s1 M = some q) : V S X 6 M 48 [(0, .ref (S.2.1 91)), (1, .int a1), (2, .int a2), (3, .int a3), (4, .int a4), (5, .int a5)] [.int s0, .int s1, .ref (S.2.1 91)] := by
  unfold f_Mo_goThrough_b48 at h
  refine v_iadd C dX12_goThrough_48 ?_
  refine p_Mo_readMany C kk91 fl_X12_211 dX12_goThrough_49 ?_
  refine v_nmm h (fun M12 h => ?_)
  refine v_aload_n C 0 dX12_goThrough_52 rfl ?_
  refine v_iload_n C 1 dX12_goThrough_53 rfl ?_
  refine v_iload_n C 2 dX12_goThrough_54 rfl ?_
  refine v_aload_n C 0 dX12_goThrough_55 rfl ?_
  refine g_Mo_rowK C kk91 fl_X12_49 dX12_goThrough_56 ?_
  refine v_iload C 5 dX12_goThrough_59 rfl ?_
  obtain ⟨g13, h⟩ := gd_h h
  refine v_iald C kk105 ll105 g13 dX12_goThrough_61 ?_
  refine v_aload_n C 0 dX12_goThrough_62 rfl ?_
  refine g_Mo_rowV C kk91 fl_X12_52 dX12_goThrough_63 ?_
  refine v_iload C 5 dX12_goThrough_66 rfl ?_
  obtain ⟨g14, h⟩ := gd_h h
  refine v_iald C kk106 ll106 g14 dX12_goThrough_68 ?_
  refine v_iload_n C 3 dX12_goThrough_69 rfl ?_
  refine v_iload C 4 dX12_goThrough_70 rfl ?_
  obtain ⟨q15, hq15, h⟩ := Option.bind_eq_some_iff.mp h
  refine cv12v C [] kk91 (m_Mo_goes C.inj M12 a1 a2 (M12 105 a5.toNatClampNeg) (M12 106 a5.toNatClampNeg) a3 a4 q15 hq15) ci_Mo_goes rfl lk_X12_214 (by decide) rfl rfl (Nat.le_of_ble_eq_true rfl) dX12_goThrough_72 ?_
  refine v_iinc C [(5, .int (a5 + 1)), (0, .ref (S.2.1 91)), (1, .int a1), (2, .int a2), (3, .int a3), (4, .int a4)] 5 (a5 + 1) dX12_goThrough_75 rfl rfl (by decide) rfl ?_
  refine v_goto C 8 dX12_goThrough_78 (by decide) ?_
  refine v_sub [1, 2, 3, 4, 5, 0] rfl ?_
  exact hk8 _ _ _ _ _ _ h
def f_Mo_goThrough_l8B (k8 : Int32 → Int32 → Int32 → Int32 → Int32 → Mem → Option Mem) (a1 : Int32) (a2 : Int32) (a3 : Int32) (a4 : Int32) (a5 : Int32) (M : Mem) : Option Mem :=
  if (M 91 17) ≤ a5 then
    f_Mo_goThrough_b81 a1 a2 a3 a4 M
  else
    if (M 91 30) = 0 then
      bnd (mset M 91 28 ((M 91 28) + 1)) fun M11 =>
      if a1 = 0 then
        f_Mo_goThrough_b48 k8 a1 a2 a3 a4 a5 1 (M11 91 29) M11
      else
        f_Mo_goThrough_b48 k8 a1 a2 a3 a4 a5 0 (M11 91 29) M11
    else
      f_Mo_goThrough_b81 a1 a2 a3 a4 M
set_option maxRecDepth 20000 in
theorem v_Mo_goThrough_l8B {S : SE} {X : MX} {q : Mem} {k8 : Int32 → Int32 → Int32 → Int32 → Int32 → Mem → Option Mem} {a1 : Int32} {a2 : Int32} {a3 : Int32} {a4 : Int32} {a5 : Int32} {M : Mem} (C : CX S X cX12_goThrough 6 RX12 2) (K : RT S X none none q) (hk8 : ∀ (a1 : Int32) (a2 : Int32) (a3 : Int32) (a4 : Int32) (a5 : Int32) (M : Mem), k8 a1 a2 a3 a4 a5 M = some q → V S X 6 M 8 [(0, .ref (S.2.1 91)), (1, .int a1), (2, .int a2), (3, .int a3), (4, .int a4), (5, .int a5)] []) (h : f_Mo_goThrough_l8B k8 a1 a2 a3 a4 a5 M = some q) : V S X 6 M 8 [(0, .ref (S.2.1 91)), (1, .int a1), (2, .int a2), (3, .int a3), (4, .int a4), (5, .int a5)] [] := by
  unfold f_Mo_goThrough_l8B at h
  refine v_iload C 5 dX12_goThrough_8 rfl ?_
  refine v_aload_n C 0 dX12_goThrough_10 rfl ?_
  refine g_Mo_many C kk91 fl_X12_181 dX12_goThrough_11 ?_
  refine v_icmp_ge C 81 dX12_goThrough_14 (by decide) (fun c18 => ?_) (fun c18 => ?_)
  · replace h := (ite_h h).1 c18
    refine v_sub [0, 1, 2, 3, 4] rfl ?_
    exact v_Mo_goThrough_b81 C K h
  · replace h := (ite_h h).2 c18
    refine v_aload_n C 0 dX12_goThrough_17 rfl ?_
    refine g_Mo_isOver C kk91 fl_X12_207 dX12_goThrough_18 ?_
    refine v_if_ne C 81 dX12_goThrough_21 (by decide) (fun c17 => ?_) (fun c17 => ?_)
    · replace h := (ite_h h).2 c17
      refine v_sub [0, 1, 2, 3, 4] rfl ?_
      exact v_Mo_goThrough_b81 C K h
    · replace h := (ite_h h).1 c17
      refine v_aload_n C 0 dX12_goThrough_24 rfl ?_
      refine v_dup C dX12_goThrough_25 rfl ?_
      refine g_Mo_handed C kk91 fl_X12_200 dX12_goThrough_26 ?_
      refine v_iconst C 1 dX12_goThrough_29 rfl ?_
      refine v_iadd C dX12_goThrough_30 ?_
      refine p_Mo_handed C kk91 fl_X12_200 dX12_goThrough_31 ?_
      refine v_nmm h (fun M11 h => ?_)
      refine v_aload_n C 0 dX12_goThrough_34 rfl ?_
      refine v_dup C dX12_goThrough_35 rfl ?_
      refine g_Mo_readMany C kk91 fl_X12_211 dX12_goThrough_36 ?_
      refine v_iload_n C 1 dX12_goThrough_39 rfl ?_
      refine v_if_ne C 47 dX12_goThrough_40 (by decide) (fun c16 => ?_) (fun c16 => ?_)
      · replace h := (ite_h h).2 c16
        refine v_iconst C 0 dX12_goThrough_47 rfl ?_
        exact v_Mo_goThrough_b48 C K hk8 h
      · replace h := (ite_h h).1 c16
        refine v_iconst C 1 dX12_goThrough_43 rfl ?_
        refine v_goto C 48 dX12_goThrough_44 (by decide) ?_
        exact v_Mo_goThrough_b48 C K hk8 h
def f_Mo_goThrough_l8 : Nat → Int32 → Int32 → Int32 → Int32 → Int32 → Mem → Option Mem
  | 0, _, _, _, _, _, _ => none
  | n + 1, a1, a2, a3, a4, a5, M => f_Mo_goThrough_l8B (f_Mo_goThrough_l8 n) a1 a2 a3 a4 a5 M
theorem v_Mo_goThrough_l8 {S : SE} {X : MX} {q : Mem} (C : CX S X cX12_goThrough 6 RX12 2) (K : RT S X none none q) : ∀ (n : Nat) (a1 : Int32) (a2 : Int32) (a3 : Int32) (a4 : Int32) (a5 : Int32) (M : Mem), f_Mo_goThrough_l8 n a1 a2 a3 a4 a5 M = some q → V S X 6 M 8 [(0, .ref (S.2.1 91)), (1, .int a1), (2, .int a2), (3, .int a3), (4, .int a4), (5, .int a5)] [] := by
  intro n
  induction n with
  | zero => intro a1 a2 a3 a4 a5 M h; cases h
  | succ n ih => intro a1 a2 a3 a4 a5 M h; exact v_Mo_goThrough_l8B C K ih h
def f_Mo_goThrough (M : Mem) (a1 : Int32) (a2 : Int32) (a3 : Int32) (a4 : Int32) : Option Mem :=
  bnd (mset M 91 21 0) fun M1 =>
  f_Mo_goThrough_l8 FU a1 a2 a3 a4 0 M1
set_option maxRecDepth 20000 in
theorem v_Mo_goThrough {S : SE} {X : MX} {q : Mem} {M : Mem} {a1 : Int32} {a2 : Int32} {a3 : Int32} {a4 : Int32} (C : CX S X cX12_goThrough 6 RX12 2) (K : RT S X none none q) (h : f_Mo_goThrough M a1 a2 a3 a4 = some q) : V S X 6 M 0 [(0, .ref (S.2.1 91)), (1, .int a1), (2, .int a2), (3, .int a3), (4, .int a4)] [] := by
  unfold f_Mo_goThrough at h
  refine v_aload_n C 0 dX12_goThrough_0 rfl ?_
  refine v_iconst C 0 dX12_goThrough_1 rfl ?_
  refine p_Mo_outMany C kk91 fl_X12_178 dX12_goThrough_2 ?_
  refine v_nmm h (fun M1 h => ?_)
  refine v_iconst C 0 dX12_goThrough_5 rfl ?_
  refine v_istore C [(5, .int 0), (0, .ref (S.2.1 91)), (1, .int a1), (2, .int a2), (3, .int a3), (4, .int a4)] dX12_goThrough_6 (by decide) rfl ?_
  refine v_sub [1, 2, 3, 4, 5, 0] rfl ?_
  exact v_Mo_goThrough_l8 C K FU _ _ _ _ _ _ h
theorem m_Mo_goThrough {S : SE} (hI : Inj S) (M : Mem) (a1 : Int32) (a2 : Int32) (a3 : Int32) (a4 : Int32) (q : Mem) (h : f_Mo_goThrough M a1 a2 a3 a4 = some q) : CM S yX12_goThrough cX12_goThrough 6 none 2 [.ref (S.2.1 91), .int a1, .int a2, .int a3, .int a4] M none q :=
  CM.of [(0, .ref (S.2.1 91)), (1, .int a1), (2, .int a2), (3, .int a3), (4, .int a4)] hI (by decide) rfl (Nat.le_of_ble_eq_true rfl) (fun X C K => v_Mo_goThrough C K  h)
def f_Mo_asksFor_b116 (s0 : Int32) (s1 : Int32) (s2 : Int32) (s3 : Int32) (M : Mem) : Option Mem :=
  (f_Mo_goThrough M s3 s2 s1 s0).bind fun q3 =>
  some q3
set_option maxRecDepth 20000 in
theorem v_Mo_asksFor_b116 {S : SE} {X : MX} {q : Mem} {s0 : Int32} {s1 : Int32} {s2 : Int32} {s3 : Int32} {M : Mem} (C : CX S X cX12_asksFor 4 RX12 3) (K : RT S X none none q) (h : f_Mo_asksFor_b116 s0 s1 s2 s3 M = some q) : V S X 4 M 116 [] [.int s0, .int s1, .int s2, .int s3, .ref (S.2.1 91)] := by
  unfold f_Mo_asksFor_b116 at h
  obtain ⟨q3, hq3, h⟩ := Option.bind_eq_some_iff.mp h
  refine cv12v C [] kk91 (m_Mo_goThrough C.inj M s3 s2 s1 s0 q3 hq3) ci_Mo_goThrough rfl lk_X12_221 (by decide) rfl rfl (Nat.le_of_ble_eq_true rfl) dX12_asksFor_116 ?_
  obtain rfl := Option.some.inj h
  exact v_vret C K dX12_asksFor_119
def f_Mo_asksFor_b77 (k34 : Int32 → Int32 → Int32 → Mem → Option Mem) (a1 : Int32) (a2 : Int32) (a3 : Int32) (M : Mem) : Option Mem :=
  k34 a1 a2 (a3 + 1) M
set_option maxRecDepth 20000 in
theorem v_Mo_asksFor_b77 {S : SE} {X : MX} {q : Mem} {k34 : Int32 → Int32 → Int32 → Mem → Option Mem} {a1 : Int32} {a2 : Int32} {a3 : Int32} {M : Mem} (C : CX S X cX12_asksFor 4 RX12 3) (K : RT S X none none q) (hk34 : ∀ (a1 : Int32) (a2 : Int32) (a3 : Int32) (M : Mem), k34 a1 a2 a3 M = some q → V S X 4 M 34 [(0, .ref (S.2.1 91)), (1, .int a1), (2, .int a2), (3, .int a3)] []) (h : f_Mo_asksFor_b77 k34 a1 a2 a3 M = some q) : V S X 4 M 77 [(0, .ref (S.2.1 91)), (1, .int a1), (2, .int a2), (3, .int a3)] [] := by
  unfold f_Mo_asksFor_b77 at h
  refine v_iinc C [(3, .int (a3 + 1)), (0, .ref (S.2.1 91)), (1, .int a1), (2, .int a2)] 3 (a3 + 1) dX12_asksFor_77 rfl rfl (by decide) rfl ?_
  refine v_goto C 34 dX12_asksFor_80 (by decide) ?_
  refine v_sub [1, 2, 3, 0] rfl ?_
  exact hk34 _ _ _ _ h
def f_Mo_asksFor_l34B (k34 : Int32 → Int32 → Int32 → Mem → Option Mem) (a1 : Int32) (a2 : Int32) (a3 : Int32) (M : Mem) : Option Mem :=
  if (M 91 6) ≤ a3 then
    if (M 91 10) = 6 then
      f_Mo_asksFor_b116 1 a1 (M 91 6) a2 M
    else
      if (M 91 10) = 5 then
        f_Mo_asksFor_b116 2 a1 (M 91 6) a2 M
      else
        f_Mo_asksFor_b116 (-1) a1 (M 91 6) a2 M
  else
    if gin a3 12 then
      if (M 98 a3.toNatClampNeg) = 6 then
        if a3 = (M 91 11) then
          f_Mo_asksFor_b77 k34 a1 a2 a3 M
        else
          (f_Mo_goThrough M a2 a3 a1 (-1)).bind fun q7 =>
          (f_Mo_groups q7).bind fun q8 =>
          bnd (a3 + 1) fun x9 =>
          f_Mo_asksFor_b77 k34 a1 x9 a3 q8
      else
        f_Mo_asksFor_b77 k34 a1 a2 a3 M
    else none
set_option maxRecDepth 20000 in
theorem v_Mo_asksFor_l34B {S : SE} {X : MX} {q : Mem} {k34 : Int32 → Int32 → Int32 → Mem → Option Mem} {a1 : Int32} {a2 : Int32} {a3 : Int32} {M : Mem} (C : CX S X cX12_asksFor 4 RX12 3) (K : RT S X none none q) (hk34 : ∀ (a1 : Int32) (a2 : Int32) (a3 : Int32) (M : Mem), k34 a1 a2 a3 M = some q → V S X 4 M 34 [(0, .ref (S.2.1 91)), (1, .int a1), (2, .int a2), (3, .int a3)] []) (h : f_Mo_asksFor_l34B k34 a1 a2 a3 M = some q) : V S X 4 M 34 [(0, .ref (S.2.1 91)), (1, .int a1), (2, .int a2), (3, .int a3)] [] := by
  unfold f_Mo_asksFor_l34B at h
  refine v_iload_n C 3 dX12_asksFor_34 rfl ?_
  refine v_aload_n C 0 dX12_asksFor_35 rfl ?_
  refine g_Mo_stepsTold C kk91 fl_X12_145 dX12_asksFor_36 ?_
  refine v_icmp_ge C 83 dX12_asksFor_39 (by decide) (fun c12 => ?_) (fun c12 => ?_)
  · replace h := (ite_h h).1 c12
    refine v_aload_n C 0 dX12_asksFor_83 rfl ?_
    refine v_iload_n C 2 dX12_asksFor_84 rfl ?_
    refine v_aload_n C 0 dX12_asksFor_85 rfl ?_
    refine g_Mo_stepsTold C kk91 fl_X12_145 dX12_asksFor_86 ?_
    refine v_iload_n C 1 dX12_asksFor_89 rfl ?_
    refine v_aload_n C 0 dX12_asksFor_90 rfl ?_
    refine g_Mo_endNow C kk91 fl_X12_184 dX12_asksFor_91 ?_
    refine v_bipush C 6 dX12_asksFor_94 rfl ?_
    refine v_icmp_ne C 103 dX12_asksFor_96 (by decide) (fun c5 => ?_) (fun c5 => ?_)
    · replace h := (ite_h h).2 c5
      refine v_aload_n C 0 dX12_asksFor_103 rfl ?_
      refine g_Mo_endNow C kk91 fl_X12_184 dX12_asksFor_104 ?_
      refine v_iconst C 5 dX12_asksFor_107 rfl ?_
      refine v_icmp_ne C 115 dX12_asksFor_108 (by decide) (fun c4 => ?_) (fun c4 => ?_)
      · replace h := (ite_h h).2 c4
        refine v_iconst C (-1) dX12_asksFor_115 rfl ?_
        refine v_sub [] rfl ?_
        exact v_Mo_asksFor_b116 C K h
      · replace h := (ite_h h).1 c4
        refine v_iconst C 2 dX12_asksFor_111 rfl ?_
        refine v_goto C 116 dX12_asksFor_112 (by decide) ?_
        refine v_sub [] rfl ?_
        exact v_Mo_asksFor_b116 C K h
    · replace h := (ite_h h).1 c5
      refine v_iconst C 1 dX12_asksFor_99 rfl ?_
      refine v_goto C 116 dX12_asksFor_100 (by decide) ?_
      refine v_sub [] rfl ?_
      exact v_Mo_asksFor_b116 C K h
  · replace h := (ite_h h).2 c12
    refine v_aload_n C 0 dX12_asksFor_42 rfl ?_
    refine g_Mo_kinds C kk91 fl_X12_28 dX12_asksFor_43 ?_
    refine v_iload_n C 3 dX12_asksFor_46 rfl ?_
    obtain ⟨g6, h⟩ := gd_h h
    refine v_iald C kk98 ll98 g6 dX12_asksFor_47 ?_
    refine v_bipush C 6 dX12_asksFor_48 rfl ?_
    refine v_icmp_ne C 77 dX12_asksFor_50 (by decide) (fun c11 => ?_) (fun c11 => ?_)
    · replace h := (ite_h h).2 c11
      exact v_Mo_asksFor_b77 C K hk34 h
    · replace h := (ite_h h).1 c11
      refine v_iload_n C 3 dX12_asksFor_53 rfl ?_
      refine v_aload_n C 0 dX12_asksFor_54 rfl ?_
      refine g_Mo_without C kk91 fl_X12_190 dX12_asksFor_55 ?_
      refine v_icmp_eq C 77 dX12_asksFor_58 (by decide) (fun c10 => ?_) (fun c10 => ?_)
      · replace h := (ite_h h).1 c10
        exact v_Mo_asksFor_b77 C K hk34 h
      · replace h := (ite_h h).2 c10
        refine v_aload_n C 0 dX12_asksFor_61 rfl ?_
        refine v_iload_n C 2 dX12_asksFor_62 rfl ?_
        refine v_iload_n C 3 dX12_asksFor_63 rfl ?_
        refine v_iload_n C 1 dX12_asksFor_64 rfl ?_
        refine v_iconst C (-1) dX12_asksFor_65 rfl ?_
        obtain ⟨q7, hq7, h⟩ := Option.bind_eq_some_iff.mp h
        refine cv12v C [] kk91 (m_Mo_goThrough C.inj M a2 a3 a1 (-1) q7 hq7) ci_Mo_goThrough rfl lk_X12_221 (by decide) rfl rfl (Nat.le_of_ble_eq_true rfl) dX12_asksFor_66 ?_
        refine v_aload_n C 0 dX12_asksFor_69 rfl ?_
        obtain ⟨q8, hq8, h⟩ := Option.bind_eq_some_iff.mp h
        refine cv12v C [] kk91 (m_Mo_groups C.inj q7 q8 hq8) ci_Mo_groups rfl lk_X12_225 (by decide) rfl rfl (Nat.le_of_ble_eq_true rfl) dX12_asksFor_70 ?_
        refine v_iload_n C 3 dX12_asksFor_73 rfl ?_
        refine v_iconst C 1 dX12_asksFor_74 rfl ?_
        refine v_iadd C dX12_asksFor_75 ?_
        refine v_nmi h (fun x9 h => ?_)
        refine v_istore_n C [(2, .int x9), (0, .ref (S.2.1 91)), (1, .int a1), (3, .int a3)] dX12_asksFor_76 (by decide) rfl ?_
        refine v_sub [1, 2, 0, 3] rfl ?_
        exact v_Mo_asksFor_b77 C K hk34 h
def f_Mo_asksFor_l34 : Nat → Int32 → Int32 → Int32 → Mem → Option Mem
  | 0, _, _, _, _ => none
  | n + 1, a1, a2, a3, M => f_Mo_asksFor_l34B (f_Mo_asksFor_l34 n) a1 a2 a3 M
theorem v_Mo_asksFor_l34 {S : SE} {X : MX} {q : Mem} (C : CX S X cX12_asksFor 4 RX12 3) (K : RT S X none none q) : ∀ (n : Nat) (a1 : Int32) (a2 : Int32) (a3 : Int32) (M : Mem), f_Mo_asksFor_l34 n a1 a2 a3 M = some q → V S X 4 M 34 [(0, .ref (S.2.1 91)), (1, .int a1), (2, .int a2), (3, .int a3)] [] := by
  intro n
  induction n with
  | zero => intro a1 a2 a3 M h; cases h
  | succ n ih => intro a1 a2 a3 M h; exact v_Mo_asksFor_l34B C K ih h
def f_Mo_asksFor_l13B (k13 : Int32 → Int32 → Int32 → Mem → Option Mem) (a1 : Int32) (a2 : Int32) (a3 : Int32) (M : Mem) : Option Mem :=
  if 12 ≤ a3 then
    f_Mo_asksFor_l34 FU a1 a2 0 M
  else
    if gin a3 12 then
      bnd (mset M 111 a3.toNatClampNeg 0) fun M14 =>
      k13 a1 a2 (a3 + 1) M14
    else none
set_option maxRecDepth 20000 in
theorem v_Mo_asksFor_l13B {S : SE} {X : MX} {q : Mem} {k13 : Int32 → Int32 → Int32 → Mem → Option Mem} {a1 : Int32} {a2 : Int32} {a3 : Int32} {M : Mem} (C : CX S X cX12_asksFor 4 RX12 3) (K : RT S X none none q) (hk13 : ∀ (a1 : Int32) (a2 : Int32) (a3 : Int32) (M : Mem), k13 a1 a2 a3 M = some q → V S X 4 M 13 [(0, .ref (S.2.1 91)), (1, .int a1), (2, .int a2), (3, .int a3)] []) (h : f_Mo_asksFor_l13B k13 a1 a2 a3 M = some q) : V S X 4 M 13 [(0, .ref (S.2.1 91)), (1, .int a1), (2, .int a2), (3, .int a3)] [] := by
  unfold f_Mo_asksFor_l13B at h
  refine v_iload_n C 3 dX12_asksFor_13 rfl ?_
  refine v_bipush C 12 dX12_asksFor_14 rfl ?_
  refine v_icmp_ge C 32 dX12_asksFor_16 (by decide) (fun c15 => ?_) (fun c15 => ?_)
  · replace h := (ite_h h).1 c15
    refine v_iconst C 0 dX12_asksFor_32 rfl ?_
    refine v_istore_n C [(3, .int 0), (0, .ref (S.2.1 91)), (1, .int a1), (2, .int a2)] dX12_asksFor_33 (by decide) rfl ?_
    refine v_sub [1, 2, 3, 0] rfl ?_
    exact v_Mo_asksFor_l34 C K FU _ _ _ _ h
  · replace h := (ite_h h).2 c15
    refine v_aload_n C 0 dX12_asksFor_19 rfl ?_
    refine g_Mo_hadMany C kk91 fl_X12_67 dX12_asksFor_20 ?_
    refine v_iload_n C 3 dX12_asksFor_23 rfl ?_
    refine v_iconst C 0 dX12_asksFor_24 rfl ?_
    obtain ⟨g13, h⟩ := gd_h h
    refine v_iast C kk111 ll111 g13 dX12_asksFor_25 ?_
    refine v_nmm h (fun M14 h => ?_)
    refine v_iinc C [(3, .int (a3 + 1)), (0, .ref (S.2.1 91)), (1, .int a1), (2, .int a2)] 3 (a3 + 1) dX12_asksFor_26 rfl rfl (by decide) rfl ?_
    refine v_goto C 13 dX12_asksFor_29 (by decide) ?_
    refine v_sub [1, 2, 3, 0] rfl ?_
    exact hk13 _ _ _ _ h
def f_Mo_asksFor_l13 : Nat → Int32 → Int32 → Int32 → Mem → Option Mem
  | 0, _, _, _, _ => none
  | n + 1, a1, a2, a3, M => f_Mo_asksFor_l13B (f_Mo_asksFor_l13 n) a1 a2 a3 M
theorem v_Mo_asksFor_l13 {S : SE} {X : MX} {q : Mem} (C : CX S X cX12_asksFor 4 RX12 3) (K : RT S X none none q) : ∀ (n : Nat) (a1 : Int32) (a2 : Int32) (a3 : Int32) (M : Mem), f_Mo_asksFor_l13 n a1 a2 a3 M = some q → V S X 4 M 13 [(0, .ref (S.2.1 91)), (1, .int a1), (2, .int a2), (3, .int a3)] [] := by
  intro n
  induction n with
  | zero => intro a1 a2 a3 M h; cases h
  | succ n ih => intro a1 a2 a3 M h; exact v_Mo_asksFor_l13B C K ih h
def f_Mo_asksFor (M : Mem) (a1 : Int32) : Option Mem :=
  bnd (mset M 91 30 0) fun M1 =>
  (f_Mo_comesOfInner M1).bind fun q2 =>
  f_Mo_asksFor_l13 FU a1 0 0 q2
set_option maxRecDepth 20000 in
theorem v_Mo_asksFor {S : SE} {X : MX} {q : Mem} {M : Mem} {a1 : Int32} (C : CX S X cX12_asksFor 4 RX12 3) (K : RT S X none none q) (h : f_Mo_asksFor M a1 = some q) : V S X 4 M 0 [(0, .ref (S.2.1 91)), (1, .int a1)] [] := by
  unfold f_Mo_asksFor at h
  refine v_iconst C 0 dX12_asksFor_0 rfl ?_
  refine v_istore_n C [(2, .int 0), (0, .ref (S.2.1 91)), (1, .int a1)] dX12_asksFor_1 (by decide) rfl ?_
  refine v_aload_n C 1 dX12_asksFor_2 rfl ?_
  refine v_iconst C 0 dX12_asksFor_3 rfl ?_
  refine p_Mo_isOver C kk91 (Or.inl rfl) fl_X12_207 dX12_asksFor_4 ?_
  refine v_nmm h (fun M1 h => ?_)
  refine v_aload_n C 1 dX12_asksFor_7 rfl ?_
  obtain ⟨q2, hq2, h⟩ := Option.bind_eq_some_iff.mp h
  refine cv12v C [] kk91 (m_Mo_comesOfInner C.inj M1 q2 hq2) ci_Mo_comesOfInner rfl lk_X12_218 (by decide) rfl rfl (Nat.le_of_ble_eq_true rfl) dX12_asksFor_8 ?_
  refine v_iconst C 0 dX12_asksFor_11 rfl ?_
  refine v_istore_n C [(3, .int 0), (2, .int 0), (0, .ref (S.2.1 91)), (1, .int a1)] dX12_asksFor_12 (by decide) rfl ?_
  refine v_sub [2, 3, 1, 0] rfl ?_
  exact v_Mo_asksFor_l13 C K FU _ _ _ _ h
theorem m_Mo_asksFor {S : SE} (hI : Inj S) (M : Mem) (a1 : Int32) (q : Mem) (h : f_Mo_asksFor M a1 = some q) : CM S yX12_asksFor cX12_asksFor 4 none 3 [.ref (S.2.1 91), .int a1] M none q :=
  CM.of [(0, .ref (S.2.1 91)), (1, .int a1)] hI (by decide) rfl (Nat.le_of_ble_eq_true rfl) (fun X C K => v_Mo_asksFor C K  h)
def f_Mo_opens (M : Mem) (a1 : Int32) (a2 : Int32) : Option Mem :=
  (f_Mo_logs M a1 a2).bind fun q1 =>
  if gin ((5 * a1) + 2) 10 then
    if gin ((5 * a1) + 2) 10 then
      bnd (mset q1 102 ((5 * a1) + 2).toNatClampNeg ((q1 102 ((5 * a1) + 2).toNatClampNeg) + 1)) fun M4 =>
      some M4
    else none
  else none
set_option maxRecDepth 20000 in
theorem v_Mo_opens {S : SE} {X : MX} {q : Mem} {M : Mem} {a1 : Int32} {a2 : Int32} (C : CX S X cX12_opens 3 RX12 1) (K : RT S X none none q) (h : f_Mo_opens M a1 a2 = some q) : V S X 3 M 0 [(0, .ref (S.2.1 91)), (1, .int a1), (2, .int a2)] [] := by
  unfold f_Mo_opens at h
  refine v_aload_n C 0 dX12_opens_0 rfl ?_
  refine v_iload_n C 1 dX12_opens_1 rfl ?_
  refine v_iload_n C 2 dX12_opens_2 rfl ?_
  obtain ⟨q1, hq1, h⟩ := Option.bind_eq_some_iff.mp h
  refine cv12v C [] kk91 (m_Mo_logs C.inj M a1 a2 q1 hq1) ci_Mo_logs rfl lk_X12_228 (by decide) rfl rfl (Nat.le_of_ble_eq_true rfl) dX12_opens_3 ?_
  refine v_aload_n C 0 dX12_opens_6 rfl ?_
  refine g_Mo_costs C kk91 fl_X12_40 dX12_opens_7 ?_
  refine v_iconst C 5 dX12_opens_10 rfl ?_
  refine v_iload_n C 1 dX12_opens_11 rfl ?_
  refine v_imul C dX12_opens_12 ?_
  refine v_iconst C 2 dX12_opens_13 rfl ?_
  refine v_iadd C dX12_opens_14 ?_
  refine v_dup2 C dX12_opens_15 rfl rfl ?_
  obtain ⟨g2, h⟩ := gd_h h
  refine v_iald C kk102 ll102 g2 dX12_opens_16 ?_
  refine v_iconst C 1 dX12_opens_17 rfl ?_
  refine v_iadd C dX12_opens_18 ?_
  obtain ⟨g3, h⟩ := gd_h h
  refine v_iast C kk102 ll102 g3 dX12_opens_19 ?_
  refine v_nmm h (fun M4 h => ?_)
  obtain rfl := Option.some.inj h
  exact v_vret C K dX12_opens_20
theorem m_Mo_opens {S : SE} (hI : Inj S) (M : Mem) (a1 : Int32) (a2 : Int32) (q : Mem) (h : f_Mo_opens M a1 a2 = some q) : CM S yX12_opens cX12_opens 3 none 1 [.ref (S.2.1 91), .int a1, .int a2] M none q :=
  CM.of [(0, .ref (S.2.1 91)), (1, .int a1), (2, .int a2)] hI (by decide) rfl (Nat.le_of_ble_eq_true rfl) (fun X C K => v_Mo_opens C K  h)
def f_Mo_begins_l16B (k16 : Int32 → Int32 → Mem → Option Mem) (a1 : Int32) (a2 : Int32) (M : Mem) : Option Mem :=
  if 5 ≤ a2 then
    bnd (mset M 91 28 0) fun M5 =>
    bnd (mset M5 91 29 0) fun M6 =>
    some M6
  else
    if gin ((5 * a1) + a2) 10 then
      bnd (mset M 102 ((5 * a1) + a2).toNatClampNeg 0) fun M8 =>
      k16 a1 (a2 + 1) M8
    else none
set_option maxRecDepth 20000 in
theorem v_Mo_begins_l16B {S : SE} {X : MX} {q : Mem} {k16 : Int32 → Int32 → Mem → Option Mem} {a1 : Int32} {a2 : Int32} {M : Mem} (C : CX S X cX12_begins 3 RX12 0) (K : RT S X none none q) (hk16 : ∀ (a1 : Int32) (a2 : Int32) (M : Mem), k16 a1 a2 M = some q → V S X 3 M 16 [(0, .ref (S.2.1 91)), (1, .int a1), (2, .int a2)] []) (h : f_Mo_begins_l16B k16 a1 a2 M = some q) : V S X 3 M 16 [(0, .ref (S.2.1 91)), (1, .int a1), (2, .int a2)] [] := by
  unfold f_Mo_begins_l16B at h
  refine v_iload_n C 2 dX12_begins_16 rfl ?_
  refine v_iconst C 5 dX12_begins_17 rfl ?_
  refine v_icmp_ge C 38 dX12_begins_18 (by decide) (fun c9 => ?_) (fun c9 => ?_)
  · replace h := (ite_h h).1 c9
    refine v_aload_n C 0 dX12_begins_38 rfl ?_
    refine v_iconst C 0 dX12_begins_39 rfl ?_
    refine p_Mo_handed C kk91 fl_X12_200 dX12_begins_40 ?_
    refine v_nmm h (fun M5 h => ?_)
    refine v_aload_n C 0 dX12_begins_43 rfl ?_
    refine v_iconst C 0 dX12_begins_44 rfl ?_
    refine p_Mo_readMany C kk91 fl_X12_211 dX12_begins_45 ?_
    refine v_nmm h (fun M6 h => ?_)
    obtain rfl := Option.some.inj h
    exact v_vret C K dX12_begins_48
  · replace h := (ite_h h).2 c9
    refine v_aload_n C 0 dX12_begins_21 rfl ?_
    refine g_Mo_costs C kk91 fl_X12_40 dX12_begins_22 ?_
    refine v_iconst C 5 dX12_begins_25 rfl ?_
    refine v_iload_n C 1 dX12_begins_26 rfl ?_
    refine v_imul C dX12_begins_27 ?_
    refine v_iload_n C 2 dX12_begins_28 rfl ?_
    refine v_iadd C dX12_begins_29 ?_
    refine v_iconst C 0 dX12_begins_30 rfl ?_
    obtain ⟨g7, h⟩ := gd_h h
    refine v_iast C kk102 ll102 g7 dX12_begins_31 ?_
    refine v_nmm h (fun M8 h => ?_)
    refine v_iinc C [(2, .int (a2 + 1)), (0, .ref (S.2.1 91)), (1, .int a1)] 2 (a2 + 1) dX12_begins_32 rfl rfl (by decide) rfl ?_
    refine v_goto C 16 dX12_begins_35 (by decide) ?_
    refine v_sub [1, 2, 0] rfl ?_
    exact hk16 _ _ _ h
def f_Mo_begins_l16 : Nat → Int32 → Int32 → Mem → Option Mem
  | 0, _, _, _ => none
  | n + 1, a1, a2, M => f_Mo_begins_l16B (f_Mo_begins_l16 n) a1 a2 M
theorem v_Mo_begins_l16 {S : SE} {X : MX} {q : Mem} (C : CX S X cX12_begins 3 RX12 0) (K : RT S X none none q) : ∀ (n : Nat) (a1 : Int32) (a2 : Int32) (M : Mem), f_Mo_begins_l16 n a1 a2 M = some q → V S X 3 M 16 [(0, .ref (S.2.1 91)), (1, .int a1), (2, .int a2)] [] := by
  intro n
  induction n with
  | zero => intro a1 a2 M h; cases h
  | succ n ih => intro a1 a2 M h; exact v_Mo_begins_l16B C K ih h
def f_Mo_begins (M : Mem) (a1 : Int32) : Option Mem :=
  if gin a1 2 then
    bnd (mset M 103 a1.toNatClampNeg 0) fun M2 =>
    if gin a1 2 then
      bnd (mset M2 100 a1.toNatClampNeg (-1)) fun M4 =>
      f_Mo_begins_l16 FU a1 0 M4
    else none
  else none
set_option maxRecDepth 20000 in
theorem v_Mo_begins {S : SE} {X : MX} {q : Mem} {M : Mem} {a1 : Int32} (C : CX S X cX12_begins 3 RX12 0) (K : RT S X none none q) (h : f_Mo_begins M a1 = some q) : V S X 3 M 0 [(0, .ref (S.2.1 91)), (1, .int a1)] [] := by
  unfold f_Mo_begins at h
  refine v_aload_n C 0 dX12_begins_0 rfl ?_
  refine g_Mo_logged C kk91 fl_X12_43 dX12_begins_1 ?_
  refine v_iload_n C 1 dX12_begins_4 rfl ?_
  refine v_iconst C 0 dX12_begins_5 rfl ?_
  obtain ⟨g1, h⟩ := gd_h h
  refine v_iast C kk103 ll103 g1 dX12_begins_6 ?_
  refine v_nmm h (fun M2 h => ?_)
  refine v_aload_n C 0 dX12_begins_7 rfl ?_
  refine g_Mo_errorAt C kk91 fl_X12_34 dX12_begins_8 ?_
  refine v_iload_n C 1 dX12_begins_11 rfl ?_
  refine v_iconst C (-1) dX12_begins_12 rfl ?_
  obtain ⟨g3, h⟩ := gd_h h
  refine v_iast C kk100 ll100 g3 dX12_begins_13 ?_
  refine v_nmm h (fun M4 h => ?_)
  refine v_iconst C 0 dX12_begins_14 rfl ?_
  refine v_istore_n C [(2, .int 0), (0, .ref (S.2.1 91)), (1, .int a1)] dX12_begins_15 (by decide) rfl ?_
  refine v_sub [1, 2, 0] rfl ?_
  exact v_Mo_begins_l16 C K FU _ _ _ h
theorem m_Mo_begins {S : SE} (hI : Inj S) (M : Mem) (a1 : Int32) (q : Mem) (h : f_Mo_begins M a1 = some q) : CM S yX12_begins cX12_begins 3 none 0 [.ref (S.2.1 91), .int a1] M none q :=
  CM.of [(0, .ref (S.2.1 91)), (1, .int a1)] hI (by decide) rfl (Nat.le_of_ble_eq_true rfl) (fun X C K => v_Mo_begins C K  h)
def f_Mo_rowByRow_b160 (M : Mem) : Option Mem :=
  bnd (mset M 102 (0 : Int32).toNatClampNeg (M 91 29)) fun M2 =>
  bnd (mset M2 102 (1 : Int32).toNatClampNeg (M2 91 28)) fun M3 =>
  some M3
set_option maxRecDepth 20000 in
theorem v_Mo_rowByRow_b160 {S : SE} {X : MX} {q : Mem} {M : Mem} (C : CX S X cX12_rowByRow 3 RX12 4) (K : RT S X none none q) (h : f_Mo_rowByRow_b160 M = some q) : V S X 3 M 160 [(0, .ref (S.2.1 91))] [] := by
  unfold f_Mo_rowByRow_b160 at h
  refine v_aload_n C 0 dX12_rowByRow_160 rfl ?_
  refine g_Mo_costs C kk91 fl_X12_40 dX12_rowByRow_161 ?_
  refine v_iconst C 0 dX12_rowByRow_164 rfl ?_
  refine v_aload_n C 0 dX12_rowByRow_165 rfl ?_
  refine g_Mo_readMany C kk91 fl_X12_211 dX12_rowByRow_166 ?_
  refine v_iast C kk102 ll102 (by decide) dX12_rowByRow_169 ?_
  refine v_nmm h (fun M2 h => ?_)
  refine v_aload_n C 0 dX12_rowByRow_170 rfl ?_
  refine g_Mo_costs C kk91 fl_X12_40 dX12_rowByRow_171 ?_
  refine v_iconst C 1 dX12_rowByRow_174 rfl ?_
  refine v_aload_n C 0 dX12_rowByRow_175 rfl ?_
  refine g_Mo_handed C kk91 fl_X12_200 dX12_rowByRow_176 ?_
  refine v_iast C kk102 ll102 (by decide) dX12_rowByRow_179 ?_
  refine v_nmm h (fun M3 h => ?_)
  obtain rfl := Option.some.inj h
  exact v_vret C K dX12_rowByRow_180
def f_Mo_rowByRow_l111B (k7 : Int32 → Mem → Option Mem) (k111 : Int32 → Int32 → Mem → Option Mem) (a1 : Int32) (a2 : Int32) (M : Mem) : Option Mem :=
  if a2 < 0 then
    (f_Mo_logs M 0 10).bind fun q14 =>
    bnd (mset q14 102 (3 : Int32).toNatClampNeg ((q14 91 6) + 1)) fun M15 =>
    k7 (a1 + 1) M15
  else
    if gin a2 12 then
      (f_Mo_logs M 0 (10 + (M 98 a2.toNatClampNeg))).bind fun q17 =>
      k111 a1 (a2 + (-1)) q17
    else none
set_option maxRecDepth 20000 in
theorem v_Mo_rowByRow_l111B {S : SE} {X : MX} {q : Mem} {k7 : Int32 → Mem → Option Mem} {k111 : Int32 → Int32 → Mem → Option Mem} {a1 : Int32} {a2 : Int32} {M : Mem} (C : CX S X cX12_rowByRow 3 RX12 4) (K : RT S X none none q) (hk7 : ∀ (a1 : Int32) (M : Mem), k7 a1 M = some q → V S X 3 M 7 [(0, .ref (S.2.1 91)), (1, .int a1)] []) (hk111 : ∀ (a1 : Int32) (a2 : Int32) (M : Mem), k111 a1 a2 M = some q → V S X 3 M 111 [(0, .ref (S.2.1 91)), (1, .int a1), (2, .int a2)] []) (h : f_Mo_rowByRow_l111B k7 k111 a1 a2 M = some q) : V S X 3 M 111 [(0, .ref (S.2.1 91)), (1, .int a1), (2, .int a2)] [] := by
  unfold f_Mo_rowByRow_l111B at h
  refine v_iload_n C 2 dX12_rowByRow_111 rfl ?_
  refine v_if_lt C 135 dX12_rowByRow_112 (by decide) (fun c18 => ?_) (fun c18 => ?_)
  · replace h := (ite_h h).1 c18
    refine v_aload_n C 0 dX12_rowByRow_135 rfl ?_
    refine v_iconst C 0 dX12_rowByRow_136 rfl ?_
    refine v_bipush C 10 dX12_rowByRow_137 rfl ?_
    obtain ⟨q14, hq14, h⟩ := Option.bind_eq_some_iff.mp h
    refine cv12v C [] kk91 (m_Mo_logs C.inj M 0 10 q14 hq14) ci_Mo_logs rfl lk_X12_228 (by decide) rfl rfl (Nat.le_of_ble_eq_true rfl) dX12_rowByRow_139 ?_
    refine v_aload_n C 0 dX12_rowByRow_142 rfl ?_
    refine g_Mo_costs C kk91 fl_X12_40 dX12_rowByRow_143 ?_
    refine v_iconst C 3 dX12_rowByRow_146 rfl ?_
    refine v_aload_n C 0 dX12_rowByRow_147 rfl ?_
    refine g_Mo_stepsTold C kk91 fl_X12_145 dX12_rowByRow_148 ?_
    refine v_iconst C 1 dX12_rowByRow_151 rfl ?_
    refine v_iadd C dX12_rowByRow_152 ?_
    refine v_iast C kk102 ll102 (by decide) dX12_rowByRow_153 ?_
    refine v_nmm h (fun M15 h => ?_)
    refine v_iinc C [(1, .int (a1 + 1)), (0, .ref (S.2.1 91)), (2, .int a2)] 1 (a1 + 1) dX12_rowByRow_154 rfl rfl (by decide) rfl ?_
    refine v_goto C 7 dX12_rowByRow_157 (by decide) ?_
    refine v_sub [1, 0] rfl ?_
    exact hk7 _ _ h
  · replace h := (ite_h h).2 c18
    refine v_aload_n C 0 dX12_rowByRow_115 rfl ?_
    refine v_iconst C 0 dX12_rowByRow_116 rfl ?_
    refine v_bipush C 10 dX12_rowByRow_117 rfl ?_
    refine v_aload_n C 0 dX12_rowByRow_119 rfl ?_
    refine g_Mo_kinds C kk91 fl_X12_28 dX12_rowByRow_120 ?_
    refine v_iload_n C 2 dX12_rowByRow_123 rfl ?_
    obtain ⟨g16, h⟩ := gd_h h
    refine v_iald C kk98 ll98 g16 dX12_rowByRow_124 ?_
    refine v_iadd C dX12_rowByRow_125 ?_
    obtain ⟨q17, hq17, h⟩ := Option.bind_eq_some_iff.mp h
    refine cv12v C [] kk91 (m_Mo_logs C.inj M 0 (10 + (M 98 a2.toNatClampNeg)) q17 hq17) ci_Mo_logs rfl lk_X12_228 (by decide) rfl rfl (Nat.le_of_ble_eq_true rfl) dX12_rowByRow_126 ?_
    refine v_iinc C [(2, .int (a2 + (-1))), (0, .ref (S.2.1 91)), (1, .int a1)] 2 (a2 + (-1)) dX12_rowByRow_129 rfl rfl (by decide) rfl ?_
    refine v_goto C 111 dX12_rowByRow_132 (by decide) ?_
    refine v_sub [1, 2, 0] rfl ?_
    exact hk111 _ _ _ h
def f_Mo_rowByRow_l111 (k7 : Int32 → Mem → Option Mem) : Nat → Int32 → Int32 → Mem → Option Mem
  | 0, _, _, _ => none
  | n + 1, a1, a2, M => f_Mo_rowByRow_l111B k7 (f_Mo_rowByRow_l111 k7 n) a1 a2 M
theorem v_Mo_rowByRow_l111 {S : SE} {X : MX} {q : Mem} {k7 : Int32 → Mem → Option Mem} (C : CX S X cX12_rowByRow 3 RX12 4) (K : RT S X none none q) (hk7 : ∀ (a1 : Int32) (M : Mem), k7 a1 M = some q → V S X 3 M 7 [(0, .ref (S.2.1 91)), (1, .int a1)] []) : ∀ (n : Nat) (a1 : Int32) (a2 : Int32) (M : Mem), f_Mo_rowByRow_l111 k7 n a1 a2 M = some q → V S X 3 M 111 [(0, .ref (S.2.1 91)), (1, .int a1), (2, .int a2)] [] := by
  intro n
  induction n with
  | zero => intro a1 a2 M h; cases h
  | succ n ih => intro a1 a2 M h; exact v_Mo_rowByRow_l111B C K hk7 ih h
def f_Mo_rowByRow_b103 (k7 : Int32 → Mem → Option Mem) (a1 : Int32) (s0 : Int32) (s1 : Int32) (M : Mem) : Option Mem :=
  if gin s1 2 then
    bnd (mset M 100 s1.toNatClampNeg s0) fun M12 =>
    bnd ((M12 91 6) - 1) fun x13 =>
    f_Mo_rowByRow_l111 k7 FU a1 x13 M12
  else none
set_option maxRecDepth 20000 in
theorem v_Mo_rowByRow_b103 {S : SE} {X : MX} {q : Mem} {k7 : Int32 → Mem → Option Mem} {a1 : Int32} {s0 : Int32} {s1 : Int32} {M : Mem} (C : CX S X cX12_rowByRow 3 RX12 4) (K : RT S X none none q) (hk7 : ∀ (a1 : Int32) (M : Mem), k7 a1 M = some q → V S X 3 M 7 [(0, .ref (S.2.1 91)), (1, .int a1)] []) (h : f_Mo_rowByRow_b103 k7 a1 s0 s1 M = some q) : V S X 3 M 103 [(0, .ref (S.2.1 91)), (1, .int a1)] [.int s0, .int s1, .ref (S.2.1 100)] := by
  unfold f_Mo_rowByRow_b103 at h
  obtain ⟨g11, h⟩ := gd_h h
  refine v_iast C kk100 ll100 g11 dX12_rowByRow_103 ?_
  refine v_nmm h (fun M12 h => ?_)
  refine v_aload_n C 0 dX12_rowByRow_104 rfl ?_
  refine g_Mo_stepsTold C kk91 fl_X12_145 dX12_rowByRow_105 ?_
  refine v_iconst C 1 dX12_rowByRow_108 rfl ?_
  refine v_isub C dX12_rowByRow_109 ?_
  refine v_nmi h (fun x13 h => ?_)
  refine v_istore_n C [(2, .int x13), (0, .ref (S.2.1 91)), (1, .int a1)] dX12_rowByRow_110 (by decide) rfl ?_
  refine v_sub [1, 2, 0] rfl ?_
  exact v_Mo_rowByRow_l111 C K hk7 FU _ _ _ h
def f_Mo_rowByRow_l35B (k7 : Int32 → Mem → Option Mem) (k35 : Int32 → Int32 → Mem → Option Mem) (a1 : Int32) (a2 : Int32) (M : Mem) : Option Mem :=
  if (M 91 6) ≤ a2 then
    (f_Mo_asksFor M a1).bind fun q5 =>
    if gin a1 20 then
      (f_Mo_answerOf q5 (-1) (q5 97 a1.toNatClampNeg)).bind fun q7 =>
      if gin a1 20 then
        bnd (mset q5 101 a1.toNatClampNeg q7) fun M9 =>
        if gin a1 20 then
          if (M9 101 a1.toNatClampNeg) = (-2) then
            f_Mo_rowByRow_b103 k7 a1 a1 0 M9
          else
            f_Mo_rowByRow_b103 k7 a1 (-1) 0 M9
        else none
      else none
    else none
  else
    if gin a2 12 then
      (f_Mo_opens M 0 (M 98 a2.toNatClampNeg)).bind fun q21 =>
      k35 a1 (a2 + 1) q21
    else none
set_option maxRecDepth 20000 in
theorem v_Mo_rowByRow_l35B {S : SE} {X : MX} {q : Mem} {k7 : Int32 → Mem → Option Mem} {k35 : Int32 → Int32 → Mem → Option Mem} {a1 : Int32} {a2 : Int32} {M : Mem} (C : CX S X cX12_rowByRow 3 RX12 4) (K : RT S X none none q) (hk7 : ∀ (a1 : Int32) (M : Mem), k7 a1 M = some q → V S X 3 M 7 [(0, .ref (S.2.1 91)), (1, .int a1)] []) (hk35 : ∀ (a1 : Int32) (a2 : Int32) (M : Mem), k35 a1 a2 M = some q → V S X 3 M 35 [(0, .ref (S.2.1 91)), (1, .int a1), (2, .int a2)] []) (h : f_Mo_rowByRow_l35B k7 k35 a1 a2 M = some q) : V S X 3 M 35 [(0, .ref (S.2.1 91)), (1, .int a1), (2, .int a2)] [] := by
  unfold f_Mo_rowByRow_l35B at h
  refine v_iload_n C 2 dX12_rowByRow_35 rfl ?_
  refine v_aload_n C 0 dX12_rowByRow_36 rfl ?_
  refine g_Mo_stepsTold C kk91 fl_X12_145 dX12_rowByRow_37 ?_
  refine v_icmp_ge C 60 dX12_rowByRow_40 (by decide) (fun c22 => ?_) (fun c22 => ?_)
  · replace h := (ite_h h).1 c22
    refine v_aload_n C 0 dX12_rowByRow_60 rfl ?_
    refine v_iload_n C 1 dX12_rowByRow_61 rfl ?_
    obtain ⟨q5, hq5, h⟩ := Option.bind_eq_some_iff.mp h
    refine cv12v C [] kk91 (m_Mo_asksFor C.inj M a1 q5 hq5) ci_Mo_asksFor rfl lk_X12_238 (by decide) rfl rfl (Nat.le_of_ble_eq_true rfl) dX12_rowByRow_62 ?_
    refine v_aload_n C 0 dX12_rowByRow_65 rfl ?_
    refine g_Mo_answers C kk91 fl_X12_37 dX12_rowByRow_66 ?_
    refine v_iload_n C 1 dX12_rowByRow_69 rfl ?_
    refine v_aload_n C 0 dX12_rowByRow_70 rfl ?_
    refine v_iconst C (-1) dX12_rowByRow_71 rfl ?_
    refine v_aload_n C 0 dX12_rowByRow_72 rfl ?_
    refine g_Mo_vs C kk91 fl_X12_25 dX12_rowByRow_73 ?_
    refine v_iload_n C 1 dX12_rowByRow_76 rfl ?_
    obtain ⟨g6, h⟩ := gd_h h
    refine v_iald C kk97 ll97 g6 dX12_rowByRow_77 ?_
    obtain ⟨q7, hq7, h⟩ := Option.bind_eq_some_iff.mp h
    refine cv12 C [.int a1, .ref (S.2.1 101)] kk91 (m_Mo_answerOf C.inj q5 (-1) (q5 97 a1.toNatClampNeg) q7 hq7) ci_Mo_answerOf rfl lk_X12_241 (by decide) rfl rfl (Nat.le_of_ble_eq_true rfl) dX12_rowByRow_78 ?_
    obtain ⟨g8, h⟩ := gd_h h
    refine v_iast C kk101 ll101 g8 dX12_rowByRow_81 ?_
    refine v_nmm h (fun M9 h => ?_)
    refine v_aload_n C 0 dX12_rowByRow_82 rfl ?_
    refine g_Mo_errorAt C kk91 fl_X12_34 dX12_rowByRow_83 ?_
    refine v_iconst C 0 dX12_rowByRow_86 rfl ?_
    refine v_aload_n C 0 dX12_rowByRow_87 rfl ?_
    refine g_Mo_answers C kk91 fl_X12_37 dX12_rowByRow_88 ?_
    refine v_iload_n C 1 dX12_rowByRow_91 rfl ?_
    obtain ⟨g10, h⟩ := gd_h h
    refine v_iald C kk101 ll101 g10 dX12_rowByRow_92 ?_
    refine v_bipush C (-2) dX12_rowByRow_93 rfl ?_
    refine v_icmp_ne C 102 dX12_rowByRow_95 (by decide) (fun c19 => ?_) (fun c19 => ?_)
    · replace h := (ite_h h).2 c19
      refine v_iconst C (-1) dX12_rowByRow_102 rfl ?_
      refine v_sub [0, 1] rfl ?_
      exact v_Mo_rowByRow_b103 C K hk7 h
    · replace h := (ite_h h).1 c19
      refine v_iload_n C 1 dX12_rowByRow_98 rfl ?_
      refine v_goto C 103 dX12_rowByRow_99 (by decide) ?_
      refine v_sub [0, 1] rfl ?_
      exact v_Mo_rowByRow_b103 C K hk7 h
  · replace h := (ite_h h).2 c22
    refine v_aload_n C 0 dX12_rowByRow_43 rfl ?_
    refine v_iconst C 0 dX12_rowByRow_44 rfl ?_
    refine v_aload_n C 0 dX12_rowByRow_45 rfl ?_
    refine g_Mo_kinds C kk91 fl_X12_28 dX12_rowByRow_46 ?_
    refine v_iload_n C 2 dX12_rowByRow_49 rfl ?_
    obtain ⟨g20, h⟩ := gd_h h
    refine v_iald C kk98 ll98 g20 dX12_rowByRow_50 ?_
    obtain ⟨q21, hq21, h⟩ := Option.bind_eq_some_iff.mp h
    refine cv12v C [] kk91 (m_Mo_opens C.inj M 0 (M 98 a2.toNatClampNeg) q21 hq21) ci_Mo_opens rfl lk_X12_235 (by decide) rfl rfl (Nat.le_of_ble_eq_true rfl) dX12_rowByRow_51 ?_
    refine v_iinc C [(2, .int (a2 + 1)), (0, .ref (S.2.1 91)), (1, .int a1)] 2 (a2 + 1) dX12_rowByRow_54 rfl rfl (by decide) rfl ?_
    refine v_goto C 35 dX12_rowByRow_57 (by decide) ?_
    refine v_sub [1, 2, 0] rfl ?_
    exact hk35 _ _ _ h
def f_Mo_rowByRow_l35 (k7 : Int32 → Mem → Option Mem) : Nat → Int32 → Int32 → Mem → Option Mem
  | 0, _, _, _ => none
  | n + 1, a1, a2, M => f_Mo_rowByRow_l35B k7 (f_Mo_rowByRow_l35 k7 n) a1 a2 M
theorem v_Mo_rowByRow_l35 {S : SE} {X : MX} {q : Mem} {k7 : Int32 → Mem → Option Mem} (C : CX S X cX12_rowByRow 3 RX12 4) (K : RT S X none none q) (hk7 : ∀ (a1 : Int32) (M : Mem), k7 a1 M = some q → V S X 3 M 7 [(0, .ref (S.2.1 91)), (1, .int a1)] []) : ∀ (n : Nat) (a1 : Int32) (a2 : Int32) (M : Mem), f_Mo_rowByRow_l35 k7 n a1 a2 M = some q → V S X 3 M 35 [(0, .ref (S.2.1 91)), (1, .int a1), (2, .int a2)] [] := by
  intro n
  induction n with
  | zero => intro a1 a2 M h; cases h
  | succ n ih => intro a1 a2 M h; exact v_Mo_rowByRow_l35B C K hk7 ih h
def f_Mo_rowByRow_l7B (k7 : Int32 → Mem → Option Mem) (a1 : Int32) (M : Mem) : Option Mem :=
  if (M 95 (0 : Int32).toNatClampNeg) ≤ a1 then
    f_Mo_rowByRow_b160 M
  else
    if (M 100 (0 : Int32).toNatClampNeg) = (-1) then
      (f_Mo_opens M 0 0).bind fun q4 =>
      f_Mo_rowByRow_l35 k7 FU a1 0 q4
    else
      f_Mo_rowByRow_b160 M
set_option maxRecDepth 20000 in
theorem v_Mo_rowByRow_l7B {S : SE} {X : MX} {q : Mem} {k7 : Int32 → Mem → Option Mem} {a1 : Int32} {M : Mem} (C : CX S X cX12_rowByRow 3 RX12 4) (K : RT S X none none q) (hk7 : ∀ (a1 : Int32) (M : Mem), k7 a1 M = some q → V S X 3 M 7 [(0, .ref (S.2.1 91)), (1, .int a1)] []) (h : f_Mo_rowByRow_l7B k7 a1 M = some q) : V S X 3 M 7 [(0, .ref (S.2.1 91)), (1, .int a1)] [] := by
  unfold f_Mo_rowByRow_l7B at h
  refine v_iload_n C 1 dX12_rowByRow_7 rfl ?_
  refine v_aload_n C 0 dX12_rowByRow_8 rfl ?_
  refine g_Mo_rows C kk91 fl_X12_19 dX12_rowByRow_9 ?_
  refine v_iconst C 0 dX12_rowByRow_12 rfl ?_
  refine v_iald C kk95 ll95 (by decide) dX12_rowByRow_13 ?_
  refine v_icmp_ge C 160 dX12_rowByRow_14 (by decide) (fun c24 => ?_) (fun c24 => ?_)
  · replace h := (ite_h h).1 c24
    refine v_sub [0] rfl ?_
    exact v_Mo_rowByRow_b160 C K h
  · replace h := (ite_h h).2 c24
    refine v_aload_n C 0 dX12_rowByRow_17 rfl ?_
    refine g_Mo_errorAt C kk91 fl_X12_34 dX12_rowByRow_18 ?_
    refine v_iconst C 0 dX12_rowByRow_21 rfl ?_
    refine v_iald C kk100 ll100 (by decide) dX12_rowByRow_22 ?_
    refine v_iconst C (-1) dX12_rowByRow_23 rfl ?_
    refine v_icmp_ne C 160 dX12_rowByRow_24 (by decide) (fun c23 => ?_) (fun c23 => ?_)
    · replace h := (ite_h h).2 c23
      refine v_sub [0] rfl ?_
      exact v_Mo_rowByRow_b160 C K h
    · replace h := (ite_h h).1 c23
      refine v_aload_n C 0 dX12_rowByRow_27 rfl ?_
      refine v_iconst C 0 dX12_rowByRow_28 rfl ?_
      refine v_iconst C 0 dX12_rowByRow_29 rfl ?_
      obtain ⟨q4, hq4, h⟩ := Option.bind_eq_some_iff.mp h
      refine cv12v C [] kk91 (m_Mo_opens C.inj M 0 0 q4 hq4) ci_Mo_opens rfl lk_X12_235 (by decide) rfl rfl (Nat.le_of_ble_eq_true rfl) dX12_rowByRow_30 ?_
      refine v_iconst C 0 dX12_rowByRow_33 rfl ?_
      refine v_istore_n C [(2, .int 0), (0, .ref (S.2.1 91)), (1, .int a1)] dX12_rowByRow_34 (by decide) rfl ?_
      refine v_sub [1, 2, 0] rfl ?_
      exact v_Mo_rowByRow_l35 C K hk7 FU _ _ _ h
def f_Mo_rowByRow_l7 : Nat → Int32 → Mem → Option Mem
  | 0, _, _ => none
  | n + 1, a1, M => f_Mo_rowByRow_l7B (f_Mo_rowByRow_l7 n) a1 M
theorem v_Mo_rowByRow_l7 {S : SE} {X : MX} {q : Mem} (C : CX S X cX12_rowByRow 3 RX12 4) (K : RT S X none none q) : ∀ (n : Nat) (a1 : Int32) (M : Mem), f_Mo_rowByRow_l7 n a1 M = some q → V S X 3 M 7 [(0, .ref (S.2.1 91)), (1, .int a1)] [] := by
  intro n
  induction n with
  | zero => intro a1 M h; cases h
  | succ n ih => intro a1 M h; exact v_Mo_rowByRow_l7B C K ih h
def f_Mo_rowByRow (M : Mem) : Option Mem :=
  (f_Mo_begins M 0).bind fun q1 =>
  f_Mo_rowByRow_l7 FU 0 q1
set_option maxRecDepth 20000 in
theorem v_Mo_rowByRow {S : SE} {X : MX} {q : Mem} {M : Mem} (C : CX S X cX12_rowByRow 3 RX12 4) (K : RT S X none none q) (h : f_Mo_rowByRow M = some q) : V S X 3 M 0 [(0, .ref (S.2.1 91))] [] := by
  unfold f_Mo_rowByRow at h
  refine v_aload_n C 0 dX12_rowByRow_0 rfl ?_
  refine v_iconst C 0 dX12_rowByRow_1 rfl ?_
  obtain ⟨q1, hq1, h⟩ := Option.bind_eq_some_iff.mp h
  refine cv12v C [] kk91 (m_Mo_begins C.inj M 0 q1 hq1) ci_Mo_begins rfl lk_X12_231 (by decide) rfl rfl (Nat.le_of_ble_eq_true rfl) dX12_rowByRow_2 ?_
  refine v_iconst C 0 dX12_rowByRow_5 rfl ?_
  refine v_istore_n C [(1, .int 0), (0, .ref (S.2.1 91))] dX12_rowByRow_6 (by decide) rfl ?_
  refine v_sub [1, 0] rfl ?_
  exact v_Mo_rowByRow_l7 C K FU _ _ h
theorem m_Mo_rowByRow {S : SE} (hI : Inj S) (M : Mem) (q : Mem) (h : f_Mo_rowByRow M = some q) : CM S yX12_rowByRow cX12_rowByRow 3 none 4 [.ref (S.2.1 91)] M none q :=
  CM.of [(0, .ref (S.2.1 91))] hI (by decide) rfl (Nat.le_of_ble_eq_true rfl) (fun X C K => v_Mo_rowByRow C K  h)
def f_Mo_speaksNow_b58 (k28 : Int32 → Int32 → Mem → Option Int32) (a2 : Int32) (s0 : Int32) (s1 : Int32) (M : Mem) : Option Int32 :=
  bnd (s1 ||| s0) fun x2 =>
  k28 x2 (a2 + 1) M
set_option maxRecDepth 20000 in
theorem v_Mo_speaksNow_b58 {S : SE} {X : MX} {q : Int32} {k28 : Int32 → Int32 → Mem → Option Int32} {a2 : Int32} {s0 : Int32} {s1 : Int32} {M : Mem} (C : CX S X cX12_speaksNow 3 RX12 1) (K : RT S X (some .int) (some (.int q)) M) (hk28 : ∀ (a1 : Int32) (a2 : Int32), k28 a1 a2 M = some q → V S X 3 M 28 [(0, .ref (S.2.1 91)), (1, .int a1), (2, .int a2)] []) (h : f_Mo_speaksNow_b58 k28 a2 s0 s1 M = some q) : V S X 3 M 58 [(0, .ref (S.2.1 91)), (2, .int a2)] [.int s0, .int s1] := by
  unfold f_Mo_speaksNow_b58 at h
  refine v_ior C dX12_speaksNow_58 ?_
  refine v_nmi h (fun x2 h => ?_)
  refine v_istore_n C [(1, .int x2), (0, .ref (S.2.1 91)), (2, .int a2)] dX12_speaksNow_59 (by decide) rfl ?_
  refine v_iinc C [(2, .int (a2 + 1)), (1, .int x2), (0, .ref (S.2.1 91))] 2 (a2 + 1) dX12_speaksNow_60 rfl rfl (by decide) rfl ?_
  refine v_goto C 28 dX12_speaksNow_63 (by decide) ?_
  refine v_sub [2, 1, 0] rfl ?_
  exact hk28 _ _ h
def f_Mo_speaksNow_l28B (k28 : Int32 → Int32 → Mem → Option Int32) (a1 : Int32) (a2 : Int32) (M : Mem) : Option Int32 :=
  if (M 91 6) ≤ a2 then
    some a1
  else
    if gin a2 12 then
      if (f_Mo_in (M 98 a2.toNatClampNeg) 1 4) = 0 then
        f_Mo_speaksNow_b58 k28 a2 0 a1 M
      else
        f_Mo_speaksNow_b58 k28 a2 (1 <<< (a2 &&& 31)) a1 M
    else none
set_option maxRecDepth 20000 in
theorem v_Mo_speaksNow_l28B {S : SE} {X : MX} {q : Int32} {k28 : Int32 → Int32 → Mem → Option Int32} {a1 : Int32} {a2 : Int32} {M : Mem} (C : CX S X cX12_speaksNow 3 RX12 1) (K : RT S X (some .int) (some (.int q)) M) (hk28 : ∀ (a1 : Int32) (a2 : Int32), k28 a1 a2 M = some q → V S X 3 M 28 [(0, .ref (S.2.1 91)), (1, .int a1), (2, .int a2)] []) (h : f_Mo_speaksNow_l28B k28 a1 a2 M = some q) : V S X 3 M 28 [(0, .ref (S.2.1 91)), (1, .int a1), (2, .int a2)] [] := by
  unfold f_Mo_speaksNow_l28B at h
  refine v_iload_n C 2 dX12_speaksNow_28 rfl ?_
  refine v_aload_n C 0 dX12_speaksNow_29 rfl ?_
  refine g_Mo_stepsTold C kk91 fl_X12_145 dX12_speaksNow_30 ?_
  refine v_icmp_ge C 66 dX12_speaksNow_33 (by decide) (fun c4 => ?_) (fun c4 => ?_)
  · replace h := (ite_h h).1 c4
    refine v_iload_n C 1 dX12_speaksNow_66 rfl ?_
    obtain rfl := Option.some.inj h
    exact v_iret C K dX12_speaksNow_67
  · replace h := (ite_h h).2 c4
    refine v_iload_n C 1 dX12_speaksNow_36 rfl ?_
    refine v_aload_n C 0 dX12_speaksNow_37 rfl ?_
    refine g_Mo_kinds C kk91 fl_X12_28 dX12_speaksNow_38 ?_
    refine v_iload_n C 2 dX12_speaksNow_41 rfl ?_
    obtain ⟨g1, h⟩ := gd_h h
    refine v_iald C kk98 ll98 g1 dX12_speaksNow_42 ?_
    refine v_iconst C 1 dX12_speaksNow_43 rfl ?_
    refine v_iconst C 4 dX12_speaksNow_44 rfl ?_
    refine cs C [.int a1] (m_Mo_in C.inj M (M 98 a2.toNatClampNeg) 1 4 _ rfl) ci_Mo_in lk_X12_107 (by decide) rfl rfl (Nat.le_of_ble_eq_true rfl) dX12_speaksNow_45 ?_
    refine v_if_eq C 57 dX12_speaksNow_48 (by decide) (fun c3 => ?_) (fun c3 => ?_)
    · replace h := (ite_h h).1 c3
      refine v_iconst C 0 dX12_speaksNow_57 rfl ?_
      refine v_sub [0, 2] rfl ?_
      exact v_Mo_speaksNow_b58 C K hk28 h
    · replace h := (ite_h h).2 c3
      refine v_iconst C 1 dX12_speaksNow_51 rfl ?_
      refine v_iload_n C 2 dX12_speaksNow_52 rfl ?_
      refine v_ishl C dX12_speaksNow_53 ?_
      refine v_goto C 58 dX12_speaksNow_54 (by decide) ?_
      refine v_sub [0, 2] rfl ?_
      exact v_Mo_speaksNow_b58 C K hk28 h
def f_Mo_speaksNow_l28 : Nat → Int32 → Int32 → Mem → Option Int32
  | 0, _, _, _ => none
  | n + 1, a1, a2, M => f_Mo_speaksNow_l28B (f_Mo_speaksNow_l28 n) a1 a2 M
theorem v_Mo_speaksNow_l28 {S : SE} {X : MX} {q : Int32} {M : Mem} (C : CX S X cX12_speaksNow 3 RX12 1) (K : RT S X (some .int) (some (.int q)) M) : ∀ (n : Nat) (a1 : Int32) (a2 : Int32), f_Mo_speaksNow_l28 n a1 a2 M = some q → V S X 3 M 28 [(0, .ref (S.2.1 91)), (1, .int a1), (2, .int a2)] [] := by
  intro n
  induction n with
  | zero => intro a1 a2 h; cases h
  | succ n ih => intro a1 a2 h; exact v_Mo_speaksNow_l28B C K ih h
def f_Mo_speaksNow_b25 (s0 : Int32) (M : Mem) : Option Int32 :=
  f_Mo_speaksNow_l28 FU s0 0 M
set_option maxRecDepth 20000 in
theorem v_Mo_speaksNow_b25 {S : SE} {X : MX} {q : Int32} {s0 : Int32} {M : Mem} (C : CX S X cX12_speaksNow 3 RX12 1) (K : RT S X (some .int) (some (.int q)) M) (h : f_Mo_speaksNow_b25 s0 M = some q) : V S X 3 M 25 [(0, .ref (S.2.1 91))] [.int s0] := by
  unfold f_Mo_speaksNow_b25 at h
  refine v_istore_n C [(1, .int s0), (0, .ref (S.2.1 91))] dX12_speaksNow_25 (by decide) rfl ?_
  refine v_iconst C 0 dX12_speaksNow_26 rfl ?_
  refine v_istore_n C [(2, .int 0), (1, .int s0), (0, .ref (S.2.1 91))] dX12_speaksNow_27 (by decide) rfl ?_
  refine v_sub [2, 1, 0] rfl ?_
  exact v_Mo_speaksNow_l28 C K FU _ _ h
def f_Mo_speaksNow_b18 (M : Mem) : Option Int32 :=
  f_Mo_speaksNow_b25 4096 M
set_option maxRecDepth 20000 in
theorem v_Mo_speaksNow_b18 {S : SE} {X : MX} {q : Int32} {M : Mem} (C : CX S X cX12_speaksNow 3 RX12 1) (K : RT S X (some .int) (some (.int q)) M) (h : f_Mo_speaksNow_b18 M = some q) : V S X 3 M 18 [(0, .ref (S.2.1 91))] [] := by
  unfold f_Mo_speaksNow_b18 at h
  refine v_sipush C 4096 dX12_speaksNow_18 rfl ?_
  refine v_goto C 25 dX12_speaksNow_21 (by decide) ?_
  exact v_Mo_speaksNow_b25 C K h
def f_Mo_speaksNow (M : Mem) : Option Int32 :=
  if (M 91 10) = 7 then
    f_Mo_speaksNow_b18 M
  else
    if (M 91 10) = 8 then
      f_Mo_speaksNow_b18 M
    else
      f_Mo_speaksNow_b25 0 M
set_option maxRecDepth 20000 in
theorem v_Mo_speaksNow {S : SE} {X : MX} {q : Int32} {M : Mem} (C : CX S X cX12_speaksNow 3 RX12 1) (K : RT S X (some .int) (some (.int q)) M) (h : f_Mo_speaksNow M = some q) : V S X 3 M 0 [(0, .ref (S.2.1 91))] [] := by
  unfold f_Mo_speaksNow at h
  refine v_aload_n C 0 dX12_speaksNow_0 rfl ?_
  refine g_Mo_endNow C kk91 fl_X12_184 dX12_speaksNow_1 ?_
  refine v_bipush C 7 dX12_speaksNow_4 rfl ?_
  refine v_icmp_eq C 18 dX12_speaksNow_6 (by decide) (fun c6 => ?_) (fun c6 => ?_)
  · replace h := (ite_h h).1 c6
    exact v_Mo_speaksNow_b18 C K h
  · replace h := (ite_h h).2 c6
    refine v_aload_n C 0 dX12_speaksNow_9 rfl ?_
    refine g_Mo_endNow C kk91 fl_X12_184 dX12_speaksNow_10 ?_
    refine v_bipush C 8 dX12_speaksNow_13 rfl ?_
    refine v_icmp_ne C 24 dX12_speaksNow_15 (by decide) (fun c5 => ?_) (fun c5 => ?_)
    · replace h := (ite_h h).2 c5
      refine v_iconst C 0 dX12_speaksNow_24 rfl ?_
      exact v_Mo_speaksNow_b25 C K h
    · replace h := (ite_h h).1 c5
      exact v_Mo_speaksNow_b18 C K h
theorem m_Mo_speaksNow {S : SE} (hI : Inj S) (M : Mem) (q : Int32) (h : f_Mo_speaksNow M = some q) : CM S yX12_speaksNow cX12_speaksNow 3 (some .int) 1 [.ref (S.2.1 91)] M (some (.int q)) M :=
  CM.of [(0, .ref (S.2.1 91))] hI (by decide) rfl (Nat.le_of_ble_eq_true rfl) (fun X C K => v_Mo_speaksNow C K  h)
