def f_Mo_in_b14 : Int32 :=
  0
set_option maxRecDepth 20000 in
theorem v_Mo_in_b14 {S : SE} {X : MX} {q : Int32} {M : Mem} (C : CX S X cX12_in 3 RX12 0) (K : RT S X (some .boolean) (some (.int q)) M) (h : f_Mo_in_b14 = q) : V S X 3 M 14 [] [] := by
  unfold f_Mo_in_b14 at h
  refine v_iconst C 0 dX12_in_14 rfl ?_
  subst h
  exact v_zret C (Or.inl rfl) K dX12_in_15
def f_Mo_in (a0 : Int32) (a1 : Int32) (a2 : Int32) : Int32 :=
  if a0 < a1 then
    f_Mo_in_b14
  else
    if a2 < a0 then
      f_Mo_in_b14
    else
      1
set_option maxRecDepth 20000 in
theorem v_Mo_in {S : SE} {X : MX} {q : Int32} {M : Mem} {a0 : Int32} {a1 : Int32} {a2 : Int32} (C : CX S X cX12_in 3 RX12 0) (K : RT S X (some .boolean) (some (.int q)) M) (h : f_Mo_in a0 a1 a2 = q) : V S X 3 M 0 [(0, .int a0), (1, .int a1), (2, .int a2)] [] := by
  unfold f_Mo_in at h
  refine v_iload_n C 0 dX12_in_0 rfl ?_
  refine v_iload_n C 1 dX12_in_1 rfl ?_
  refine v_icmp_lt C 14 dX12_in_2 (by decide) (fun c2 => ?_) (fun c2 => ?_)
  · replace h := (ite_h h).1 c2
    refine v_sub [] rfl ?_
    exact v_Mo_in_b14 C K h
  · replace h := (ite_h h).2 c2
    refine v_iload_n C 0 dX12_in_5 rfl ?_
    refine v_iload_n C 2 dX12_in_6 rfl ?_
    refine v_icmp_gt C 14 dX12_in_7 (by decide) (fun c1 => ?_) (fun c1 => ?_)
    · replace h := (ite_h h).1 c1
      refine v_sub [] rfl ?_
      exact v_Mo_in_b14 C K h
    · replace h := (ite_h h).2 c1
      refine v_iconst C 1 dX12_in_10 rfl ?_
      refine v_goto C 15 dX12_in_11 (by decide) ?_
      subst h
      exact v_zret C (Or.inr rfl) K dX12_in_15
theorem m_Mo_in {S : SE} (hI : Inj S) (M : Mem) (a0 : Int32) (a1 : Int32) (a2 : Int32) (q : Int32) (h : f_Mo_in a0 a1 a2 = q) : CM S yX12_in cX12_in 3 (some .boolean) 0 [.int a0, .int a1, .int a2] M (some (.int q)) M :=
  CM.of [(0, .int a0), (1, .int a1), (2, .int a2)] hI (by decide) rfl (Nat.le_of_ble_eq_true rfl) (fun X C K => v_Mo_in C K  h)
theorem bz_Mo_in (a0 : Int32) (a1 : Int32) (a2 : Int32) : f_Mo_in a0 a1 a2 = 0 ∨ f_Mo_in a0 a1 a2 = 1 := by unfold f_Mo_in f_Mo_in_b14; (repeat' split) <;> first | exact Or.inl rfl | exact Or.inr rfl
def f_Mo_isIn (a0 : Int32) (a1 : Int32) : Int32 :=
  if ((a0 >>> (a1 &&& 31)) &&& 1) = 1 then
    1
  else
    0
set_option maxRecDepth 20000 in
theorem v_Mo_isIn {S : SE} {X : MX} {q : Int32} {M : Mem} {a0 : Int32} {a1 : Int32} (C : CX S X cX12_isIn 2 RX12 0) (K : RT S X (some .boolean) (some (.int q)) M) (h : f_Mo_isIn a0 a1 = q) : V S X 2 M 0 [(0, .int a0), (1, .int a1)] [] := by
  unfold f_Mo_isIn at h
  refine v_iload_n C 0 dX12_isIn_0 rfl ?_
  refine v_iload_n C 1 dX12_isIn_1 rfl ?_
  refine v_ishr C dX12_isIn_2 ?_
  refine v_iconst C 1 dX12_isIn_3 rfl ?_
  refine v_iand C dX12_isIn_4 ?_
  refine v_iconst C 1 dX12_isIn_5 rfl ?_
  refine v_icmp_ne C 13 dX12_isIn_6 (by decide) (fun c1 => ?_) (fun c1 => ?_)
  · replace h := (ite_h h).2 c1
    refine v_iconst C 0 dX12_isIn_13 rfl ?_
    subst h
    exact v_zret C (Or.inl rfl) K dX12_isIn_14
  · replace h := (ite_h h).1 c1
    refine v_iconst C 1 dX12_isIn_9 rfl ?_
    refine v_goto C 14 dX12_isIn_10 (by decide) ?_
    subst h
    exact v_zret C (Or.inr rfl) K dX12_isIn_14
theorem m_Mo_isIn {S : SE} (hI : Inj S) (M : Mem) (a0 : Int32) (a1 : Int32) (q : Int32) (h : f_Mo_isIn a0 a1 = q) : CM S yX12_isIn cX12_isIn 2 (some .boolean) 0 [.int a0, .int a1] M (some (.int q)) M :=
  CM.of [(0, .int a0), (1, .int a1)] hI (by decide) rfl (Nat.le_of_ble_eq_true rfl) (fun X C K => v_Mo_isIn C K  h)
theorem bz_Mo_isIn (a0 : Int32) (a1 : Int32) : f_Mo_isIn a0 a1 = 0 ∨ f_Mo_isIn a0 a1 = 1 := by unfold f_Mo_isIn; (repeat' split) <;> first | exact Or.inl rfl | exact Or.inr rfl
def f_Mo_isTwo (a0 : Int32) : Int32 :=
  (f_Mo_in a0 0 1)
set_option maxRecDepth 20000 in
theorem v_Mo_isTwo {S : SE} {X : MX} {q : Int32} {M : Mem} {a0 : Int32} (C : CX S X cX12_isTwo 1 RX12 1) (K : RT S X (some .boolean) (some (.int q)) M) (h : f_Mo_isTwo a0 = q) : V S X 1 M 0 [(0, .int a0)] [] := by
  unfold f_Mo_isTwo at h
  refine v_iload_n C 0 dX12_isTwo_0 rfl ?_
  refine v_iconst C 0 dX12_isTwo_1 rfl ?_
  refine v_iconst C 1 dX12_isTwo_2 rfl ?_
  refine cs C [] (m_Mo_in C.inj M a0 0 1 _ rfl) ci_Mo_in lk_X12_107 (by decide) rfl rfl (Nat.le_of_ble_eq_true rfl) dX12_isTwo_3 ?_
  subst h
  exact v_zret C (bz_Mo_in a0 0 1) K dX12_isTwo_6
theorem m_Mo_isTwo {S : SE} (hI : Inj S) (M : Mem) (a0 : Int32) (q : Int32) (h : f_Mo_isTwo a0 = q) : CM S yX12_isTwo cX12_isTwo 1 (some .boolean) 1 [.int a0] M (some (.int q)) M :=
  CM.of [(0, .int a0)] hI (by decide) rfl (Nat.le_of_ble_eq_true rfl) (fun X C K => v_Mo_isTwo C K  h)
theorem bz_Mo_isTwo (a0 : Int32) : f_Mo_isTwo a0 = 0 ∨ f_Mo_isTwo a0 = 1 := by unfold f_Mo_isTwo; (repeat' split) <;> first | exact Or.inl rfl | exact Or.inr rfl | exact bz_Mo_in _ _ _
def f_Mo_bitsOf_l120B (k120 : Int64 → Int32 → Option Int32) (a3 : Int64) (a5 : Int32) : Option Int32 :=
  if 0 ≤ (lg_cmp a3 8388608) then
    some (((a5 + 150) <<< (23 &&& 31)) ||| ((Int64.toInt32 a3) &&& 8388607))
  else
    bnd (a3 <<< (Int32.toInt64 1 &&& 63)) fun y5 =>
    k120 y5 (a5 + (-1))
set_option maxRecDepth 20000 in
theorem v_Mo_bitsOf_l120B {S : SE} {X : MX} {q : Int32} {k120 : Int64 → Int32 → Option Int32} {a3 : Int64} {a5 : Int32} {M : Mem} (C : CX S X cX12_bitsOf 11 RX12 0) (K : RT S X (some .int) (some (.int q)) M) (hk120 : ∀ (a3 : Int64) (a5 : Int32), k120 a3 a5 = some q → V S X 11 M 120 [(3, .long a3), (5, .int a5)] []) (h : f_Mo_bitsOf_l120B k120 a3 a5 = some q) : V S X 11 M 120 [(3, .long a3), (5, .int a5)] [] := by
  unfold f_Mo_bitsOf_l120B at h
  refine v_lload_n C 0 dX12_bitsOf_120 rfl ?_
  refine v_ldc2 C kc_X12_113 dX12_bitsOf_121 ?_
  refine v_lcmp C dX12_bitsOf_124 ?_
  refine v_if_ge C 138 dX12_bitsOf_125 (by decide) (fun c6 => ?_) (fun c6 => ?_)
  · replace h := (ite_h h).1 c6
    refine v_iload C 1 dX12_bitsOf_138 rfl ?_
    refine v_sipush C 150 dX12_bitsOf_140 rfl ?_
    refine v_iadd C dX12_bitsOf_143 ?_
    refine v_bipush C 23 dX12_bitsOf_144 rfl ?_
    refine v_ishl C dX12_bitsOf_146 ?_
    refine v_lload_n C 0 dX12_bitsOf_147 rfl ?_
    refine v_l2i C dX12_bitsOf_148 ?_
    refine v_ldc C kc_X12_115 dX12_bitsOf_149 ?_
    refine v_iand C dX12_bitsOf_151 ?_
    refine v_ior C dX12_bitsOf_152 ?_
    obtain rfl := Option.some.inj h
    exact v_iret C K dX12_bitsOf_153
  · replace h := (ite_h h).2 c6
    refine v_lload_n C 0 dX12_bitsOf_128 rfl ?_
    refine v_iconst C 1 dX12_bitsOf_129 rfl ?_
    refine v_lshl C dX12_bitsOf_130 ?_
    refine v_nml h (fun y5 h => ?_)
    refine v_lstore_n C [(3, .long y5), (5, .int a5)] dX12_bitsOf_131 (by decide) rfl ?_
    refine v_iinc C [(5, .int (a5 + (-1))), (3, .long y5)] 1 (a5 + (-1)) dX12_bitsOf_132 rfl rfl (by decide) rfl ?_
    refine v_goto C 120 dX12_bitsOf_135 (by decide) ?_
    refine v_sub [1, 0] rfl ?_
    exact hk120 _ _ h
def f_Mo_bitsOf_l120 : Nat → Int64 → Int32 → Option Int32
  | 0, _, _ => none
  | n + 1, a3, a5 => f_Mo_bitsOf_l120B (f_Mo_bitsOf_l120 n) a3 a5
theorem v_Mo_bitsOf_l120 {S : SE} {X : MX} {q : Int32} {M : Mem} (C : CX S X cX12_bitsOf 11 RX12 0) (K : RT S X (some .int) (some (.int q)) M) : ∀ (n : Nat) (a3 : Int64) (a5 : Int32), f_Mo_bitsOf_l120 n a3 a5 = some q → V S X 11 M 120 [(3, .long a3), (5, .int a5)] [] := by
  intro n
  induction n with
  | zero => intro a3 a5 h; cases h
  | succ n ih => intro a3 a5 h; exact v_Mo_bitsOf_l120B C K ih h
def f_Mo_bitsOf_b103 (a5 : Int32) (s0 : Int64) (s1 : Int64) : Option Int32 :=
  bnd (s1 + s0) fun y4 =>
  if (lg_cmp y4 16777216) = 0 then
    bnd (y4 >>> (Int32.toInt64 1 &&& 63)) fun y7 =>
    f_Mo_bitsOf_l120 FU y7 (a5 + 1)
  else
    f_Mo_bitsOf_l120 FU y4 a5
set_option maxRecDepth 20000 in
theorem v_Mo_bitsOf_b103 {S : SE} {X : MX} {q : Int32} {a5 : Int32} {s0 : Int64} {s1 : Int64} {M : Mem} (C : CX S X cX12_bitsOf 11 RX12 0) (K : RT S X (some .int) (some (.int q)) M) (h : f_Mo_bitsOf_b103 a5 s0 s1 = some q) : V S X 11 M 103 [(5, .int a5)] [.long s0, .long s1] := by
  unfold f_Mo_bitsOf_b103 at h
  refine v_ladd C dX12_bitsOf_103 ?_
  refine v_nml h (fun y4 h => ?_)
  refine v_lstore_n C [(3, .long y4), (5, .int a5)] dX12_bitsOf_104 (by decide) rfl ?_
  refine v_lload_n C 0 dX12_bitsOf_105 rfl ?_
  refine v_ldc2 C kc_X12_111 dX12_bitsOf_106 ?_
  refine v_lcmp C dX12_bitsOf_109 ?_
  refine v_if_ne C 120 dX12_bitsOf_110 (by decide) (fun c8 => ?_) (fun c8 => ?_)
  · replace h := (ite_h h).2 c8
    exact v_Mo_bitsOf_l120 C K FU _ _ h
  · replace h := (ite_h h).1 c8
    refine v_lload_n C 0 dX12_bitsOf_113 rfl ?_
    refine v_iconst C 1 dX12_bitsOf_114 rfl ?_
    refine v_lshr C dX12_bitsOf_115 ?_
    refine v_nml h (fun y7 h => ?_)
    refine v_lstore_n C [(3, .long y7), (5, .int a5)] dX12_bitsOf_116 (by decide) rfl ?_
    refine v_iinc C [(5, .int (a5 + 1)), (3, .long y7)] 1 (a5 + 1) dX12_bitsOf_117 rfl rfl (by decide) rfl ?_
    refine v_sub [1, 0] rfl ?_
    exact v_Mo_bitsOf_l120 C K FU _ _ h
def f_Mo_bitsOf_b98 (a5 : Int32) (s0 : Int64) : Option Int32 :=
  f_Mo_bitsOf_b103 a5 1 s0
set_option maxRecDepth 20000 in
theorem v_Mo_bitsOf_b98 {S : SE} {X : MX} {q : Int32} {a5 : Int32} {s0 : Int64} {M : Mem} (C : CX S X cX12_bitsOf 11 RX12 0) (K : RT S X (some .int) (some (.int q)) M) (h : f_Mo_bitsOf_b98 a5 s0 = some q) : V S X 11 M 98 [(5, .int a5)] [.long s0] := by
  unfold f_Mo_bitsOf_b98 at h
  refine v_lconst C 1 dX12_bitsOf_98 rfl ?_
  refine v_goto C 103 dX12_bitsOf_99 (by decide) ?_
  exact v_Mo_bitsOf_b103 C K h
def f_Mo_bitsOf_b102 (a5 : Int32) (s0 : Int64) : Option Int32 :=
  f_Mo_bitsOf_b103 a5 0 s0
set_option maxRecDepth 20000 in
theorem v_Mo_bitsOf_b102 {S : SE} {X : MX} {q : Int32} {a5 : Int32} {s0 : Int64} {M : Mem} (C : CX S X cX12_bitsOf 11 RX12 0) (K : RT S X (some .int) (some (.int q)) M) (h : f_Mo_bitsOf_b102 a5 s0 = some q) : V S X 11 M 102 [(5, .int a5)] [.long s0] := by
  unfold f_Mo_bitsOf_b102 at h
  refine v_lconst C 0 dX12_bitsOf_102 rfl ?_
  exact v_Mo_bitsOf_b103 C K h
def f_Mo_bitsOf_b59 (a3 : Int64) (a5 : Int32) (a6 : Int32) (a7 : Int64) (s0 : Int64) : Option Int32 :=
  bnd (a3 >>> (Int32.toInt64 a6 &&& 63)) fun y2 =>
  bnd (a5 + a6) fun x3 =>
  if 0 < (lg_cmp a7 s0) then
    f_Mo_bitsOf_b98 x3 y2
  else
    if (lg_cmp a7 s0) = 0 then
      if (lg_cmp (y2 &&& 1) 1) = 0 then
        f_Mo_bitsOf_b98 x3 y2
      else
        f_Mo_bitsOf_b102 x3 y2
    else
      f_Mo_bitsOf_b102 x3 y2
set_option maxRecDepth 20000 in
theorem v_Mo_bitsOf_b59 {S : SE} {X : MX} {q : Int32} {a3 : Int64} {a5 : Int32} {a6 : Int32} {a7 : Int64} {s0 : Int64} {M : Mem} (C : CX S X cX12_bitsOf 11 RX12 0) (K : RT S X (some .int) (some (.int q)) M) (h : f_Mo_bitsOf_b59 a3 a5 a6 a7 s0 = some q) : V S X 11 M 59 [(3, .long a3), (5, .int a5), (6, .int a6), (7, .long a7)] [.long s0] := by
  unfold f_Mo_bitsOf_b59 at h
  refine v_lstore C [(9, .long s0), (3, .long a3), (5, .int a5), (6, .int a6), (7, .long a7)] dX12_bitsOf_59 (by decide) rfl ?_
  refine v_lload_n C 1 dX12_bitsOf_61 rfl ?_
  refine v_iload C 3 dX12_bitsOf_62 rfl ?_
  refine v_lshr C dX12_bitsOf_64 ?_
  refine v_nml h (fun y2 h => ?_)
  refine v_lstore_n C [(3, .long y2), (9, .long s0), (5, .int a5), (6, .int a6), (7, .long a7)] dX12_bitsOf_65 (by decide) rfl ?_
  refine v_iload C 2 dX12_bitsOf_66 rfl ?_
  refine v_iload C 3 dX12_bitsOf_68 rfl ?_
  refine v_iadd C dX12_bitsOf_70 ?_
  refine v_nmi h (fun x3 h => ?_)
  refine v_istore C [(5, .int x3), (3, .long y2), (9, .long s0), (6, .int a6), (7, .long a7)] dX12_bitsOf_71 (by decide) rfl ?_
  refine v_lload_n C 1 dX12_bitsOf_73 rfl ?_
  refine v_lload C 4 dX12_bitsOf_74 rfl ?_
  refine v_lload C 2 dX12_bitsOf_76 rfl ?_
  refine v_lcmp C dX12_bitsOf_78 ?_
  refine v_if_gt C 98 dX12_bitsOf_79 (by decide) (fun c11 => ?_) (fun c11 => ?_)
  · replace h := (ite_h h).1 c11
    refine v_sub [0] rfl ?_
    exact v_Mo_bitsOf_b98 C K h
  · replace h := (ite_h h).2 c11
    refine v_lload C 4 dX12_bitsOf_82 rfl ?_
    refine v_lload C 2 dX12_bitsOf_84 rfl ?_
    refine v_lcmp C dX12_bitsOf_86 ?_
    refine v_if_ne C 102 dX12_bitsOf_87 (by decide) (fun c10 => ?_) (fun c10 => ?_)
    · replace h := (ite_h h).2 c10
      refine v_sub [0] rfl ?_
      exact v_Mo_bitsOf_b102 C K h
    · replace h := (ite_h h).1 c10
      refine v_lload_n C 1 dX12_bitsOf_90 rfl ?_
      refine v_lconst C 1 dX12_bitsOf_91 rfl ?_
      refine v_land C dX12_bitsOf_92 ?_
      refine v_lconst C 1 dX12_bitsOf_93 rfl ?_
      refine v_lcmp C dX12_bitsOf_94 ?_
      refine v_if_ne C 102 dX12_bitsOf_95 (by decide) (fun c9 => ?_) (fun c9 => ?_)
      · replace h := (ite_h h).2 c9
        refine v_sub [0] rfl ?_
        exact v_Mo_bitsOf_b102 C K h
      · replace h := (ite_h h).1 c9
        refine v_sub [0] rfl ?_
        exact v_Mo_bitsOf_b98 C K h
def f_Mo_bitsOf_l16B (k16 : Int64 → Int32 → Int32 → Option Int32) (a3 : Int64) (a5 : Int32) (a6 : Int32) : Option Int32 :=
  if (lg_cmp (a3 >>> (Int32.toInt64 a6 &&& 63)) 16777216) < 0 then
    bnd (a3 - ((a3 >>> (Int32.toInt64 a6 &&& 63)) <<< (Int32.toInt64 a6 &&& 63))) fun y1 =>
    if a6 = 0 then
      f_Mo_bitsOf_b59 a3 a5 a6 y1 1
    else
      f_Mo_bitsOf_b59 a3 a5 a6 y1 (1 <<< (Int32.toInt64 (a6 - 1) &&& 63))
  else
    k16 a3 a5 (a6 + 1)
set_option maxRecDepth 20000 in
theorem v_Mo_bitsOf_l16B {S : SE} {X : MX} {q : Int32} {k16 : Int64 → Int32 → Int32 → Option Int32} {a3 : Int64} {a5 : Int32} {a6 : Int32} {M : Mem} (C : CX S X cX12_bitsOf 11 RX12 0) (K : RT S X (some .int) (some (.int q)) M) (hk16 : ∀ (a3 : Int64) (a5 : Int32) (a6 : Int32), k16 a3 a5 a6 = some q → V S X 11 M 16 [(3, .long a3), (5, .int a5), (6, .int a6)] []) (h : f_Mo_bitsOf_l16B k16 a3 a5 a6 = some q) : V S X 11 M 16 [(3, .long a3), (5, .int a5), (6, .int a6)] [] := by
  unfold f_Mo_bitsOf_l16B at h
  refine v_lload_n C 0 dX12_bitsOf_16 rfl ?_
  refine v_iload C 2 dX12_bitsOf_17 rfl ?_
  refine v_lshr C dX12_bitsOf_19 ?_
  refine v_ldc2 C kc_X12_111 dX12_bitsOf_20 ?_
  refine v_lcmp C dX12_bitsOf_23 ?_
  refine v_if_lt C 33 dX12_bitsOf_24 (by decide) (fun c13 => ?_) (fun c13 => ?_)
  · replace h := (ite_h h).1 c13
    refine v_lload_n C 0 dX12_bitsOf_33 rfl ?_
    refine v_lload_n C 0 dX12_bitsOf_34 rfl ?_
    refine v_iload C 2 dX12_bitsOf_35 rfl ?_
    refine v_lshr C dX12_bitsOf_37 ?_
    refine v_iload C 2 dX12_bitsOf_38 rfl ?_
    refine v_lshl C dX12_bitsOf_40 ?_
    refine v_lsub C dX12_bitsOf_41 ?_
    refine v_nml h (fun y1 h => ?_)
    refine v_lstore C [(7, .long y1), (3, .long a3), (5, .int a5), (6, .int a6)] dX12_bitsOf_42 (by decide) rfl ?_
    refine v_iload C 3 dX12_bitsOf_44 rfl ?_
    refine v_if_ne C 53 dX12_bitsOf_46 (by decide) (fun c12 => ?_) (fun c12 => ?_)
    · replace h := (ite_h h).2 c12
      refine v_lconst C 1 dX12_bitsOf_53 rfl ?_
      refine v_iload C 3 dX12_bitsOf_54 rfl ?_
      refine v_iconst C 1 dX12_bitsOf_56 rfl ?_
      refine v_isub C dX12_bitsOf_57 ?_
      refine v_lshl C dX12_bitsOf_58 ?_
      refine v_sub [1, 2, 3, 0] rfl ?_
      exact v_Mo_bitsOf_b59 C K h
    · replace h := (ite_h h).1 c12
      refine v_lconst C 1 dX12_bitsOf_49 rfl ?_
      refine v_goto C 59 dX12_bitsOf_50 (by decide) ?_
      refine v_sub [1, 2, 3, 0] rfl ?_
      exact v_Mo_bitsOf_b59 C K h
  · replace h := (ite_h h).2 c13
    refine v_iinc C [(6, .int (a6 + 1)), (3, .long a3), (5, .int a5)] 2 (a6 + 1) dX12_bitsOf_27 rfl rfl (by decide) rfl ?_
    refine v_goto C 16 dX12_bitsOf_30 (by decide) ?_
    refine v_sub [1, 2, 0] rfl ?_
    exact hk16 _ _ _ h
def f_Mo_bitsOf_l16 : Nat → Int64 → Int32 → Int32 → Option Int32
  | 0, _, _, _ => none
  | n + 1, a3, a5, a6 => f_Mo_bitsOf_l16B (f_Mo_bitsOf_l16 n) a3 a5 a6
theorem v_Mo_bitsOf_l16 {S : SE} {X : MX} {q : Int32} {M : Mem} (C : CX S X cX12_bitsOf 11 RX12 0) (K : RT S X (some .int) (some (.int q)) M) : ∀ (n : Nat) (a3 : Int64) (a5 : Int32) (a6 : Int32), f_Mo_bitsOf_l16 n a3 a5 a6 = some q → V S X 11 M 16 [(3, .long a3), (5, .int a5), (6, .int a6)] [] := by
  intro n
  induction n with
  | zero => intro a3 a5 a6 h; cases h
  | succ n ih => intro a3 a5 a6 h; exact v_Mo_bitsOf_l16B C K ih h
def f_Mo_bitsOf (a0 : Int64) (a2 : Int32) : Option Int32 :=
  if (lg_cmp a0 0) = 0 then
    some 0
  else
    f_Mo_bitsOf_l16 FU a0 a2 0
set_option maxRecDepth 20000 in
theorem v_Mo_bitsOf {S : SE} {X : MX} {q : Int32} {M : Mem} {a0 : Int64} {a2 : Int32} (C : CX S X cX12_bitsOf 11 RX12 0) (K : RT S X (some .int) (some (.int q)) M) (h : f_Mo_bitsOf a0 a2 = some q) : V S X 11 M 0 [(0, .long a0), (2, .int a2)] [] := by
  unfold f_Mo_bitsOf at h
  refine v_lload_n C 0 dX12_bitsOf_0 rfl ?_
  refine v_lstore_n C [(3, .long a0), (0, .long a0), (2, .int a2)] dX12_bitsOf_1 (by decide) rfl ?_
  refine v_iload_n C 2 dX12_bitsOf_2 rfl ?_
  refine v_istore C [(5, .int a2), (3, .long a0), (0, .long a0), (2, .int a2)] dX12_bitsOf_3 (by decide) rfl ?_
  refine v_lload_n C 2 dX12_bitsOf_5 rfl ?_
  refine v_lconst C 0 dX12_bitsOf_6 rfl ?_
  refine v_lcmp C dX12_bitsOf_7 ?_
  refine v_if_ne C 13 dX12_bitsOf_8 (by decide) (fun c14 => ?_) (fun c14 => ?_)
  · replace h := (ite_h h).2 c14
    refine v_iconst C 0 dX12_bitsOf_13 rfl ?_
    refine v_istore C [(6, .int 0), (5, .int a2), (3, .long a0), (0, .long a0), (2, .int a2)] dX12_bitsOf_14 (by decide) rfl ?_
    refine v_sub [2, 1, 0] rfl ?_
    exact v_Mo_bitsOf_l16 C K FU _ _ _ h
  · replace h := (ite_h h).1 c14
    refine v_iconst C 0 dX12_bitsOf_11 rfl ?_
    obtain rfl := Option.some.inj h
    exact v_iret C K dX12_bitsOf_12
theorem m_Mo_bitsOf {S : SE} (hI : Inj S) (M : Mem) (a0 : Int64) (a2 : Int32) (q : Int32) (h : f_Mo_bitsOf a0 a2 = some q) : CM S yX12_bitsOf cX12_bitsOf 11 (some .int) 0 [.long a0, .int a2] M (some (.int q)) M :=
  CM.of [(0, .long a0), (2, .int a2)] hI (by decide) rfl (Nat.le_of_ble_eq_true rfl) (fun X C K => v_Mo_bitsOf C K  h)
def f_Mo_divided_b41 (s0 : Int64) : Option Int32 :=
  (f_Mo_bitsOf s0 (-40)).bind fun q3 =>
  some q3
set_option maxRecDepth 20000 in
theorem v_Mo_divided_b41 {S : SE} {X : MX} {q : Int32} {s0 : Int64} {M : Mem} (C : CX S X cX12_divided 5 RX12 1) (K : RT S X (some .int) (some (.int q)) M) (h : f_Mo_divided_b41 s0 = some q) : V S X 5 M 41 [] [.long s0] := by
  unfold f_Mo_divided_b41 at h
  refine v_bipush C (-40) dX12_divided_41 rfl ?_
  obtain ⟨q3, hq3, h⟩ := Option.bind_eq_some_iff.mp h
  refine cs C [] (m_Mo_bitsOf C.inj M s0 (-40) q3 hq3) ci_Mo_bitsOf lk_X12_116 (by decide) rfl rfl (Nat.le_of_ble_eq_true rfl) dX12_divided_43 ?_
  obtain rfl := Option.some.inj h
  exact v_iret C K dX12_divided_46
def f_Mo_divided_b27 (a2 : Int64) (s0 : Int32) : Option Int32 :=
  if s0 = 0 then
    f_Mo_divided_b41 a2
  else
    f_Mo_divided_b41 (a2 ||| 1)
set_option maxRecDepth 20000 in
theorem v_Mo_divided_b27 {S : SE} {X : MX} {q : Int32} {a2 : Int64} {s0 : Int32} {M : Mem} (C : CX S X cX12_divided 5 RX12 1) (K : RT S X (some .int) (some (.int q)) M) (h : f_Mo_divided_b27 a2 s0 = some q) : V S X 5 M 27 [(2, .long a2)] [.int s0] := by
  unfold f_Mo_divided_b27 at h
  refine v_istore C [(4, .int s0), (2, .long a2)] dX12_divided_27 (by decide) rfl ?_
  refine v_iload C 0 dX12_divided_29 rfl ?_
  refine v_if_eq C 40 dX12_divided_31 (by decide) (fun c4 => ?_) (fun c4 => ?_)
  · replace h := (ite_h h).1 c4
    refine v_lload_n C 1 dX12_divided_40 rfl ?_
    refine v_sub [] rfl ?_
    exact v_Mo_divided_b41 C K h
  · replace h := (ite_h h).2 c4
    refine v_lload_n C 1 dX12_divided_34 rfl ?_
    refine v_lconst C 1 dX12_divided_35 rfl ?_
    refine v_lor C dX12_divided_36 ?_
    refine v_goto C 41 dX12_divided_37 (by decide) ?_
    refine v_sub [] rfl ?_
    exact v_Mo_divided_b41 C K h
def f_Mo_divided (a0 : Int32) (a1 : Int32) : Option Int32 :=
  if ¬ (Int32.toInt64 a1) = 0 then
    bnd (((Int32.toInt64 a0) <<< (Int32.toInt64 40 &&& 63)) / (Int32.toInt64 a1)) fun y2 =>
    if (lg_cmp (y2 * (Int32.toInt64 a1)) ((Int32.toInt64 a0) <<< (Int32.toInt64 40 &&& 63))) = 0 then
      f_Mo_divided_b27 y2 0
    else
      f_Mo_divided_b27 y2 1
  else none
set_option maxRecDepth 20000 in
theorem v_Mo_divided {S : SE} {X : MX} {q : Int32} {M : Mem} {a0 : Int32} {a1 : Int32} (C : CX S X cX12_divided 5 RX12 1) (K : RT S X (some .int) (some (.int q)) M) (h : f_Mo_divided a0 a1 = some q) : V S X 5 M 0 [(0, .int a0), (1, .int a1)] [] := by
  unfold f_Mo_divided at h
  refine v_iload_n C 0 dX12_divided_0 rfl ?_
  refine v_i2l C dX12_divided_1 ?_
  refine v_bipush C 40 dX12_divided_2 rfl ?_
  refine v_lshl C dX12_divided_4 ?_
  refine v_iload_n C 1 dX12_divided_5 rfl ?_
  refine v_i2l C dX12_divided_6 ?_
  obtain ⟨g1, h⟩ := gd_h h
  refine v_ldiv C g1 dX12_divided_7 ?_
  refine v_nml h (fun y2 h => ?_)
  refine v_lstore_n C [(2, .long y2), (0, .int a0), (1, .int a1)] dX12_divided_8 (by decide) rfl ?_
  refine v_lload_n C 0 dX12_divided_9 rfl ?_
  refine v_iload_n C 2 dX12_divided_10 rfl ?_
  refine v_i2l C dX12_divided_11 ?_
  refine v_lmul C dX12_divided_12 ?_
  refine v_iload_n C 1 dX12_divided_13 rfl ?_
  refine v_i2l C dX12_divided_14 ?_
  refine v_bipush C 40 dX12_divided_15 rfl ?_
  refine v_lshl C dX12_divided_17 ?_
  refine v_lcmp C dX12_divided_18 ?_
  refine v_if_eq C 26 dX12_divided_19 (by decide) (fun c5 => ?_) (fun c5 => ?_)
  · replace h := (ite_h h).1 c5
    refine v_iconst C 0 dX12_divided_26 rfl ?_
    refine v_sub [0] rfl ?_
    exact v_Mo_divided_b27 C K h
  · replace h := (ite_h h).2 c5
    refine v_iconst C 1 dX12_divided_22 rfl ?_
    refine v_goto C 27 dX12_divided_23 (by decide) ?_
    refine v_sub [0] rfl ?_
    exact v_Mo_divided_b27 C K h
theorem m_Mo_divided {S : SE} (hI : Inj S) (M : Mem) (a0 : Int32) (a1 : Int32) (q : Int32) (h : f_Mo_divided a0 a1 = some q) : CM S yX12_divided cX12_divided 5 (some .int) 1 [.int a0, .int a1] M (some (.int q)) M :=
  CM.of [(0, .int a0), (1, .int a1)] hI (by decide) rfl (Nat.le_of_ble_eq_true rfl) (fun X C K => v_Mo_divided C K  h)
def f_Mo_added_b44 (a2 : Int32) : Option Int32 :=
  some a2
set_option maxRecDepth 20000 in
theorem v_Mo_added_b44 {S : SE} {X : MX} {q : Int32} {a2 : Int32} {M : Mem} (C : CX S X cX12_added 9 RX12 1) (K : RT S X (some .int) (some (.int q)) M) (h : f_Mo_added_b44 a2 = some q) : V S X 9 M 44 [(2, .int a2)] [] := by
  unfold f_Mo_added_b44 at h
  refine v_iload_n C 0 dX12_added_44 rfl ?_
  obtain rfl := Option.some.inj h
  exact v_iret C K dX12_added_45
def f_Mo_added_b21 (a2 : Int32) (s0 : Int32) : Option Int32 :=
  bnd ((a2 >>> (23 &&& 31)) - (s0 >>> (23 &&& 31))) fun x1 =>
  if s0 = 0 then
    f_Mo_added_b44 a2
  else
    if x1 ≤ 26 then
      bnd (Int32.toInt64 ((a2 &&& 8388607) ||| 8388608)) fun y2 =>
      bnd (Int32.toInt64 ((s0 &&& 8388607) ||| 8388608)) fun y3 =>
      (f_Mo_bitsOf ((y2 <<< (Int32.toInt64 x1 &&& 63)) + y3) ((s0 >>> (23 &&& 31)) - 150)).bind fun q4 =>
      some q4
    else
      f_Mo_added_b44 a2
set_option maxRecDepth 20000 in
theorem v_Mo_added_b21 {S : SE} {X : MX} {q : Int32} {a2 : Int32} {s0 : Int32} {M : Mem} (C : CX S X cX12_added 9 RX12 1) (K : RT S X (some .int) (some (.int q)) M) (h : f_Mo_added_b21 a2 s0 = some q) : V S X 9 M 21 [(2, .int a2)] [.int s0] := by
  unfold f_Mo_added_b21 at h
  refine v_istore_n C [(3, .int s0), (2, .int a2)] dX12_added_21 (by decide) rfl ?_
  refine v_iload_n C 1 dX12_added_22 rfl ?_
  refine v_bipush C 23 dX12_added_23 rfl ?_
  refine v_ishr C dX12_added_25 ?_
  refine v_iload_n C 0 dX12_added_26 rfl ?_
  refine v_bipush C 23 dX12_added_27 rfl ?_
  refine v_ishr C dX12_added_29 ?_
  refine v_isub C dX12_added_30 ?_
  refine v_nmi h (fun x1 h => ?_)
  refine v_istore C [(4, .int x1), (3, .int s0), (2, .int a2)] dX12_added_31 (by decide) rfl ?_
  refine v_iload_n C 1 dX12_added_33 rfl ?_
  refine v_if_eq C 44 dX12_added_34 (by decide) (fun c6 => ?_) (fun c6 => ?_)
  · replace h := (ite_h h).1 c6
    refine v_sub [2] rfl ?_
    exact v_Mo_added_b44 C K h
  · replace h := (ite_h h).2 c6
    refine v_iload C 0 dX12_added_37 rfl ?_
    refine v_bipush C 26 dX12_added_39 rfl ?_
    refine v_icmp_le C 46 dX12_added_41 (by decide) (fun c5 => ?_) (fun c5 => ?_)
    · replace h := (ite_h h).1 c5
      refine v_iload_n C 2 dX12_added_46 rfl ?_
      refine v_ldc C kc_X12_115 dX12_added_47 ?_
      refine v_iand C dX12_added_49 ?_
      refine v_ldc C kc_X12_120 dX12_added_50 ?_
      refine v_ior C dX12_added_52 ?_
      refine v_i2l C dX12_added_53 ?_
      refine v_nml h (fun y2 h => ?_)
      refine v_lstore C [(5, .long y2), (4, .int x1), (3, .int s0), (2, .int a2)] dX12_added_54 (by decide) rfl ?_
      refine v_iload_n C 2 dX12_added_56 rfl ?_
      refine v_ldc C kc_X12_115 dX12_added_57 ?_
      refine v_iand C dX12_added_59 ?_
      refine v_ldc C kc_X12_120 dX12_added_60 ?_
      refine v_ior C dX12_added_62 ?_
      refine v_i2l C dX12_added_63 ?_
      refine v_nml h (fun y3 h => ?_)
      refine v_lstore C [(7, .long y3), (5, .long y2), (4, .int x1), (3, .int s0), (2, .int a2)] dX12_added_64 (by decide) rfl ?_
      refine v_lload C 1 dX12_added_66 rfl ?_
      refine v_iload C 2 dX12_added_68 rfl ?_
      refine v_lshl C dX12_added_70 ?_
      refine v_lload C 0 dX12_added_71 rfl ?_
      refine v_ladd C dX12_added_73 ?_
      refine v_iload_n C 3 dX12_added_74 rfl ?_
      refine v_bipush C 23 dX12_added_75 rfl ?_
      refine v_ishr C dX12_added_77 ?_
      refine v_sipush C 150 dX12_added_78 rfl ?_
      refine v_isub C dX12_added_81 ?_
      obtain ⟨q4, hq4, h⟩ := Option.bind_eq_some_iff.mp h
      refine cs C [] (m_Mo_bitsOf C.inj M ((y2 <<< (Int32.toInt64 x1 &&& 63)) + y3) ((s0 >>> (23 &&& 31)) - 150) q4 hq4) ci_Mo_bitsOf lk_X12_116 (by decide) rfl rfl (Nat.le_of_ble_eq_true rfl) dX12_added_82 ?_
      obtain rfl := Option.some.inj h
      exact v_iret C K dX12_added_85
    · replace h := (ite_h h).2 c5
      refine v_sub [2] rfl ?_
      exact v_Mo_added_b44 C K h
def f_Mo_added_b10 (a0 : Int32) (a1 : Int32) (s0 : Int32) : Option Int32 :=
  if a0 ≤ a1 then
    f_Mo_added_b21 s0 a0
  else
    f_Mo_added_b21 s0 a1
set_option maxRecDepth 20000 in
theorem v_Mo_added_b10 {S : SE} {X : MX} {q : Int32} {a0 : Int32} {a1 : Int32} {s0 : Int32} {M : Mem} (C : CX S X cX12_added 9 RX12 1) (K : RT S X (some .int) (some (.int q)) M) (h : f_Mo_added_b10 a0 a1 s0 = some q) : V S X 9 M 10 [(0, .int a0), (1, .int a1)] [.int s0] := by
  unfold f_Mo_added_b10 at h
  refine v_istore_n C [(2, .int s0), (0, .int a0), (1, .int a1)] dX12_added_10 (by decide) rfl ?_
  refine v_iload_n C 1 dX12_added_11 rfl ?_
  refine v_iload_n C 2 dX12_added_12 rfl ?_
  refine v_icmp_le C 20 dX12_added_13 (by decide) (fun c7 => ?_) (fun c7 => ?_)
  · replace h := (ite_h h).1 c7
    refine v_iload_n C 1 dX12_added_20 rfl ?_
    refine v_sub [0] rfl ?_
    exact v_Mo_added_b21 C K h
  · replace h := (ite_h h).2 c7
    refine v_iload_n C 2 dX12_added_16 rfl ?_
    refine v_goto C 21 dX12_added_17 (by decide) ?_
    refine v_sub [0] rfl ?_
    exact v_Mo_added_b21 C K h
def f_Mo_added (a0 : Int32) (a1 : Int32) : Option Int32 :=
  if a0 ≤ a1 then
    f_Mo_added_b10 a0 a1 a1
  else
    f_Mo_added_b10 a0 a1 a0
set_option maxRecDepth 20000 in
theorem v_Mo_added {S : SE} {X : MX} {q : Int32} {M : Mem} {a0 : Int32} {a1 : Int32} (C : CX S X cX12_added 9 RX12 1) (K : RT S X (some .int) (some (.int q)) M) (h : f_Mo_added a0 a1 = some q) : V S X 9 M 0 [(0, .int a0), (1, .int a1)] [] := by
  unfold f_Mo_added at h
  refine v_iload_n C 0 dX12_added_0 rfl ?_
  refine v_iload_n C 1 dX12_added_1 rfl ?_
  refine v_icmp_le C 9 dX12_added_2 (by decide) (fun c8 => ?_) (fun c8 => ?_)
  · replace h := (ite_h h).1 c8
    refine v_iload_n C 1 dX12_added_9 rfl ?_
    exact v_Mo_added_b10 C K h
  · replace h := (ite_h h).2 c8
    refine v_iload_n C 0 dX12_added_5 rfl ?_
    refine v_goto C 10 dX12_added_6 (by decide) ?_
    exact v_Mo_added_b10 C K h
theorem m_Mo_added {S : SE} (hI : Inj S) (M : Mem) (a0 : Int32) (a1 : Int32) (q : Int32) (h : f_Mo_added a0 a1 = some q) : CM S yX12_added cX12_added 9 (some .int) 1 [.int a0, .int a1] M (some (.int q)) M :=
  CM.of [(0, .int a0), (1, .int a1)] hI (by decide) rfl (Nat.le_of_ble_eq_true rfl) (fun X C K => v_Mo_added C K  h)
def f_Mo_isText (a0 : Int32) : Int32 :=
  (f_Mo_in a0 0 2)
set_option maxRecDepth 20000 in
theorem v_Mo_isText {S : SE} {X : MX} {q : Int32} {M : Mem} {a0 : Int32} (C : CX S X cX12_isText 1 RX12 1) (K : RT S X (some .boolean) (some (.int q)) M) (h : f_Mo_isText a0 = q) : V S X 1 M 0 [(0, .int a0)] [] := by
  unfold f_Mo_isText at h
  refine v_iload_n C 0 dX12_isText_0 rfl ?_
  refine v_iconst C 0 dX12_isText_1 rfl ?_
  refine v_iconst C 2 dX12_isText_2 rfl ?_
  refine cs C [] (m_Mo_in C.inj M a0 0 2 _ rfl) ci_Mo_in lk_X12_107 (by decide) rfl rfl (Nat.le_of_ble_eq_true rfl) dX12_isText_3 ?_
  subst h
  exact v_zret C (bz_Mo_in a0 0 2) K dX12_isText_6
theorem m_Mo_isText {S : SE} (hI : Inj S) (M : Mem) (a0 : Int32) (q : Int32) (h : f_Mo_isText a0 = q) : CM S yX12_isText cX12_isText 1 (some .boolean) 1 [.int a0] M (some (.int q)) M :=
  CM.of [(0, .int a0)] hI (by decide) rfl (Nat.le_of_ble_eq_true rfl) (fun X C K => v_Mo_isText C K  h)
theorem bz_Mo_isText (a0 : Int32) : f_Mo_isText a0 = 0 ∨ f_Mo_isText a0 = 1 := by unfold f_Mo_isText; (repeat' split) <;> first | exact Or.inl rfl | exact Or.inr rfl | exact bz_Mo_in _ _ _
def f_Mo_roomOf (a0 : Int32) : Int32 :=
  if a0 = 2 then
    12
  else
    29
set_option maxRecDepth 20000 in
theorem v_Mo_roomOf {S : SE} {X : MX} {q : Int32} {M : Mem} {a0 : Int32} (C : CX S X cX12_roomOf 1 RX12 0) (K : RT S X (some .int) (some (.int q)) M) (h : f_Mo_roomOf a0 = q) : V S X 1 M 0 [(0, .int a0)] [] := by
  unfold f_Mo_roomOf at h
  refine v_iload_n C 0 dX12_roomOf_0 rfl ?_
  refine v_iconst C 2 dX12_roomOf_1 rfl ?_
  refine v_icmp_ne C 10 dX12_roomOf_2 (by decide) (fun c1 => ?_) (fun c1 => ?_)
  · replace h := (ite_h h).2 c1
    refine v_bipush C 29 dX12_roomOf_10 rfl ?_
    subst h
    exact v_iret C K dX12_roomOf_12
  · replace h := (ite_h h).1 c1
    refine v_bipush C 12 dX12_roomOf_5 rfl ?_
    refine v_goto C 12 dX12_roomOf_7 (by decide) ?_
    subst h
    exact v_iret C K dX12_roomOf_12
theorem m_Mo_roomOf {S : SE} (hI : Inj S) (M : Mem) (a0 : Int32) (q : Int32) (h : f_Mo_roomOf a0 = q) : CM S yX12_roomOf cX12_roomOf 1 (some .int) 0 [.int a0] M (some (.int q)) M :=
  CM.of [(0, .int a0)] hI (by decide) rfl (Nat.le_of_ble_eq_true rfl) (fun X C K => v_Mo_roomOf C K  h)
def f_Mo_type_b18 (M : Mem) : Option (Int32 × Mem) :=
  some ((-2), M)
set_option maxRecDepth 20000 in
theorem v_Mo_type_b18 {S : SE} {X : MX} {q : (Int32 × Mem)} {M : Mem} (C : CX S X cX12_type 3 RX12 2) (K : RT S X (some .int) (some (.int q.1)) q.2) (h : f_Mo_type_b18 M = some q) : V S X 3 M 18 [] [] := by
  unfold f_Mo_type_b18 at h
  refine v_bipush C (-2) dX12_type_18 rfl ?_
  obtain rfl := Option.some.inj h
  exact v_iret C K dX12_type_20
def f_Mo_type (M : Mem) (a1 : Int32) (a2 : Int32) : Option (Int32 × Mem) :=
  if (f_Mo_isText a1) = 0 then
    f_Mo_type_b18 M
  else
    if (f_Mo_in a2 0 255) = 0 then
      f_Mo_type_b18 M
    else
      if gin a1 3 then
        if (M 92 a1.toNatClampNeg) = (f_Mo_roomOf a1) then
          some ((-4), M)
        else
          if gin a1 3 then
            if gin ((30 * a1) + (M 92 a1.toNatClampNeg)) 90 then
              bnd (mset M 93 ((30 * a1) + (M 92 a1.toNatClampNeg)).toNatClampNeg a2) fun M4 =>
              if gin a1 3 then
                if gin a1 3 then
                  bnd (mset M4 92 a1.toNatClampNeg ((M4 92 a1.toNatClampNeg) + 1)) fun M7 =>
                  if gin a1 3 then
                    some ((M7 92 a1.toNatClampNeg), M7)
                  else none
                else none
              else none
            else none
          else none
      else none
set_option maxRecDepth 20000 in
theorem v_Mo_type {S : SE} {X : MX} {q : (Int32 × Mem)} {M : Mem} {a1 : Int32} {a2 : Int32} (C : CX S X cX12_type 3 RX12 2) (K : RT S X (some .int) (some (.int q.1)) q.2) (h : f_Mo_type M a1 a2 = some q) : V S X 3 M 0 [(0, .ref (S.2.1 91)), (1, .int a1), (2, .int a2)] [] := by
  unfold f_Mo_type at h
  refine v_iload_n C 1 dX12_type_0 rfl ?_
  refine cs C [] (m_Mo_isText C.inj M a1 _ rfl) ci_Mo_isText lk_X12_121 (by decide) rfl rfl (Nat.le_of_ble_eq_true rfl) dX12_type_1 ?_
  refine v_if_eq C 18 dX12_type_4 (by decide) (fun c11 => ?_) (fun c11 => ?_)
  · replace h := (ite_h h).1 c11
    refine v_sub [] rfl ?_
    exact v_Mo_type_b18 C K h
  · replace h := (ite_h h).2 c11
    refine v_iload_n C 2 dX12_type_7 rfl ?_
    refine v_iconst C 0 dX12_type_8 rfl ?_
    refine v_sipush C 255 dX12_type_9 rfl ?_
    refine cs C [] (m_Mo_in C.inj M a2 0 255 _ rfl) ci_Mo_in lk_X12_107 (by decide) rfl rfl (Nat.le_of_ble_eq_true rfl) dX12_type_12 ?_
    refine v_if_ne C 21 dX12_type_15 (by decide) (fun c10 => ?_) (fun c10 => ?_)
    · replace h := (ite_h h).2 c10
      refine v_aload_n C 0 dX12_type_21 rfl ?_
      refine g_Mo_typed C kk91 fl_X12_7 dX12_type_22 ?_
      refine v_iload_n C 1 dX12_type_25 rfl ?_
      obtain ⟨g1, h⟩ := gd_h h
      refine v_iald C kk92 ll92 g1 dX12_type_26 ?_
      refine v_iload_n C 1 dX12_type_27 rfl ?_
      refine cs C [.int (M 92 a1.toNatClampNeg)] (m_Mo_roomOf C.inj M a1 _ rfl) ci_Mo_roomOf lk_X12_125 (by decide) rfl rfl (Nat.le_of_ble_eq_true rfl) dX12_type_28 ?_
      refine v_icmp_ne C 37 dX12_type_31 (by decide) (fun c9 => ?_) (fun c9 => ?_)
      · replace h := (ite_h h).2 c9
        refine v_aload_n C 0 dX12_type_37 rfl ?_
        refine g_Mo_texts C kk91 fl_X12_13 dX12_type_38 ?_
        refine v_bipush C 30 dX12_type_41 rfl ?_
        refine v_iload_n C 1 dX12_type_43 rfl ?_
        refine v_imul C dX12_type_44 ?_
        refine v_aload_n C 0 dX12_type_45 rfl ?_
        refine g_Mo_typed C kk91 fl_X12_7 dX12_type_46 ?_
        refine v_iload_n C 1 dX12_type_49 rfl ?_
        obtain ⟨g2, h⟩ := gd_h h
        refine v_iald C kk92 ll92 g2 dX12_type_50 ?_
        refine v_iadd C dX12_type_51 ?_
        refine v_iload_n C 2 dX12_type_52 rfl ?_
        obtain ⟨g3, h⟩ := gd_h h
        refine v_iast C kk93 ll93 g3 dX12_type_53 ?_
        refine v_nmm h (fun M4 h => ?_)
        refine v_aload_n C 0 dX12_type_54 rfl ?_
        refine g_Mo_typed C kk91 fl_X12_7 dX12_type_55 ?_
        refine v_iload_n C 1 dX12_type_58 rfl ?_
        refine v_dup2 C dX12_type_59 rfl rfl ?_
        obtain ⟨g5, h⟩ := gd_h h
        refine v_iald C kk92 ll92 g5 dX12_type_60 ?_
        refine v_iconst C 1 dX12_type_61 rfl ?_
        refine v_iadd C dX12_type_62 ?_
        obtain ⟨g6, h⟩ := gd_h h
        refine v_iast C kk92 ll92 g6 dX12_type_63 ?_
        refine v_nmm h (fun M7 h => ?_)
        refine v_aload_n C 0 dX12_type_64 rfl ?_
        refine g_Mo_typed C kk91 fl_X12_7 dX12_type_65 ?_
        refine v_iload_n C 1 dX12_type_68 rfl ?_
        obtain ⟨g8, h⟩ := gd_h h
        refine v_iald C kk92 ll92 g8 dX12_type_69 ?_
        obtain rfl := Option.some.inj h
        exact v_iret C K dX12_type_70
      · replace h := (ite_h h).1 c9
        refine v_bipush C (-4) dX12_type_34 rfl ?_
        obtain rfl := Option.some.inj h
        exact v_iret C K dX12_type_36
    · replace h := (ite_h h).1 c10
      refine v_sub [] rfl ?_
      exact v_Mo_type_b18 C K h
theorem m_Mo_type {S : SE} (hI : Inj S) (M : Mem) (a1 : Int32) (a2 : Int32) (q : (Int32 × Mem)) (h : f_Mo_type M a1 a2 = some q) : CM S yX12_type cX12_type 3 (some .int) 2 [.ref (S.2.1 91), .int a1, .int a2] M (some (.int q.1)) q.2 :=
  CM.of [(0, .ref (S.2.1 91)), (1, .int a1), (2, .int a2)] hI (by decide) rfl (Nat.le_of_ble_eq_true rfl) (fun X C K => v_Mo_type C K  h)
def f_Mo_wipe (M : Mem) (a1 : Int32) : Option (Int32 × Mem) :=
  if (f_Mo_isText a1) = 0 then
    some ((-2), M)
  else
    if gin a1 3 then
      bnd (M 92 a1.toNatClampNeg) fun x2 =>
      if gin a1 3 then
        bnd (mset M 92 a1.toNatClampNeg 0) fun M4 =>
        some (x2, M4)
      else none
    else none
set_option maxRecDepth 20000 in
theorem v_Mo_wipe {S : SE} {X : MX} {q : (Int32 × Mem)} {M : Mem} {a1 : Int32} (C : CX S X cX12_wipe 3 RX12 2) (K : RT S X (some .int) (some (.int q.1)) q.2) (h : f_Mo_wipe M a1 = some q) : V S X 3 M 0 [(0, .ref (S.2.1 91)), (1, .int a1)] [] := by
  unfold f_Mo_wipe at h
  refine v_iload_n C 1 dX12_wipe_0 rfl ?_
  refine cs C [] (m_Mo_isText C.inj M a1 _ rfl) ci_Mo_isText lk_X12_121 (by decide) rfl rfl (Nat.le_of_ble_eq_true rfl) dX12_wipe_1 ?_
  refine v_if_ne C 10 dX12_wipe_4 (by decide) (fun c5 => ?_) (fun c5 => ?_)
  · replace h := (ite_h h).2 c5
    refine v_aload_n C 0 dX12_wipe_10 rfl ?_
    refine g_Mo_typed C kk91 fl_X12_7 dX12_wipe_11 ?_
    refine v_iload_n C 1 dX12_wipe_14 rfl ?_
    obtain ⟨g1, h⟩ := gd_h h
    refine v_iald C kk92 ll92 g1 dX12_wipe_15 ?_
    refine v_nmi h (fun x2 h => ?_)
    refine v_istore_n C [(2, .int x2), (0, .ref (S.2.1 91)), (1, .int a1)] dX12_wipe_16 (by decide) rfl ?_
    refine v_aload_n C 1 dX12_wipe_17 rfl ?_
    refine g_Mo_typed C kk91 fl_X12_7 dX12_wipe_18 ?_
    refine v_iload_n C 2 dX12_wipe_21 rfl ?_
    refine v_iconst C 0 dX12_wipe_22 rfl ?_
    obtain ⟨g3, h⟩ := gd_h h
    refine v_iast C kk92 ll92 g3 dX12_wipe_23 ?_
    refine v_nmm h (fun M4 h => ?_)
    refine v_iload_n C 0 dX12_wipe_24 rfl ?_
    obtain rfl := Option.some.inj h
    exact v_iret C K dX12_wipe_25
  · replace h := (ite_h h).1 c5
    refine v_bipush C (-2) dX12_wipe_7 rfl ?_
    obtain rfl := Option.some.inj h
    exact v_iret C K dX12_wipe_9
theorem m_Mo_wipe {S : SE} (hI : Inj S) (M : Mem) (a1 : Int32) (q : (Int32 × Mem)) (h : f_Mo_wipe M a1 = some q) : CM S yX12_wipe cX12_wipe 3 (some .int) 2 [.ref (S.2.1 91), .int a1] M (some (.int q.1)) q.2 :=
  CM.of [(0, .ref (S.2.1 91)), (1, .int a1)] hI (by decide) rfl (Nat.le_of_ble_eq_true rfl) (fun X C K => v_Mo_wipe C K  h)
def f_Mo_undo (M : Mem) (a1 : Int32) : Option (Int32 × Mem) :=
  if (f_Mo_isText a1) = 0 then
    some ((-2), M)
  else
    if gin a1 3 then
      if (M 92 a1.toNatClampNeg) = 0 then
        some ((-3), M)
      else
        if gin a1 3 then
          if gin a1 3 then
            bnd (mset M 92 a1.toNatClampNeg ((M 92 a1.toNatClampNeg) - 1)) fun M4 =>
            if gin a1 3 then
              some ((M4 92 a1.toNatClampNeg), M4)
            else none
          else none
        else none
    else none
set_option maxRecDepth 20000 in
theorem v_Mo_undo {S : SE} {X : MX} {q : (Int32 × Mem)} {M : Mem} {a1 : Int32} (C : CX S X cX12_undo 2 RX12 2) (K : RT S X (some .int) (some (.int q.1)) q.2) (h : f_Mo_undo M a1 = some q) : V S X 2 M 0 [(0, .ref (S.2.1 91)), (1, .int a1)] [] := by
  unfold f_Mo_undo at h
  refine v_iload_n C 1 dX12_undo_0 rfl ?_
  refine cs C [] (m_Mo_isText C.inj M a1 _ rfl) ci_Mo_isText lk_X12_121 (by decide) rfl rfl (Nat.le_of_ble_eq_true rfl) dX12_undo_1 ?_
  refine v_if_ne C 10 dX12_undo_4 (by decide) (fun c7 => ?_) (fun c7 => ?_)
  · replace h := (ite_h h).2 c7
    refine v_aload_n C 0 dX12_undo_10 rfl ?_
    refine g_Mo_typed C kk91 fl_X12_7 dX12_undo_11 ?_
    refine v_iload_n C 1 dX12_undo_14 rfl ?_
    obtain ⟨g1, h⟩ := gd_h h
    refine v_iald C kk92 ll92 g1 dX12_undo_15 ?_
    refine v_if_ne C 22 dX12_undo_16 (by decide) (fun c6 => ?_) (fun c6 => ?_)
    · replace h := (ite_h h).2 c6
      refine v_aload_n C 0 dX12_undo_22 rfl ?_
      refine g_Mo_typed C kk91 fl_X12_7 dX12_undo_23 ?_
      refine v_iload_n C 1 dX12_undo_26 rfl ?_
      refine v_dup2 C dX12_undo_27 rfl rfl ?_
      obtain ⟨g2, h⟩ := gd_h h
      refine v_iald C kk92 ll92 g2 dX12_undo_28 ?_
      refine v_iconst C 1 dX12_undo_29 rfl ?_
      refine v_isub C dX12_undo_30 ?_
      obtain ⟨g3, h⟩ := gd_h h
      refine v_iast C kk92 ll92 g3 dX12_undo_31 ?_
      refine v_nmm h (fun M4 h => ?_)
      refine v_aload_n C 0 dX12_undo_32 rfl ?_
      refine g_Mo_typed C kk91 fl_X12_7 dX12_undo_33 ?_
      refine v_iload_n C 1 dX12_undo_36 rfl ?_
      obtain ⟨g5, h⟩ := gd_h h
      refine v_iald C kk92 ll92 g5 dX12_undo_37 ?_
      obtain rfl := Option.some.inj h
      exact v_iret C K dX12_undo_38
    · replace h := (ite_h h).1 c6
      refine v_bipush C (-3) dX12_undo_19 rfl ?_
      obtain rfl := Option.some.inj h
      exact v_iret C K dX12_undo_21
  · replace h := (ite_h h).1 c7
    refine v_bipush C (-2) dX12_undo_7 rfl ?_
    obtain rfl := Option.some.inj h
    exact v_iret C K dX12_undo_9
theorem m_Mo_undo {S : SE} (hI : Inj S) (M : Mem) (a1 : Int32) (q : (Int32 × Mem)) (h : f_Mo_undo M a1 = some q) : CM S yX12_undo cX12_undo 2 (some .int) 2 [.ref (S.2.1 91), .int a1] M (some (.int q.1)) q.2 :=
  CM.of [(0, .ref (S.2.1 91)), (1, .int a1)] hI (by decide) rfl (Nat.le_of_ble_eq_true rfl) (fun X C K => v_Mo_undo C K  h)
def f_Mo_isSheet (a0 : Int32) : Int32 :=
  (f_Mo_in a0 0 3)
set_option maxRecDepth 20000 in
theorem v_Mo_isSheet {S : SE} {X : MX} {q : Int32} {M : Mem} {a0 : Int32} (C : CX S X cX12_isSheet 1 RX12 1) (K : RT S X (some .boolean) (some (.int q)) M) (h : f_Mo_isSheet a0 = q) : V S X 1 M 0 [(0, .int a0)] [] := by
  unfold f_Mo_isSheet at h
  refine v_iload_n C 0 dX12_isSheet_0 rfl ?_
  refine v_iconst C 0 dX12_isSheet_1 rfl ?_
  refine v_iconst C 3 dX12_isSheet_2 rfl ?_
  refine cs C [] (m_Mo_in C.inj M a0 0 3 _ rfl) ci_Mo_in lk_X12_107 (by decide) rfl rfl (Nat.le_of_ble_eq_true rfl) dX12_isSheet_3 ?_
  subst h
  exact v_zret C (bz_Mo_in a0 0 3) K dX12_isSheet_6
theorem m_Mo_isSheet {S : SE} (hI : Inj S) (M : Mem) (a0 : Int32) (q : Int32) (h : f_Mo_isSheet a0 = q) : CM S yX12_isSheet cX12_isSheet 1 (some .boolean) 1 [.int a0] M (some (.int q)) M :=
  CM.of [(0, .int a0)] hI (by decide) rfl (Nat.le_of_ble_eq_true rfl) (fun X C K => v_Mo_isSheet C K  h)
theorem bz_Mo_isSheet (a0 : Int32) : f_Mo_isSheet a0 = 0 ∨ f_Mo_isSheet a0 = 1 := by unfold f_Mo_isSheet; (repeat' split) <;> first | exact Or.inl rfl | exact Or.inr rfl | exact bz_Mo_in _ _ _
def f_Mo_meets (M : Mem) (a1 : Int32) : (Int32 × Mem) :=
  bnd (mset M 91 43 a1) fun M1 =>
  (((-10) - a1), M1)
set_option maxRecDepth 20000 in
theorem v_Mo_meets {S : SE} {X : MX} {q : (Int32 × Mem)} {M : Mem} {a1 : Int32} (C : CX S X cX12_meets 2 RX12 0) (K : RT S X (some .int) (some (.int q.1)) q.2) (h : f_Mo_meets M a1 = q) : V S X 2 M 0 [(0, .ref (S.2.1 91)), (1, .int a1)] [] := by
  unfold f_Mo_meets at h
  refine v_aload_n C 0 dX12_meets_0 rfl ?_
  refine v_iload_n C 1 dX12_meets_1 rfl ?_
  refine p_Mo_finding C kk91 fl_X12_331 dX12_meets_2 ?_
  refine v_nmm h (fun M1 h => ?_)
  refine v_bipush C (-10) dX12_meets_5 rfl ?_
  refine v_iload_n C 1 dX12_meets_7 rfl ?_
  refine v_isub C dX12_meets_8 ?_
  subst h
  exact v_iret C K dX12_meets_9
theorem m_Mo_meets {S : SE} (hI : Inj S) (M : Mem) (a1 : Int32) (q : (Int32 × Mem)) (h : f_Mo_meets M a1 = q) : CM S yX12_meets cX12_meets 2 (some .int) 0 [.ref (S.2.1 91), .int a1] M (some (.int q.1)) q.2 :=
  CM.of [(0, .ref (S.2.1 91)), (1, .int a1)] hI (by decide) rfl (Nat.le_of_ble_eq_true rfl) (fun X C K => v_Mo_meets C K  h)
def f_Mo_read_b14 (M : Mem) : Option (Int32 × Mem) :=
  some ((-2), M)
set_option maxRecDepth 20000 in
theorem v_Mo_read_b14 {S : SE} {X : MX} {q : (Int32 × Mem)} {M : Mem} (C : CX S X cX12_read 4 RX12 3) (K : RT S X (some .int) (some (.int q.1)) q.2) (h : f_Mo_read_b14 M = some q) : V S X 4 M 14 [] [] := by
  unfold f_Mo_read_b14 at h
  refine v_bipush C (-2) dX12_read_14 rfl ?_
  obtain rfl := Option.some.inj h
  exact v_iret C K dX12_read_16
def f_Mo_read_b69 (a3 : Int32) (M : Mem) : Option (Int32 × Mem) :=
  some (a3, M)
set_option maxRecDepth 20000 in
theorem v_Mo_read_b69 {S : SE} {X : MX} {q : (Int32 × Mem)} {a3 : Int32} {M : Mem} (C : CX S X cX12_read 4 RX12 3) (K : RT S X (some .int) (some (.int q.1)) q.2) (h : f_Mo_read_b69 a3 M = some q) : V S X 4 M 69 [(3, .int a3)] [] := by
  unfold f_Mo_read_b69 at h
  refine v_iload_n C 0 dX12_read_69 rfl ?_
  obtain rfl := Option.some.inj h
  exact v_iret C K dX12_read_70
def f_Mo_read_l34B (k34 : Int32 → Int32 → Int32 → Mem → Option (Int32 × Mem)) (a1 : Int32) (a2 : Int32) (a3 : Int32) (M : Mem) : Option (Int32 × Mem) :=
  if gin a2 4 then
    if (M 121 a2.toNatClampNeg) ≤ a3 then
      f_Mo_read_b69 a3 M
    else
      if gin ((60 * a2) + a3) 240 then
        (f_Mo_type M a1 (M 122 ((60 * a2) + a3).toNatClampNeg)).bind fun q4 =>
        if q4.1 ≤ 0 then
          f_Mo_read_b69 a3 q4.2
        else
          k34 a1 a2 (a3 + 1) q4.2
      else none
  else none
set_option maxRecDepth 20000 in
theorem v_Mo_read_l34B {S : SE} {X : MX} {q : (Int32 × Mem)} {k34 : Int32 → Int32 → Int32 → Mem → Option (Int32 × Mem)} {a1 : Int32} {a2 : Int32} {a3 : Int32} {M : Mem} (C : CX S X cX12_read 4 RX12 3) (K : RT S X (some .int) (some (.int q.1)) q.2) (hk34 : ∀ (a1 : Int32) (a2 : Int32) (a3 : Int32) (M : Mem), k34 a1 a2 a3 M = some q → V S X 4 M 34 [(0, .ref (S.2.1 91)), (1, .int a1), (2, .int a2), (3, .int a3)] []) (h : f_Mo_read_l34B k34 a1 a2 a3 M = some q) : V S X 4 M 34 [(0, .ref (S.2.1 91)), (1, .int a1), (2, .int a2), (3, .int a3)] [] := by
  unfold f_Mo_read_l34B at h
  refine v_iload_n C 3 dX12_read_34 rfl ?_
  refine v_aload_n C 0 dX12_read_35 rfl ?_
  refine g_Mo_sizes C kk91 fl_X12_98 dX12_read_36 ?_
  refine v_iload_n C 2 dX12_read_39 rfl ?_
  obtain ⟨g2, h⟩ := gd_h h
  refine v_iald C kk121 ll121 g2 dX12_read_40 ?_
  refine v_icmp_ge C 69 dX12_read_41 (by decide) (fun c6 => ?_) (fun c6 => ?_)
  · replace h := (ite_h h).1 c6
    refine v_sub [3] rfl ?_
    exact v_Mo_read_b69 C K h
  · replace h := (ite_h h).2 c6
    refine v_aload_n C 0 dX12_read_44 rfl ?_
    refine v_iload_n C 1 dX12_read_45 rfl ?_
    refine v_aload_n C 0 dX12_read_46 rfl ?_
    refine g_Mo_items C kk91 fl_X12_101 dX12_read_47 ?_
    refine v_bipush C 60 dX12_read_50 rfl ?_
    refine v_iload_n C 2 dX12_read_52 rfl ?_
    refine v_imul C dX12_read_53 ?_
    refine v_iload_n C 3 dX12_read_54 rfl ?_
    refine v_iadd C dX12_read_55 ?_
    obtain ⟨g3, h⟩ := gd_h h
    refine v_iald C kk122 ll122 g3 dX12_read_56 ?_
    obtain ⟨q4, hq4, h⟩ := Option.bind_eq_some_iff.mp h
    refine cv12 C [] kk91 (m_Mo_type C.inj M a1 (M 122 ((60 * a2) + a3).toNatClampNeg) q4 hq4) ci_Mo_type rfl lk_X12_135 (by decide) rfl rfl (Nat.le_of_ble_eq_true rfl) dX12_read_57 ?_
    refine v_if_le C 69 dX12_read_60 (by decide) (fun c5 => ?_) (fun c5 => ?_)
    · replace h := (ite_h h).1 c5
      refine v_sub [3] rfl ?_
      exact v_Mo_read_b69 C K h
    · replace h := (ite_h h).2 c5
      refine v_iinc C [(3, .int (a3 + 1)), (0, .ref (S.2.1 91)), (1, .int a1), (2, .int a2)] 3 (a3 + 1) dX12_read_63 rfl rfl (by decide) rfl ?_
      refine v_goto C 34 dX12_read_66 (by decide) ?_
      refine v_sub [1, 2, 3, 0] rfl ?_
      exact hk34 _ _ _ _ h
def f_Mo_read_l34 : Nat → Int32 → Int32 → Int32 → Mem → Option (Int32 × Mem)
  | 0, _, _, _, _ => none
  | n + 1, a1, a2, a3, M => f_Mo_read_l34B (f_Mo_read_l34 n) a1 a2 a3 M
theorem v_Mo_read_l34 {S : SE} {X : MX} {q : (Int32 × Mem)} (C : CX S X cX12_read 4 RX12 3) (K : RT S X (some .int) (some (.int q.1)) q.2) : ∀ (n : Nat) (a1 : Int32) (a2 : Int32) (a3 : Int32) (M : Mem), f_Mo_read_l34 n a1 a2 a3 M = some q → V S X 4 M 34 [(0, .ref (S.2.1 91)), (1, .int a1), (2, .int a2), (3, .int a3)] [] := by
  intro n
  induction n with
  | zero => intro a1 a2 a3 M h; cases h
  | succ n ih => intro a1 a2 a3 M h; exact v_Mo_read_l34B C K ih h
def f_Mo_read (M : Mem) (a1 : Int32) (a2 : Int32) : Option (Int32 × Mem) :=
  if (f_Mo_isText a1) = 0 then
    f_Mo_read_b14 M
  else
    if (f_Mo_isSheet a2) = 0 then
      f_Mo_read_b14 M
    else
      if gin a2 4 then
        if (M 119 a2.toNatClampNeg) = 0 then
          bnd (f_Mo_meets M 1) fun q7 =>
          some (q7.1, q7.2)
        else
          f_Mo_read_l34 FU a1 a2 0 M
      else none
set_option maxRecDepth 20000 in
theorem v_Mo_read {S : SE} {X : MX} {q : (Int32 × Mem)} {M : Mem} {a1 : Int32} {a2 : Int32} (C : CX S X cX12_read 4 RX12 3) (K : RT S X (some .int) (some (.int q.1)) q.2) (h : f_Mo_read M a1 a2 = some q) : V S X 4 M 0 [(0, .ref (S.2.1 91)), (1, .int a1), (2, .int a2)] [] := by
  unfold f_Mo_read at h
  refine v_iload_n C 1 dX12_read_0 rfl ?_
  refine cs C [] (m_Mo_isText C.inj M a1 _ rfl) ci_Mo_isText lk_X12_121 (by decide) rfl rfl (Nat.le_of_ble_eq_true rfl) dX12_read_1 ?_
  refine v_if_eq C 14 dX12_read_4 (by decide) (fun c10 => ?_) (fun c10 => ?_)
  · replace h := (ite_h h).1 c10
    refine v_sub [] rfl ?_
    exact v_Mo_read_b14 C K h
  · replace h := (ite_h h).2 c10
    refine v_iload_n C 2 dX12_read_7 rfl ?_
    refine cs C [] (m_Mo_isSheet C.inj M a2 _ rfl) ci_Mo_isSheet lk_X12_129 (by decide) rfl rfl (Nat.le_of_ble_eq_true rfl) dX12_read_8 ?_
    refine v_if_ne C 17 dX12_read_11 (by decide) (fun c9 => ?_) (fun c9 => ?_)
    · replace h := (ite_h h).2 c9
      refine v_aload_n C 0 dX12_read_17 rfl ?_
      refine g_Mo_isThere C kk91 fl_X12_91 dX12_read_18 ?_
      refine v_iload_n C 2 dX12_read_21 rfl ?_
      obtain ⟨g1, h⟩ := gd_h h
      refine v_zald C kk119 ll119 g1 dX12_read_22 ?_
      refine v_if_ne C 32 dX12_read_23 (by decide) (fun c8 => ?_) (fun c8 => ?_)
      · replace h := (ite_h h).2 c8
        refine v_iconst C 0 dX12_read_32 rfl ?_
        refine v_istore_n C [(3, .int 0), (0, .ref (S.2.1 91)), (1, .int a1), (2, .int a2)] dX12_read_33 (by decide) rfl ?_
        refine v_sub [1, 2, 3, 0] rfl ?_
        exact v_Mo_read_l34 C K FU _ _ _ _ h
      · replace h := (ite_h h).1 c8
        refine v_aload_n C 0 dX12_read_26 rfl ?_
        refine v_iconst C 1 dX12_read_27 rfl ?_
        obtain ⟨q7, hq7, h⟩ := bnd_ex h
        refine cv12 C [] kk91 (m_Mo_meets C.inj M 1 q7 hq7) ci_Mo_meets rfl lk_X12_132 (by decide) rfl rfl (Nat.le_of_ble_eq_true rfl) dX12_read_28 ?_
        obtain rfl := Option.some.inj h
        exact v_iret C K dX12_read_31
    · replace h := (ite_h h).1 c9
      refine v_sub [] rfl ?_
      exact v_Mo_read_b14 C K h
theorem m_Mo_read {S : SE} (hI : Inj S) (M : Mem) (a1 : Int32) (a2 : Int32) (q : (Int32 × Mem)) (h : f_Mo_read M a1 a2 = some q) : CM S yX12_read cX12_read 4 (some .int) 3 [.ref (S.2.1 91), .int a1, .int a2] M (some (.int q.1)) q.2 :=
  CM.of [(0, .ref (S.2.1 91)), (1, .int a1), (2, .int a2)] hI (by decide) rfl (Nat.le_of_ble_eq_true rfl) (fun X C K => v_Mo_read C K  h)
def f_Mo_byteAt (M : Mem) (a1 : Int32) (a2 : Int32) : Option Int32 :=
  if gin a1 3 then
    if (M 92 a1.toNatClampNeg) ≤ a2 then
      some (-1)
    else
      if gin ((30 * a1) + a2) 90 then
        some (M 93 ((30 * a1) + a2).toNatClampNeg)
      else none
  else none
set_option maxRecDepth 20000 in
theorem v_Mo_byteAt {S : SE} {X : MX} {q : Int32} {M : Mem} {a1 : Int32} {a2 : Int32} (C : CX S X cX12_byteAt 3 RX12 0) (K : RT S X (some .int) (some (.int q)) M) (h : f_Mo_byteAt M a1 a2 = some q) : V S X 3 M 0 [(0, .ref (S.2.1 91)), (1, .int a1), (2, .int a2)] [] := by
  unfold f_Mo_byteAt at h
  refine v_iload_n C 2 dX12_byteAt_0 rfl ?_
  refine v_aload_n C 0 dX12_byteAt_1 rfl ?_
  refine g_Mo_typed C kk91 fl_X12_7 dX12_byteAt_2 ?_
  refine v_iload_n C 1 dX12_byteAt_5 rfl ?_
  obtain ⟨g1, h⟩ := gd_h h
  refine v_iald C kk92 ll92 g1 dX12_byteAt_6 ?_
  refine v_icmp_ge C 24 dX12_byteAt_7 (by decide) (fun c3 => ?_) (fun c3 => ?_)
  · replace h := (ite_h h).1 c3
    refine v_iconst C (-1) dX12_byteAt_24 rfl ?_
    obtain rfl := Option.some.inj h
    exact v_iret C K dX12_byteAt_25
  · replace h := (ite_h h).2 c3
    refine v_aload_n C 0 dX12_byteAt_10 rfl ?_
    refine g_Mo_texts C kk91 fl_X12_13 dX12_byteAt_11 ?_
    refine v_bipush C 30 dX12_byteAt_14 rfl ?_
    refine v_iload_n C 1 dX12_byteAt_16 rfl ?_
    refine v_imul C dX12_byteAt_17 ?_
    refine v_iload_n C 2 dX12_byteAt_18 rfl ?_
    refine v_iadd C dX12_byteAt_19 ?_
    obtain ⟨g2, h⟩ := gd_h h
    refine v_iald C kk93 ll93 g2 dX12_byteAt_20 ?_
    refine v_goto C 25 dX12_byteAt_21 (by decide) ?_
    obtain rfl := Option.some.inj h
    exact v_iret C K dX12_byteAt_25
theorem m_Mo_byteAt {S : SE} (hI : Inj S) (M : Mem) (a1 : Int32) (a2 : Int32) (q : Int32) (h : f_Mo_byteAt M a1 a2 = some q) : CM S yX12_byteAt cX12_byteAt 3 (some .int) 0 [.ref (S.2.1 91), .int a1, .int a2] M (some (.int q)) M :=
  CM.of [(0, .ref (S.2.1 91)), (1, .int a1), (2, .int a2)] hI (by decide) rfl (Nat.le_of_ble_eq_true rfl) (fun X C K => v_Mo_byteAt C K  h)
def f_Mo_valueAt (M : Mem) (a1 : Int32) (a2 : Int32) : Option Int32 :=
  (f_Mo_byteAt M a1 a2).bind fun q1 =>
  if q1 = 45 then
    some (-1)
  else
    if (f_Mo_in q1 48 57) = 0 then
      some (-2)
    else
      some (q1 - 48)
set_option maxRecDepth 20000 in
theorem v_Mo_valueAt {S : SE} {X : MX} {q : Int32} {M : Mem} {a1 : Int32} {a2 : Int32} (C : CX S X cX12_valueAt 4 RX12 1) (K : RT S X (some .int) (some (.int q)) M) (h : f_Mo_valueAt M a1 a2 = some q) : V S X 4 M 0 [(0, .ref (S.2.1 91)), (1, .int a1), (2, .int a2)] [] := by
  unfold f_Mo_valueAt at h
  refine v_aload_n C 0 dX12_valueAt_0 rfl ?_
  refine v_iload_n C 1 dX12_valueAt_1 rfl ?_
  refine v_iload_n C 2 dX12_valueAt_2 rfl ?_
  obtain ⟨q1, hq1, h⟩ := Option.bind_eq_some_iff.mp h
  refine cv12 C [] kk91 (m_Mo_byteAt C.inj M a1 a2 q1 hq1) ci_Mo_byteAt rfl lk_X12_139 (by decide) rfl rfl (Nat.le_of_ble_eq_true rfl) dX12_valueAt_3 ?_
  refine v_istore_n C [(3, .int q1), (0, .ref (S.2.1 91)), (1, .int a1), (2, .int a2)] dX12_valueAt_6 (by decide) rfl ?_
  refine v_iload_n C 0 dX12_valueAt_7 rfl ?_
  refine v_bipush C 45 dX12_valueAt_8 rfl ?_
  refine v_icmp_ne C 17 dX12_valueAt_10 (by decide) (fun c3 => ?_) (fun c3 => ?_)
  · replace h := (ite_h h).2 c3
    refine v_iload_n C 0 dX12_valueAt_17 rfl ?_
    refine v_bipush C 48 dX12_valueAt_18 rfl ?_
    refine v_bipush C 57 dX12_valueAt_20 rfl ?_
    refine cs C [] (m_Mo_in C.inj M q1 48 57 _ rfl) ci_Mo_in lk_X12_107 (by decide) rfl rfl (Nat.le_of_ble_eq_true rfl) dX12_valueAt_22 ?_
    refine v_if_eq C 35 dX12_valueAt_25 (by decide) (fun c2 => ?_) (fun c2 => ?_)
    · replace h := (ite_h h).1 c2
      refine v_bipush C (-2) dX12_valueAt_35 rfl ?_
      obtain rfl := Option.some.inj h
      exact v_iret C K dX12_valueAt_37
    · replace h := (ite_h h).2 c2
      refine v_iload_n C 0 dX12_valueAt_28 rfl ?_
      refine v_bipush C 48 dX12_valueAt_29 rfl ?_
      refine v_isub C dX12_valueAt_31 ?_
      refine v_goto C 37 dX12_valueAt_32 (by decide) ?_
      obtain rfl := Option.some.inj h
      exact v_iret C K dX12_valueAt_37
  · replace h := (ite_h h).1 c3
    refine v_iconst C (-1) dX12_valueAt_13 rfl ?_
    refine v_goto C 37 dX12_valueAt_14 (by decide) ?_
    obtain rfl := Option.some.inj h
    exact v_iret C K dX12_valueAt_37
theorem m_Mo_valueAt {S : SE} (hI : Inj S) (M : Mem) (a1 : Int32) (a2 : Int32) (q : Int32) (h : f_Mo_valueAt M a1 a2 = some q) : CM S yX12_valueAt cX12_valueAt 4 (some .int) 1 [.ref (S.2.1 91), .int a1, .int a2] M (some (.int q)) M :=
  CM.of [(0, .ref (S.2.1 91)), (1, .int a1), (2, .int a2)] hI (by decide) rfl (Nat.le_of_ble_eq_true rfl) (fun X C K => v_Mo_valueAt C K  h)
def f_Mo_readsTable_b56 (a3 : Int32) (M : Mem) : Option (Int32 × Mem) :=
  some (a3, M)
set_option maxRecDepth 20000 in
theorem v_Mo_readsTable_b56 {S : SE} {X : MX} {q : (Int32 × Mem)} {a3 : Int32} {M : Mem} (C : CX S X cX12_readsTable 6 RX12 2) (K : RT S X (some .int) (some (.int q.1)) q.2) (h : f_Mo_readsTable_b56 a3 M = some q) : V S X 6 M 56 [(3, .int a3)] [] := by
  unfold f_Mo_readsTable_b56 at h
  refine v_iload_n C 0 dX12_readsTable_56 rfl ?_
  obtain rfl := Option.some.inj h
  exact v_iret C K dX12_readsTable_57
def f_Mo_readsTable_b25 (k11 : Int32 → Int32 → Int32 → Mem → Option (Int32 × Mem)) (a1 : Int32) (a2 : Int32) (a3 : Int32) (M : Mem) : Option (Int32 × Mem) :=
  (f_Mo_valueAt M a1 a3).bind fun q4 =>
  (f_Mo_valueAt M a1 (a3 + 1)).bind fun q5 =>
  if a2 = 10 then
    f_Mo_readsTable_b56 a3 M
  else
    if q4 = (-2) then
      f_Mo_readsTable_b56 a3 M
    else
      if q5 = (-2) then
        some ((a3 + 1), M)
      else
        if gin ((10 * a1) + a2) 20 then
          bnd (mset M 96 ((10 * a1) + a2).toNatClampNeg q4) fun M7 =>
          if gin ((10 * a1) + a2) 20 then
            bnd (mset M7 97 ((10 * a1) + a2).toNatClampNeg q5) fun M9 =>
            if gin a1 3 then
              if (a3 + 2) = (M9 92 a1.toNatClampNeg) then
                if gin a1 2 then
                  bnd (mset M9 95 a1.toNatClampNeg (a2 + 1)) fun M14 =>
                  some ((-1), M14)
                else none
              else
                (f_Mo_byteAt M9 a1 (a3 + 2)).bind fun q11 =>
                if q11 = 59 then
                  k11 a1 (a2 + 1) ((a3 + 2) + 1) M9
                else
                  some ((a3 + 2), M9)
            else none
          else none
        else none
set_option maxRecDepth 20000 in
theorem v_Mo_readsTable_b25 {S : SE} {X : MX} {q : (Int32 × Mem)} {k11 : Int32 → Int32 → Int32 → Mem → Option (Int32 × Mem)} {a1 : Int32} {a2 : Int32} {a3 : Int32} {M : Mem} (C : CX S X cX12_readsTable 6 RX12 2) (K : RT S X (some .int) (some (.int q.1)) q.2) (hk11 : ∀ (a1 : Int32) (a2 : Int32) (a3 : Int32) (M : Mem), k11 a1 a2 a3 M = some q → V S X 6 M 11 [(0, .ref (S.2.1 91)), (1, .int a1), (2, .int a2), (3, .int a3)] []) (h : f_Mo_readsTable_b25 k11 a1 a2 a3 M = some q) : V S X 6 M 25 [(0, .ref (S.2.1 91)), (1, .int a1), (2, .int a2), (3, .int a3)] [] := by
  unfold f_Mo_readsTable_b25 at h
  refine v_aload_n C 0 dX12_readsTable_25 rfl ?_
  refine v_iload_n C 1 dX12_readsTable_26 rfl ?_
  refine v_iload_n C 3 dX12_readsTable_27 rfl ?_
  obtain ⟨q4, hq4, h⟩ := Option.bind_eq_some_iff.mp h
  refine cv12 C [] kk91 (m_Mo_valueAt C.inj M a1 a3 q4 hq4) ci_Mo_valueAt rfl lk_X12_142 (by decide) rfl rfl (Nat.le_of_ble_eq_true rfl) dX12_readsTable_28 ?_
  refine v_istore C [(4, .int q4), (0, .ref (S.2.1 91)), (1, .int a1), (2, .int a2), (3, .int a3)] dX12_readsTable_31 (by decide) rfl ?_
  refine v_aload_n C 1 dX12_readsTable_33 rfl ?_
  refine v_iload_n C 2 dX12_readsTable_34 rfl ?_
  refine v_iload_n C 4 dX12_readsTable_35 rfl ?_
  refine v_iconst C 1 dX12_readsTable_36 rfl ?_
  refine v_iadd C dX12_readsTable_37 ?_
  obtain ⟨q5, hq5, h⟩ := Option.bind_eq_some_iff.mp h
  refine cv12 C [] kk91 (m_Mo_valueAt C.inj M a1 (a3 + 1) q5 hq5) ci_Mo_valueAt rfl lk_X12_142 (by decide) rfl rfl (Nat.le_of_ble_eq_true rfl) dX12_readsTable_38 ?_
  refine v_istore C [(5, .int q5), (4, .int q4), (0, .ref (S.2.1 91)), (1, .int a1), (2, .int a2), (3, .int a3)] dX12_readsTable_41 (by decide) rfl ?_
  refine v_iload_n C 4 dX12_readsTable_43 rfl ?_
  refine v_bipush C 10 dX12_readsTable_44 rfl ?_
  refine v_icmp_eq C 56 dX12_readsTable_46 (by decide) (fun c18 => ?_) (fun c18 => ?_)
  · replace h := (ite_h h).1 c18
    refine v_sub [5] rfl ?_
    exact v_Mo_readsTable_b56 C K h
  · replace h := (ite_h h).2 c18
    refine v_iload C 1 dX12_readsTable_49 rfl ?_
    refine v_bipush C (-2) dX12_readsTable_51 rfl ?_
    refine v_icmp_ne C 58 dX12_readsTable_53 (by decide) (fun c17 => ?_) (fun c17 => ?_)
    · replace h := (ite_h h).2 c17
      refine v_iload C 0 dX12_readsTable_58 rfl ?_
      refine v_bipush C (-2) dX12_readsTable_60 rfl ?_
      refine v_icmp_ne C 69 dX12_readsTable_62 (by decide) (fun c16 => ?_) (fun c16 => ?_)
      · replace h := (ite_h h).2 c16
        refine v_aload_n C 2 dX12_readsTable_69 rfl ?_
        refine g_Mo_ks C kk91 fl_X12_22 dX12_readsTable_70 ?_
        refine v_bipush C 10 dX12_readsTable_73 rfl ?_
        refine v_iload_n C 3 dX12_readsTable_75 rfl ?_
        refine v_imul C dX12_readsTable_76 ?_
        refine v_iload_n C 4 dX12_readsTable_77 rfl ?_
        refine v_iadd C dX12_readsTable_78 ?_
        refine v_iload C 1 dX12_readsTable_79 rfl ?_
        obtain ⟨g6, h⟩ := gd_h h
        refine v_iast C kk96 ll96 g6 dX12_readsTable_81 ?_
        refine v_nmm h (fun M7 h => ?_)
        refine v_aload_n C 2 dX12_readsTable_82 rfl ?_
        refine g_Mo_vs C kk91 fl_X12_25 dX12_readsTable_83 ?_
        refine v_bipush C 10 dX12_readsTable_86 rfl ?_
        refine v_iload_n C 3 dX12_readsTable_88 rfl ?_
        refine v_imul C dX12_readsTable_89 ?_
        refine v_iload_n C 4 dX12_readsTable_90 rfl ?_
        refine v_iadd C dX12_readsTable_91 ?_
        refine v_iload C 0 dX12_readsTable_92 rfl ?_
        obtain ⟨g8, h⟩ := gd_h h
        refine v_iast C kk97 ll97 g8 dX12_readsTable_94 ?_
        refine v_nmm h (fun M9 h => ?_)
        refine v_iinc C [(2, .int (a2 + 1)), (5, .int q5), (4, .int q4), (0, .ref (S.2.1 91)), (1, .int a1), (3, .int a3)] 4 (a2 + 1) dX12_readsTable_95 rfl rfl (by decide) rfl ?_
        refine v_iinc C [(3, .int (a3 + 2)), (2, .int (a2 + 1)), (5, .int q5), (4, .int q4), (0, .ref (S.2.1 91)), (1, .int a1)] 5 (a3 + 2) dX12_readsTable_98 rfl rfl (by decide) rfl ?_
        refine v_iload_n C 0 dX12_readsTable_101 rfl ?_
        refine v_aload_n C 4 dX12_readsTable_102 rfl ?_
        refine g_Mo_typed C kk91 fl_X12_7 dX12_readsTable_103 ?_
        refine v_iload_n C 5 dX12_readsTable_106 rfl ?_
        obtain ⟨g10, h⟩ := gd_h h
        refine v_iald C kk92 ll92 g10 dX12_readsTable_107 ?_
        refine v_icmp_ne C 120 dX12_readsTable_108 (by decide) (fun c15 => ?_) (fun c15 => ?_)
        · replace h := (ite_h h).2 c15
          refine v_aload_n C 4 dX12_readsTable_120 rfl ?_
          refine v_iload_n C 5 dX12_readsTable_121 rfl ?_
          refine v_iload_n C 0 dX12_readsTable_122 rfl ?_
          obtain ⟨q11, hq11, h⟩ := Option.bind_eq_some_iff.mp h
          refine cv12 C [] kk91 (m_Mo_byteAt C.inj M9 a1 (a3 + 2) q11 hq11) ci_Mo_byteAt rfl lk_X12_139 (by decide) rfl rfl (Nat.le_of_ble_eq_true rfl) dX12_readsTable_123 ?_
          refine v_bipush C 59 dX12_readsTable_126 rfl ?_
          refine v_icmp_eq C 133 dX12_readsTable_128 (by decide) (fun c12 => ?_) (fun c12 => ?_)
          · replace h := (ite_h h).1 c12
            refine v_iinc C [(3, .int ((a3 + 2) + 1)), (2, .int (a2 + 1)), (5, .int q5), (4, .int q4), (0, .ref (S.2.1 91)), (1, .int a1)] 0 ((a3 + 2) + 1) dX12_readsTable_133 rfl rfl (by decide) rfl ?_
            refine v_goto C 11 dX12_readsTable_136 (by decide) ?_
            refine v_sub [4, 5, 1, 0] rfl ?_
            exact hk11 _ _ _ _ h
          · replace h := (ite_h h).2 c12
            refine v_iload_n C 0 dX12_readsTable_131 rfl ?_
            obtain rfl := Option.some.inj h
            exact v_iret C K dX12_readsTable_132
        · replace h := (ite_h h).1 c15
          refine v_aload_n C 4 dX12_readsTable_111 rfl ?_
          refine g_Mo_rows C kk91 fl_X12_19 dX12_readsTable_112 ?_
          refine v_iload_n C 5 dX12_readsTable_115 rfl ?_
          refine v_iload_n C 1 dX12_readsTable_116 rfl ?_
          obtain ⟨g13, h⟩ := gd_h h
          refine v_iast C kk95 ll95 g13 dX12_readsTable_117 ?_
          refine v_nmm h (fun M14 h => ?_)
          refine v_iconst C (-1) dX12_readsTable_118 rfl ?_
          obtain rfl := Option.some.inj h
          exact v_iret C K dX12_readsTable_119
      · replace h := (ite_h h).1 c16
        refine v_iload_n C 5 dX12_readsTable_65 rfl ?_
        refine v_iconst C 1 dX12_readsTable_66 rfl ?_
        refine v_iadd C dX12_readsTable_67 ?_
        obtain rfl := Option.some.inj h
        exact v_iret C K dX12_readsTable_68
    · replace h := (ite_h h).1 c17
      refine v_sub [5] rfl ?_
      exact v_Mo_readsTable_b56 C K h
def f_Mo_readsTable_l11B (k11 : Int32 → Int32 → Int32 → Mem → Option (Int32 × Mem)) (a1 : Int32) (a2 : Int32) (a3 : Int32) (M : Mem) : Option (Int32 × Mem) :=
  if gin a1 3 then
    if a3 < (M 92 a1.toNatClampNeg) then
      f_Mo_readsTable_b25 k11 a1 a2 a3 M
    else
      if a3 ≤ 0 then
        some ((-1), M)
      else
        f_Mo_readsTable_b25 k11 a1 a2 a3 M
  else none
set_option maxRecDepth 20000 in
theorem v_Mo_readsTable_l11B {S : SE} {X : MX} {q : (Int32 × Mem)} {k11 : Int32 → Int32 → Int32 → Mem → Option (Int32 × Mem)} {a1 : Int32} {a2 : Int32} {a3 : Int32} {M : Mem} (C : CX S X cX12_readsTable 6 RX12 2) (K : RT S X (some .int) (some (.int q.1)) q.2) (hk11 : ∀ (a1 : Int32) (a2 : Int32) (a3 : Int32) (M : Mem), k11 a1 a2 a3 M = some q → V S X 6 M 11 [(0, .ref (S.2.1 91)), (1, .int a1), (2, .int a2), (3, .int a3)] []) (h : f_Mo_readsTable_l11B k11 a1 a2 a3 M = some q) : V S X 6 M 11 [(0, .ref (S.2.1 91)), (1, .int a1), (2, .int a2), (3, .int a3)] [] := by
  unfold f_Mo_readsTable_l11B at h
  refine v_iload_n C 3 dX12_readsTable_11 rfl ?_
  refine v_aload_n C 0 dX12_readsTable_12 rfl ?_
  refine g_Mo_typed C kk91 fl_X12_7 dX12_readsTable_13 ?_
  refine v_iload_n C 1 dX12_readsTable_16 rfl ?_
  obtain ⟨g3, h⟩ := gd_h h
  refine v_iald C kk92 ll92 g3 dX12_readsTable_17 ?_
  refine v_icmp_lt C 25 dX12_readsTable_18 (by decide) (fun c20 => ?_) (fun c20 => ?_)
  · replace h := (ite_h h).1 c20
    exact v_Mo_readsTable_b25 C K hk11 h
  · replace h := (ite_h h).2 c20
    refine v_iload_n C 3 dX12_readsTable_21 rfl ?_
    refine v_if_le C 139 dX12_readsTable_22 (by decide) (fun c19 => ?_) (fun c19 => ?_)
    · replace h := (ite_h h).1 c19
      refine v_iconst C (-1) dX12_readsTable_139 rfl ?_
      obtain rfl := Option.some.inj h
      exact v_iret C K dX12_readsTable_140
    · replace h := (ite_h h).2 c19
      exact v_Mo_readsTable_b25 C K hk11 h
def f_Mo_readsTable_l11 : Nat → Int32 → Int32 → Int32 → Mem → Option (Int32 × Mem)
  | 0, _, _, _, _ => none
  | n + 1, a1, a2, a3, M => f_Mo_readsTable_l11B (f_Mo_readsTable_l11 n) a1 a2 a3 M
theorem v_Mo_readsTable_l11 {S : SE} {X : MX} {q : (Int32 × Mem)} (C : CX S X cX12_readsTable 6 RX12 2) (K : RT S X (some .int) (some (.int q.1)) q.2) : ∀ (n : Nat) (a1 : Int32) (a2 : Int32) (a3 : Int32) (M : Mem), f_Mo_readsTable_l11 n a1 a2 a3 M = some q → V S X 6 M 11 [(0, .ref (S.2.1 91)), (1, .int a1), (2, .int a2), (3, .int a3)] [] := by
  intro n
  induction n with
  | zero => intro a1 a2 a3 M h; cases h
  | succ n ih => intro a1 a2 a3 M h; exact v_Mo_readsTable_l11B C K ih h
def f_Mo_readsTable (M : Mem) (a1 : Int32) : Option (Int32 × Mem) :=
  if gin a1 2 then
    bnd (mset M 95 a1.toNatClampNeg 0) fun M2 =>
    f_Mo_readsTable_l11 FU a1 0 0 M2
  else none
set_option maxRecDepth 20000 in
theorem v_Mo_readsTable {S : SE} {X : MX} {q : (Int32 × Mem)} {M : Mem} {a1 : Int32} (C : CX S X cX12_readsTable 6 RX12 2) (K : RT S X (some .int) (some (.int q.1)) q.2) (h : f_Mo_readsTable M a1 = some q) : V S X 6 M 0 [(0, .ref (S.2.1 91)), (1, .int a1)] [] := by
  unfold f_Mo_readsTable at h
  refine v_aload_n C 0 dX12_readsTable_0 rfl ?_
  refine g_Mo_rows C kk91 fl_X12_19 dX12_readsTable_1 ?_
  refine v_iload_n C 1 dX12_readsTable_4 rfl ?_
  refine v_iconst C 0 dX12_readsTable_5 rfl ?_
  obtain ⟨g1, h⟩ := gd_h h
  refine v_iast C kk95 ll95 g1 dX12_readsTable_6 ?_
  refine v_nmm h (fun M2 h => ?_)
  refine v_iconst C 0 dX12_readsTable_7 rfl ?_
  refine v_istore_n C [(2, .int 0), (0, .ref (S.2.1 91)), (1, .int a1)] dX12_readsTable_8 (by decide) rfl ?_
  refine v_iconst C 0 dX12_readsTable_9 rfl ?_
  refine v_istore_n C [(3, .int 0), (2, .int 0), (0, .ref (S.2.1 91)), (1, .int a1)] dX12_readsTable_10 (by decide) rfl ?_
  refine v_sub [2, 3, 1, 0] rfl ?_
  exact v_Mo_readsTable_l11 C K FU _ _ _ _ h
theorem m_Mo_readsTable {S : SE} (hI : Inj S) (M : Mem) (a1 : Int32) (q : (Int32 × Mem)) (h : f_Mo_readsTable M a1 = some q) : CM S yX12_readsTable cX12_readsTable 6 (some .int) 2 [.ref (S.2.1 91), .int a1] M (some (.int q.1)) q.2 :=
  CM.of [(0, .ref (S.2.1 91)), (1, .int a1)] hI (by decide) rfl (Nat.le_of_ble_eq_true rfl) (fun X C K => v_Mo_readsTable C K  h)
def f_Mo_kindOf (a0 : Int32) : Int32 :=
  if a0 = 101 then
    1
  else
    if a0 = 108 then
      2
    else
      if a0 = 109 then
        3
      else
        if a0 = 117 then
          4
        else
          if a0 = 100 then
            5
          else
            if a0 = 103 then
              6
            else
              if a0 = 102 then
                7
              else
                (-1)
set_option maxRecDepth 20000 in
theorem v_Mo_kindOf {S : SE} {X : MX} {q : Int32} {M : Mem} {a0 : Int32} (C : CX S X cX12_kindOf 1 RX12 0) (K : RT S X (some .int) (some (.int q)) M) (h : f_Mo_kindOf a0 = q) : V S X 1 M 0 [(0, .int a0)] [] := by
  unfold f_Mo_kindOf at h
  refine v_iload_n C 0 dX12_kindOf_0 rfl ?_
  refine v_bipush C 101 dX12_kindOf_1 rfl ?_
  refine v_icmp_ne C 10 dX12_kindOf_3 (by decide) (fun c7 => ?_) (fun c7 => ?_)
  · replace h := (ite_h h).2 c7
    refine v_iload_n C 0 dX12_kindOf_10 rfl ?_
    refine v_bipush C 108 dX12_kindOf_11 rfl ?_
    refine v_icmp_ne C 20 dX12_kindOf_13 (by decide) (fun c6 => ?_) (fun c6 => ?_)
    · replace h := (ite_h h).2 c6
      refine v_iload_n C 0 dX12_kindOf_20 rfl ?_
      refine v_bipush C 109 dX12_kindOf_21 rfl ?_
      refine v_icmp_ne C 30 dX12_kindOf_23 (by decide) (fun c5 => ?_) (fun c5 => ?_)
      · replace h := (ite_h h).2 c5
        refine v_iload_n C 0 dX12_kindOf_30 rfl ?_
        refine v_bipush C 117 dX12_kindOf_31 rfl ?_
        refine v_icmp_ne C 40 dX12_kindOf_33 (by decide) (fun c4 => ?_) (fun c4 => ?_)
        · replace h := (ite_h h).2 c4
          refine v_iload_n C 0 dX12_kindOf_40 rfl ?_
          refine v_bipush C 100 dX12_kindOf_41 rfl ?_
          refine v_icmp_ne C 50 dX12_kindOf_43 (by decide) (fun c3 => ?_) (fun c3 => ?_)
          · replace h := (ite_h h).2 c3
            refine v_iload_n C 0 dX12_kindOf_50 rfl ?_
            refine v_bipush C 103 dX12_kindOf_51 rfl ?_
            refine v_icmp_ne C 61 dX12_kindOf_53 (by decide) (fun c2 => ?_) (fun c2 => ?_)
            · replace h := (ite_h h).2 c2
              refine v_iload_n C 0 dX12_kindOf_61 rfl ?_
              refine v_bipush C 102 dX12_kindOf_62 rfl ?_
              refine v_icmp_ne C 72 dX12_kindOf_64 (by decide) (fun c1 => ?_) (fun c1 => ?_)
              · replace h := (ite_h h).2 c1
                refine v_iconst C (-1) dX12_kindOf_72 rfl ?_
                subst h
                exact v_iret C K dX12_kindOf_73
              · replace h := (ite_h h).1 c1
                refine v_bipush C 7 dX12_kindOf_67 rfl ?_
                refine v_goto C 73 dX12_kindOf_69 (by decide) ?_
                subst h
                exact v_iret C K dX12_kindOf_73
            · replace h := (ite_h h).1 c2
              refine v_bipush C 6 dX12_kindOf_56 rfl ?_
              refine v_goto C 73 dX12_kindOf_58 (by decide) ?_
              subst h
              exact v_iret C K dX12_kindOf_73
          · replace h := (ite_h h).1 c3
            refine v_iconst C 5 dX12_kindOf_46 rfl ?_
            refine v_goto C 73 dX12_kindOf_47 (by decide) ?_
            subst h
            exact v_iret C K dX12_kindOf_73
        · replace h := (ite_h h).1 c4
          refine v_iconst C 4 dX12_kindOf_36 rfl ?_
          refine v_goto C 73 dX12_kindOf_37 (by decide) ?_
          subst h
          exact v_iret C K dX12_kindOf_73
      · replace h := (ite_h h).1 c5
        refine v_iconst C 3 dX12_kindOf_26 rfl ?_
        refine v_goto C 73 dX12_kindOf_27 (by decide) ?_
        subst h
        exact v_iret C K dX12_kindOf_73
    · replace h := (ite_h h).1 c6
      refine v_iconst C 2 dX12_kindOf_16 rfl ?_
      refine v_goto C 73 dX12_kindOf_17 (by decide) ?_
      subst h
      exact v_iret C K dX12_kindOf_73
  · replace h := (ite_h h).1 c7
    refine v_iconst C 1 dX12_kindOf_6 rfl ?_
    refine v_goto C 73 dX12_kindOf_7 (by decide) ?_
    subst h
    exact v_iret C K dX12_kindOf_73
theorem m_Mo_kindOf {S : SE} (hI : Inj S) (M : Mem) (a0 : Int32) (q : Int32) (h : f_Mo_kindOf a0 = q) : CM S yX12_kindOf cX12_kindOf 1 (some .int) 0 [.int a0] M (some (.int q)) M :=
  CM.of [(0, .int a0)] hI (by decide) rfl (Nat.le_of_ble_eq_true rfl) (fun X C K => v_Mo_kindOf C K  h)
def f_Mo_readsSteps_b82 (k9 : Int32 → Int32 → Mem → Option (Int32 × Mem)) (a1 : Int32) (a2 : Int32) (a3 : Int32) (a4 : Int32) (M : Mem) : Option (Int32 × Mem) :=
  if gin a1 12 then
    bnd (mset M 98 a1.toNatClampNeg a3) fun M6 =>
    if gin a1 12 then
      bnd (mset M6 99 a1.toNatClampNeg a4) fun M8 =>
      k9 (a1 + 1) a2 M8
    else none
  else none
set_option maxRecDepth 20000 in
theorem v_Mo_readsSteps_b82 {S : SE} {X : MX} {q : (Int32 × Mem)} {k9 : Int32 → Int32 → Mem → Option (Int32 × Mem)} {a1 : Int32} {a2 : Int32} {a3 : Int32} {a4 : Int32} {M : Mem} (C : CX S X cX12_readsSteps 5 RX12 1) (K : RT S X (some .int) (some (.int q.1)) q.2) (hk9 : ∀ (a1 : Int32) (a2 : Int32) (M : Mem), k9 a1 a2 M = some q → V S X 5 M 9 [(0, .ref (S.2.1 91)), (1, .int a1), (2, .int a2)] []) (h : f_Mo_readsSteps_b82 k9 a1 a2 a3 a4 M = some q) : V S X 5 M 82 [(0, .ref (S.2.1 91)), (1, .int a1), (2, .int a2), (3, .int a3), (4, .int a4)] [] := by
  unfold f_Mo_readsSteps_b82 at h
  refine v_aload_n C 0 dX12_readsSteps_82 rfl ?_
  refine g_Mo_kinds C kk91 fl_X12_28 dX12_readsSteps_83 ?_
  refine v_iload_n C 1 dX12_readsSteps_86 rfl ?_
  refine v_iload_n C 3 dX12_readsSteps_87 rfl ?_
  obtain ⟨g5, h⟩ := gd_h h
  refine v_iast C kk98 ll98 g5 dX12_readsSteps_88 ?_
  refine v_nmm h (fun M6 h => ?_)
  refine v_aload_n C 0 dX12_readsSteps_89 rfl ?_
  refine g_Mo_figures C kk91 fl_X12_31 dX12_readsSteps_90 ?_
  refine v_iload_n C 1 dX12_readsSteps_93 rfl ?_
  refine v_iload C 4 dX12_readsSteps_94 rfl ?_
  obtain ⟨g7, h⟩ := gd_h h
  refine v_iast C kk99 ll99 g7 dX12_readsSteps_96 ?_
  refine v_nmm h (fun M8 h => ?_)
  refine v_iinc C [(1, .int (a1 + 1)), (0, .ref (S.2.1 91)), (2, .int a2), (3, .int a3), (4, .int a4)] 1 (a1 + 1) dX12_readsSteps_97 rfl rfl (by decide) rfl ?_
  refine v_goto C 9 dX12_readsSteps_100 (by decide) ?_
  refine v_sub [1, 0, 2] rfl ?_
  exact hk9 _ _ _ h
def f_Mo_readsSteps_b58 (k9 : Int32 → Int32 → Mem → Option (Int32 × Mem)) (a1 : Int32) (a2 : Int32) (a3 : Int32) (s0 : Int32) (M : Mem) : Option (Int32 × Mem) :=
  if a3 = 7 then
    if (f_Mo_in s0 0 9) = 0 then
      some (a2, M)
    else
      f_Mo_readsSteps_b82 k9 a1 (a2 + 1) a3 s0 M
  else
    f_Mo_readsSteps_b82 k9 a1 a2 a3 s0 M
set_option maxRecDepth 20000 in
theorem v_Mo_readsSteps_b58 {S : SE} {X : MX} {q : (Int32 × Mem)} {k9 : Int32 → Int32 → Mem → Option (Int32 × Mem)} {a1 : Int32} {a2 : Int32} {a3 : Int32} {s0 : Int32} {M : Mem} (C : CX S X cX12_readsSteps 5 RX12 1) (K : RT S X (some .int) (some (.int q.1)) q.2) (hk9 : ∀ (a1 : Int32) (a2 : Int32) (M : Mem), k9 a1 a2 M = some q → V S X 5 M 9 [(0, .ref (S.2.1 91)), (1, .int a1), (2, .int a2)] []) (h : f_Mo_readsSteps_b58 k9 a1 a2 a3 s0 M = some q) : V S X 5 M 58 [(0, .ref (S.2.1 91)), (1, .int a1), (2, .int a2), (3, .int a3)] [.int s0] := by
  unfold f_Mo_readsSteps_b58 at h
  refine v_istore C [(4, .int s0), (0, .ref (S.2.1 91)), (1, .int a1), (2, .int a2), (3, .int a3)] dX12_readsSteps_58 (by decide) rfl ?_
  refine v_iload_n C 4 dX12_readsSteps_60 rfl ?_
  refine v_bipush C 7 dX12_readsSteps_61 rfl ?_
  refine v_icmp_ne C 82 dX12_readsSteps_63 (by decide) (fun c10 => ?_) (fun c10 => ?_)
  · replace h := (ite_h h).2 c10
    refine v_sub [1, 2, 3, 4, 0] rfl ?_
    exact v_Mo_readsSteps_b82 C K hk9 h
  · replace h := (ite_h h).1 c10
    refine v_iload C 0 dX12_readsSteps_66 rfl ?_
    refine v_iconst C 0 dX12_readsSteps_68 rfl ?_
    refine v_bipush C 9 dX12_readsSteps_69 rfl ?_
    refine cs C [] (m_Mo_in C.inj M s0 0 9 _ rfl) ci_Mo_in lk_X12_107 (by decide) rfl rfl (Nat.le_of_ble_eq_true rfl) dX12_readsSteps_71 ?_
    refine v_if_ne C 79 dX12_readsSteps_74 (by decide) (fun c9 => ?_) (fun c9 => ?_)
    · replace h := (ite_h h).2 c9
      refine v_iinc C [(2, .int (a2 + 1)), (4, .int s0), (0, .ref (S.2.1 91)), (1, .int a1), (3, .int a3)] 3 (a2 + 1) dX12_readsSteps_79 rfl rfl (by decide) rfl ?_
      refine v_sub [2, 3, 0, 4, 1] rfl ?_
      exact v_Mo_readsSteps_b82 C K hk9 h
    · replace h := (ite_h h).1 c9
      refine v_iload_n C 3 dX12_readsSteps_77 rfl ?_
      obtain rfl := Option.some.inj h
      exact v_iret C K dX12_readsSteps_78
def f_Mo_readsSteps_l9B (k9 : Int32 → Int32 → Mem → Option (Int32 × Mem)) (a1 : Int32) (a2 : Int32) (M : Mem) : Option (Int32 × Mem) :=
  if (M 92 (2 : Int32).toNatClampNeg) ≤ a2 then
    bnd (mset M 91 6 a1) fun M2 =>
    some ((-1), M2)
  else
    (f_Mo_byteAt M 2 a2).bind fun q3 =>
    bnd (f_Mo_kindOf q3) fun x4 =>
    if x4 = (-1) then
      some (a2, M)
    else
      if x4 = 7 then
        (f_Mo_byteAt M 2 (a2 + 1)).bind fun q11 =>
        f_Mo_readsSteps_b58 k9 a1 (a2 + 1) x4 (q11 - 48) M
      else
        f_Mo_readsSteps_b58 k9 a1 (a2 + 1) x4 (-1) M
set_option maxRecDepth 20000 in
theorem v_Mo_readsSteps_l9B {S : SE} {X : MX} {q : (Int32 × Mem)} {k9 : Int32 → Int32 → Mem → Option (Int32 × Mem)} {a1 : Int32} {a2 : Int32} {M : Mem} (C : CX S X cX12_readsSteps 5 RX12 1) (K : RT S X (some .int) (some (.int q.1)) q.2) (hk9 : ∀ (a1 : Int32) (a2 : Int32) (M : Mem), k9 a1 a2 M = some q → V S X 5 M 9 [(0, .ref (S.2.1 91)), (1, .int a1), (2, .int a2)] []) (h : f_Mo_readsSteps_l9B k9 a1 a2 M = some q) : V S X 5 M 9 [(0, .ref (S.2.1 91)), (1, .int a1), (2, .int a2)] [] := by
  unfold f_Mo_readsSteps_l9B at h
  refine v_iload_n C 2 dX12_readsSteps_9 rfl ?_
  refine v_aload_n C 0 dX12_readsSteps_10 rfl ?_
  refine g_Mo_typed C kk91 fl_X12_7 dX12_readsSteps_11 ?_
  refine v_iconst C 2 dX12_readsSteps_14 rfl ?_
  refine v_iald C kk92 ll92 (by decide) dX12_readsSteps_15 ?_
  refine v_icmp_ge C 103 dX12_readsSteps_16 (by decide) (fun c14 => ?_) (fun c14 => ?_)
  · replace h := (ite_h h).1 c14
    refine v_aload_n C 0 dX12_readsSteps_103 rfl ?_
    refine v_iload_n C 1 dX12_readsSteps_104 rfl ?_
    refine p_Mo_stepsTold C kk91 fl_X12_145 dX12_readsSteps_105 ?_
    refine v_nmm h (fun M2 h => ?_)
    refine v_iconst C (-1) dX12_readsSteps_108 rfl ?_
    obtain rfl := Option.some.inj h
    exact v_iret C K dX12_readsSteps_109
  · replace h := (ite_h h).2 c14
    refine v_aload_n C 0 dX12_readsSteps_19 rfl ?_
    refine v_iconst C 2 dX12_readsSteps_20 rfl ?_
    refine v_iload_n C 2 dX12_readsSteps_21 rfl ?_
    obtain ⟨q3, hq3, h⟩ := Option.bind_eq_some_iff.mp h
    refine cv12 C [] kk91 (m_Mo_byteAt C.inj M 2 a2 q3 hq3) ci_Mo_byteAt rfl lk_X12_139 (by decide) rfl rfl (Nat.le_of_ble_eq_true rfl) dX12_readsSteps_22 ?_
    refine cs C [] (m_Mo_kindOf C.inj M q3 _ rfl) ci_Mo_kindOf lk_X12_149 (by decide) rfl rfl (Nat.le_of_ble_eq_true rfl) dX12_readsSteps_25 ?_
    refine v_nmi h (fun x4 h => ?_)
    refine v_istore_n C [(3, .int x4), (0, .ref (S.2.1 91)), (1, .int a1), (2, .int a2)] dX12_readsSteps_28 (by decide) rfl ?_
    refine v_iload_n C 0 dX12_readsSteps_29 rfl ?_
    refine v_iconst C (-1) dX12_readsSteps_30 rfl ?_
    refine v_icmp_ne C 36 dX12_readsSteps_31 (by decide) (fun c13 => ?_) (fun c13 => ?_)
    · replace h := (ite_h h).2 c13
      refine v_iinc C [(2, .int (a2 + 1)), (3, .int x4), (0, .ref (S.2.1 91)), (1, .int a1)] 3 (a2 + 1) dX12_readsSteps_36 rfl rfl (by decide) rfl ?_
      refine v_iload_n C 1 dX12_readsSteps_39 rfl ?_
      refine v_bipush C 7 dX12_readsSteps_40 rfl ?_
      refine v_icmp_ne C 57 dX12_readsSteps_42 (by decide) (fun c12 => ?_) (fun c12 => ?_)
      · replace h := (ite_h h).2 c12
        refine v_iconst C (-1) dX12_readsSteps_57 rfl ?_
        refine v_sub [2, 3, 0, 1] rfl ?_
        exact v_Mo_readsSteps_b58 C K hk9 h
      · replace h := (ite_h h).1 c12
        refine v_aload_n C 2 dX12_readsSteps_45 rfl ?_
        refine v_iconst C 2 dX12_readsSteps_46 rfl ?_
        refine v_iload_n C 0 dX12_readsSteps_47 rfl ?_
        obtain ⟨q11, hq11, h⟩ := Option.bind_eq_some_iff.mp h
        refine cv12 C [] kk91 (m_Mo_byteAt C.inj M 2 (a2 + 1) q11 hq11) ci_Mo_byteAt rfl lk_X12_139 (by decide) rfl rfl (Nat.le_of_ble_eq_true rfl) dX12_readsSteps_48 ?_
        refine v_bipush C 48 dX12_readsSteps_51 rfl ?_
        refine v_isub C dX12_readsSteps_53 ?_
        refine v_goto C 58 dX12_readsSteps_54 (by decide) ?_
        refine v_sub [2, 3, 0, 1] rfl ?_
        exact v_Mo_readsSteps_b58 C K hk9 h
    · replace h := (ite_h h).1 c13
      refine v_iload_n C 3 dX12_readsSteps_34 rfl ?_
      obtain rfl := Option.some.inj h
      exact v_iret C K dX12_readsSteps_35
def f_Mo_readsSteps_l9 : Nat → Int32 → Int32 → Mem → Option (Int32 × Mem)
  | 0, _, _, _ => none
  | n + 1, a1, a2, M => f_Mo_readsSteps_l9B (f_Mo_readsSteps_l9 n) a1 a2 M
theorem v_Mo_readsSteps_l9 {S : SE} {X : MX} {q : (Int32 × Mem)} (C : CX S X cX12_readsSteps 5 RX12 1) (K : RT S X (some .int) (some (.int q.1)) q.2) : ∀ (n : Nat) (a1 : Int32) (a2 : Int32) (M : Mem), f_Mo_readsSteps_l9 n a1 a2 M = some q → V S X 5 M 9 [(0, .ref (S.2.1 91)), (1, .int a1), (2, .int a2)] [] := by
  intro n
  induction n with
  | zero => intro a1 a2 M h; cases h
  | succ n ih => intro a1 a2 M h; exact v_Mo_readsSteps_l9B C K ih h
def f_Mo_readsSteps (M : Mem) : Option (Int32 × Mem) :=
  bnd (mset M 91 6 0) fun M1 =>
  f_Mo_readsSteps_l9 FU 0 0 M1
set_option maxRecDepth 20000 in
theorem v_Mo_readsSteps {S : SE} {X : MX} {q : (Int32 × Mem)} {M : Mem} (C : CX S X cX12_readsSteps 5 RX12 1) (K : RT S X (some .int) (some (.int q.1)) q.2) (h : f_Mo_readsSteps M = some q) : V S X 5 M 0 [(0, .ref (S.2.1 91))] [] := by
  unfold f_Mo_readsSteps at h
  refine v_aload_n C 0 dX12_readsSteps_0 rfl ?_
  refine v_iconst C 0 dX12_readsSteps_1 rfl ?_
  refine p_Mo_stepsTold C kk91 fl_X12_145 dX12_readsSteps_2 ?_
  refine v_nmm h (fun M1 h => ?_)
  refine v_iconst C 0 dX12_readsSteps_5 rfl ?_
  refine v_istore_n C [(1, .int 0), (0, .ref (S.2.1 91))] dX12_readsSteps_6 (by decide) rfl ?_
  refine v_iconst C 0 dX12_readsSteps_7 rfl ?_
  refine v_istore_n C [(2, .int 0), (1, .int 0), (0, .ref (S.2.1 91))] dX12_readsSteps_8 (by decide) rfl ?_
  refine v_sub [2, 1, 0] rfl ?_
  exact v_Mo_readsSteps_l9 C K FU _ _ _ h
theorem m_Mo_readsSteps {S : SE} (hI : Inj S) (M : Mem) (q : (Int32 × Mem)) (h : f_Mo_readsSteps M = some q) : CM S yX12_readsSteps cX12_readsSteps 5 (some .int) 1 [.ref (S.2.1 91)] M (some (.int q.1)) q.2 :=
  CM.of [(0, .ref (S.2.1 91))] hI (by decide) rfl (Nat.le_of_ble_eq_true rfl) (fun X C K => v_Mo_readsSteps C K  h)
def f_Mo_reads (M : Mem) : Option Mem :=
  (f_Mo_readsTable M 0).bind fun q1 =>
  bnd (mset q1.2 94 (0 : Int32).toNatClampNeg q1.1) fun M2 =>
  (f_Mo_readsTable M2 1).bind fun q3 =>
  bnd (mset q3.2 94 (1 : Int32).toNatClampNeg q3.1) fun M4 =>
  (f_Mo_readsSteps M4).bind fun q5 =>
  bnd (mset q5.2 94 (2 : Int32).toNatClampNeg q5.1) fun M6 =>
  some M6
set_option maxRecDepth 20000 in
theorem v_Mo_reads {S : SE} {X : MX} {q : Mem} {M : Mem} (C : CX S X cX12_reads 1 RX12 3) (K : RT S X none none q) (h : f_Mo_reads M = some q) : V S X 1 M 0 [(0, .ref (S.2.1 91))] [] := by
  unfold f_Mo_reads at h
  refine v_aload_n C 0 dX12_reads_0 rfl ?_
  refine g_Mo_faults C kk91 fl_X12_16 dX12_reads_1 ?_
  refine v_iconst C 0 dX12_reads_4 rfl ?_
  refine v_aload_n C 0 dX12_reads_5 rfl ?_
  refine v_iconst C 0 dX12_reads_6 rfl ?_
  obtain ⟨q1, hq1, h⟩ := Option.bind_eq_some_iff.mp h
  refine cv12 C [.int 0, .ref (S.2.1 94)] kk91 (m_Mo_readsTable C.inj M 0 q1 hq1) ci_Mo_readsTable rfl lk_X12_152 (by decide) rfl rfl (Nat.le_of_ble_eq_true rfl) dX12_reads_7 ?_
  refine v_iast C kk94 ll94 (by decide) dX12_reads_10 ?_
  refine v_nmm h (fun M2 h => ?_)
  refine v_aload_n C 0 dX12_reads_11 rfl ?_
  refine g_Mo_faults C kk91 fl_X12_16 dX12_reads_12 ?_
  refine v_iconst C 1 dX12_reads_15 rfl ?_
  refine v_aload_n C 0 dX12_reads_16 rfl ?_
  refine v_iconst C 1 dX12_reads_17 rfl ?_
  obtain ⟨q3, hq3, h⟩ := Option.bind_eq_some_iff.mp h
  refine cv12 C [.int 1, .ref (S.2.1 94)] kk91 (m_Mo_readsTable C.inj M2 1 q3 hq3) ci_Mo_readsTable rfl lk_X12_152 (by decide) rfl rfl (Nat.le_of_ble_eq_true rfl) dX12_reads_18 ?_
  refine v_iast C kk94 ll94 (by decide) dX12_reads_21 ?_
  refine v_nmm h (fun M4 h => ?_)
  refine v_aload_n C 0 dX12_reads_22 rfl ?_
  refine g_Mo_faults C kk91 fl_X12_16 dX12_reads_23 ?_
  refine v_iconst C 2 dX12_reads_26 rfl ?_
  refine v_aload_n C 0 dX12_reads_27 rfl ?_
  obtain ⟨q5, hq5, h⟩ := Option.bind_eq_some_iff.mp h
  refine cv12 C [.int 2, .ref (S.2.1 94)] kk91 (m_Mo_readsSteps C.inj M4 q5 hq5) ci_Mo_readsSteps rfl lk_X12_155 (by decide) rfl rfl (Nat.le_of_ble_eq_true rfl) dX12_reads_28 ?_
  refine v_iast C kk94 ll94 (by decide) dX12_reads_31 ?_
  refine v_nmm h (fun M6 h => ?_)
  obtain rfl := Option.some.inj h
  exact v_vret C K dX12_reads_32
theorem m_Mo_reads {S : SE} (hI : Inj S) (M : Mem) (q : Mem) (h : f_Mo_reads M = some q) : CM S yX12_reads cX12_reads 1 none 3 [.ref (S.2.1 91)] M none q :=
  CM.of [(0, .ref (S.2.1 91))] hI (by decide) rfl (Nat.le_of_ble_eq_true rfl) (fun X C K => v_Mo_reads C K  h)
def f_Mo_faultOf (M : Mem) (a1 : Int32) : Option (Int32 × Mem) :=
  (f_Mo_reads M).bind fun q1 =>
  if gin a1 3 then
    some ((q1 94 a1.toNatClampNeg), q1)
  else none
set_option maxRecDepth 20000 in
theorem v_Mo_faultOf {S : SE} {X : MX} {q : (Int32 × Mem)} {M : Mem} {a1 : Int32} (C : CX S X cX12_faultOf 2 RX12 4) (K : RT S X (some .int) (some (.int q.1)) q.2) (h : f_Mo_faultOf M a1 = some q) : V S X 2 M 0 [(0, .ref (S.2.1 91)), (1, .int a1)] [] := by
  unfold f_Mo_faultOf at h
  refine v_aload_n C 0 dX12_faultOf_0 rfl ?_
  obtain ⟨q1, hq1, h⟩ := Option.bind_eq_some_iff.mp h
  refine cv12v C [] kk91 (m_Mo_reads C.inj M q1 hq1) ci_Mo_reads rfl lk_X12_159 (by decide) rfl rfl (Nat.le_of_ble_eq_true rfl) dX12_faultOf_1 ?_
  refine v_aload_n C 0 dX12_faultOf_4 rfl ?_
  refine g_Mo_faults C kk91 fl_X12_16 dX12_faultOf_5 ?_
  refine v_iload_n C 1 dX12_faultOf_8 rfl ?_
  obtain ⟨g2, h⟩ := gd_h h
  refine v_iald C kk94 ll94 g2 dX12_faultOf_9 ?_
  obtain rfl := Option.some.inj h
  exact v_iret C K dX12_faultOf_10
theorem m_Mo_faultOf {S : SE} (hI : Inj S) (M : Mem) (a1 : Int32) (q : (Int32 × Mem)) (h : f_Mo_faultOf M a1 = some q) : CM S yX12_faultOf cX12_faultOf 2 (some .int) 4 [.ref (S.2.1 91), .int a1] M (some (.int q.1)) q.2 :=
  CM.of [(0, .ref (S.2.1 91)), (1, .int a1)] hI (by decide) rfl (Nat.le_of_ble_eq_true rfl) (fun X C K => v_Mo_faultOf C K  h)
def f_Mo_fault (M : Mem) (a1 : Int32) : Option (Int32 × Mem) :=
  if (f_Mo_isText a1) = 0 then
    some ((-2), M)
  else
    (f_Mo_faultOf M a1).bind fun q1 =>
    some (q1.1, q1.2)
set_option maxRecDepth 20000 in
theorem v_Mo_fault {S : SE} {X : MX} {q : (Int32 × Mem)} {M : Mem} {a1 : Int32} (C : CX S X cX12_fault 2 RX12 5) (K : RT S X (some .int) (some (.int q.1)) q.2) (h : f_Mo_fault M a1 = some q) : V S X 2 M 0 [(0, .ref (S.2.1 91)), (1, .int a1)] [] := by
  unfold f_Mo_fault at h
  refine v_iload_n C 1 dX12_fault_0 rfl ?_
  refine cs C [] (m_Mo_isText C.inj M a1 _ rfl) ci_Mo_isText lk_X12_121 (by decide) rfl rfl (Nat.le_of_ble_eq_true rfl) dX12_fault_1 ?_
  refine v_if_eq C 15 dX12_fault_4 (by decide) (fun c2 => ?_) (fun c2 => ?_)
  · replace h := (ite_h h).1 c2
    refine v_bipush C (-2) dX12_fault_15 rfl ?_
    obtain rfl := Option.some.inj h
    exact v_iret C K dX12_fault_17
  · replace h := (ite_h h).2 c2
    refine v_aload_n C 0 dX12_fault_7 rfl ?_
    refine v_iload_n C 1 dX12_fault_8 rfl ?_
    obtain ⟨q1, hq1, h⟩ := Option.bind_eq_some_iff.mp h
    refine cv12 C [] kk91 (m_Mo_faultOf C.inj M a1 q1 hq1) ci_Mo_faultOf rfl lk_X12_162 (by decide) rfl rfl (Nat.le_of_ble_eq_true rfl) dX12_fault_9 ?_
    refine v_goto C 17 dX12_fault_12 (by decide) ?_
    obtain rfl := Option.some.inj h
    exact v_iret C K dX12_fault_17
theorem m_Mo_fault {S : SE} (hI : Inj S) (M : Mem) (a1 : Int32) (q : (Int32 × Mem)) (h : f_Mo_fault M a1 = some q) : CM S yX12_fault cX12_fault 2 (some .int) 5 [.ref (S.2.1 91), .int a1] M (some (.int q.1)) q.2 :=
  CM.of [(0, .ref (S.2.1 91)), (1, .int a1)] hI (by decide) rfl (Nat.le_of_ble_eq_true rfl) (fun X C K => v_Mo_fault C K  h)
def f_Mo_rowOf (M : Mem) (a1 : Int32) (a2 : Int32) (a3 : Int32) : Option (Int32 × Mem) :=
  (f_Mo_reads M).bind fun q1 =>
  if gin a1 2 then
    if a2 < (q1 95 a1.toNatClampNeg) then
      if a3 = 0 then
        if gin ((10 * a1) + a2) 20 then
          some ((q1 96 ((10 * a1) + a2).toNatClampNeg), q1)
        else none
      else
        if gin ((10 * a1) + a2) 20 then
          some ((q1 97 ((10 * a1) + a2).toNatClampNeg), q1)
        else none
    else
      some ((-2), q1)
  else none
set_option maxRecDepth 20000 in
theorem v_Mo_rowOf {S : SE} {X : MX} {q : (Int32 × Mem)} {M : Mem} {a1 : Int32} {a2 : Int32} {a3 : Int32} (C : CX S X cX12_rowOf 4 RX12 4) (K : RT S X (some .int) (some (.int q.1)) q.2) (h : f_Mo_rowOf M a1 a2 a3 = some q) : V S X 4 M 0 [(0, .ref (S.2.1 91)), (1, .int a1), (2, .int a2), (3, .int a3)] [] := by
  unfold f_Mo_rowOf at h
  refine v_aload_n C 0 dX12_rowOf_0 rfl ?_
  obtain ⟨q1, hq1, h⟩ := Option.bind_eq_some_iff.mp h
  refine cv12v C [] kk91 (m_Mo_reads C.inj M q1 hq1) ci_Mo_reads rfl lk_X12_159 (by decide) rfl rfl (Nat.le_of_ble_eq_true rfl) dX12_rowOf_1 ?_
  refine v_iload_n C 2 dX12_rowOf_4 rfl ?_
  refine v_aload_n C 0 dX12_rowOf_5 rfl ?_
  refine g_Mo_rows C kk91 fl_X12_19 dX12_rowOf_6 ?_
  refine v_iload_n C 1 dX12_rowOf_9 rfl ?_
  obtain ⟨g2, h⟩ := gd_h h
  refine v_iald C kk95 ll95 g2 dX12_rowOf_10 ?_
  refine v_icmp_lt C 19 dX12_rowOf_11 (by decide) (fun c6 => ?_) (fun c6 => ?_)
  · replace h := (ite_h h).1 c6
    refine v_iload_n C 3 dX12_rowOf_19 rfl ?_
    refine v_if_ne C 37 dX12_rowOf_20 (by decide) (fun c5 => ?_) (fun c5 => ?_)
    · replace h := (ite_h h).2 c5
      refine v_aload_n C 0 dX12_rowOf_37 rfl ?_
      refine g_Mo_vs C kk91 fl_X12_25 dX12_rowOf_38 ?_
      refine v_bipush C 10 dX12_rowOf_41 rfl ?_
      refine v_iload_n C 1 dX12_rowOf_43 rfl ?_
      refine v_imul C dX12_rowOf_44 ?_
      refine v_iload_n C 2 dX12_rowOf_45 rfl ?_
      refine v_iadd C dX12_rowOf_46 ?_
      obtain ⟨g3, h⟩ := gd_h h
      refine v_iald C kk97 ll97 g3 dX12_rowOf_47 ?_
      obtain rfl := Option.some.inj h
      exact v_iret C K dX12_rowOf_48
    · replace h := (ite_h h).1 c5
      refine v_aload_n C 0 dX12_rowOf_23 rfl ?_
      refine g_Mo_ks C kk91 fl_X12_22 dX12_rowOf_24 ?_
      refine v_bipush C 10 dX12_rowOf_27 rfl ?_
      refine v_iload_n C 1 dX12_rowOf_29 rfl ?_
      refine v_imul C dX12_rowOf_30 ?_
      refine v_iload_n C 2 dX12_rowOf_31 rfl ?_
      refine v_iadd C dX12_rowOf_32 ?_
      obtain ⟨g4, h⟩ := gd_h h
      refine v_iald C kk96 ll96 g4 dX12_rowOf_33 ?_
      refine v_goto C 48 dX12_rowOf_34 (by decide) ?_
      obtain rfl := Option.some.inj h
      exact v_iret C K dX12_rowOf_48
  · replace h := (ite_h h).2 c6
    refine v_bipush C (-2) dX12_rowOf_14 rfl ?_
    refine v_goto C 48 dX12_rowOf_16 (by decide) ?_
    obtain rfl := Option.some.inj h
    exact v_iret C K dX12_rowOf_48
theorem m_Mo_rowOf {S : SE} (hI : Inj S) (M : Mem) (a1 : Int32) (a2 : Int32) (a3 : Int32) (q : (Int32 × Mem)) (h : f_Mo_rowOf M a1 a2 a3 = some q) : CM S yX12_rowOf cX12_rowOf 4 (some .int) 4 [.ref (S.2.1 91), .int a1, .int a2, .int a3] M (some (.int q.1)) q.2 :=
  CM.of [(0, .ref (S.2.1 91)), (1, .int a1), (2, .int a2), (3, .int a3)] hI (by decide) rfl (Nat.le_of_ble_eq_true rfl) (fun X C K => v_Mo_rowOf C K  h)
def f_Mo_row_b34 (M : Mem) : Option (Int32 × Mem) :=
  some ((-2), M)
set_option maxRecDepth 20000 in
theorem v_Mo_row_b34 {S : SE} {X : MX} {q : (Int32 × Mem)} {M : Mem} (C : CX S X cX12_row 4 RX12 5) (K : RT S X (some .int) (some (.int q.1)) q.2) (h : f_Mo_row_b34 M = some q) : V S X 4 M 34 [] [] := by
  unfold f_Mo_row_b34 at h
  refine v_bipush C (-2) dX12_row_34 rfl ?_
  obtain rfl := Option.some.inj h
  exact v_iret C K dX12_row_36
def f_Mo_row (M : Mem) (a1 : Int32) (a2 : Int32) (a3 : Int32) : Option (Int32 × Mem) :=
  if (f_Mo_isTwo a1) = 0 then
    f_Mo_row_b34 M
  else
    if (f_Mo_in a2 0 9) = 0 then
      f_Mo_row_b34 M
    else
      if (f_Mo_isTwo a3) = 0 then
        f_Mo_row_b34 M
      else
        (f_Mo_rowOf M a1 a2 a3).bind fun q1 =>
        some (q1.1, q1.2)
set_option maxRecDepth 20000 in
theorem v_Mo_row {S : SE} {X : MX} {q : (Int32 × Mem)} {M : Mem} {a1 : Int32} {a2 : Int32} {a3 : Int32} (C : CX S X cX12_row 4 RX12 5) (K : RT S X (some .int) (some (.int q.1)) q.2) (h : f_Mo_row M a1 a2 a3 = some q) : V S X 4 M 0 [(0, .ref (S.2.1 91)), (1, .int a1), (2, .int a2), (3, .int a3)] [] := by
  unfold f_Mo_row at h
  refine v_iload_n C 1 dX12_row_0 rfl ?_
  refine cs C [] (m_Mo_isTwo C.inj M a1 _ rfl) ci_Mo_isTwo lk_X12_165 (by decide) rfl rfl (Nat.le_of_ble_eq_true rfl) dX12_row_1 ?_
  refine v_if_eq C 34 dX12_row_4 (by decide) (fun c4 => ?_) (fun c4 => ?_)
  · replace h := (ite_h h).1 c4
    refine v_sub [] rfl ?_
    exact v_Mo_row_b34 C K h
  · replace h := (ite_h h).2 c4
    refine v_iload_n C 2 dX12_row_7 rfl ?_
    refine v_iconst C 0 dX12_row_8 rfl ?_
    refine v_bipush C 9 dX12_row_9 rfl ?_
    refine cs C [] (m_Mo_in C.inj M a2 0 9 _ rfl) ci_Mo_in lk_X12_107 (by decide) rfl rfl (Nat.le_of_ble_eq_true rfl) dX12_row_11 ?_
    refine v_if_eq C 34 dX12_row_14 (by decide) (fun c3 => ?_) (fun c3 => ?_)
    · replace h := (ite_h h).1 c3
      refine v_sub [] rfl ?_
      exact v_Mo_row_b34 C K h
    · replace h := (ite_h h).2 c3
      refine v_iload_n C 3 dX12_row_17 rfl ?_
      refine cs C [] (m_Mo_isTwo C.inj M a3 _ rfl) ci_Mo_isTwo lk_X12_165 (by decide) rfl rfl (Nat.le_of_ble_eq_true rfl) dX12_row_18 ?_
      refine v_if_eq C 34 dX12_row_21 (by decide) (fun c2 => ?_) (fun c2 => ?_)
      · replace h := (ite_h h).1 c2
        refine v_sub [] rfl ?_
        exact v_Mo_row_b34 C K h
      · replace h := (ite_h h).2 c2
        refine v_aload_n C 0 dX12_row_24 rfl ?_
        refine v_iload_n C 1 dX12_row_25 rfl ?_
        refine v_iload_n C 2 dX12_row_26 rfl ?_
        refine v_iload_n C 3 dX12_row_27 rfl ?_
        obtain ⟨q1, hq1, h⟩ := Option.bind_eq_some_iff.mp h
        refine cv12 C [] kk91 (m_Mo_rowOf C.inj M a1 a2 a3 q1 hq1) ci_Mo_rowOf rfl lk_X12_168 (by decide) rfl rfl (Nat.le_of_ble_eq_true rfl) dX12_row_28 ?_
        refine v_goto C 36 dX12_row_31 (by decide) ?_
        obtain rfl := Option.some.inj h
        exact v_iret C K dX12_row_36
theorem m_Mo_row {S : SE} (hI : Inj S) (M : Mem) (a1 : Int32) (a2 : Int32) (a3 : Int32) (q : (Int32 × Mem)) (h : f_Mo_row M a1 a2 a3 = some q) : CM S yX12_row cX12_row 4 (some .int) 5 [.ref (S.2.1 91), .int a1, .int a2, .int a3] M (some (.int q.1)) q.2 :=
  CM.of [(0, .ref (S.2.1 91)), (1, .int a1), (2, .int a2), (3, .int a3)] hI (by decide) rfl (Nat.le_of_ble_eq_true rfl) (fun X C K => v_Mo_row C K  h)
def f_Mo_stepOf (M : Mem) (a1 : Int32) (a2 : Int32) : Option (Int32 × Mem) :=
  (f_Mo_reads M).bind fun q1 =>
  if a1 < (q1 91 6) then
    if a2 = 0 then
      if gin a1 12 then
        some ((q1 98 a1.toNatClampNeg), q1)
      else none
    else
      if gin a1 12 then
        some ((q1 99 a1.toNatClampNeg), q1)
      else none
  else
    some ((-2), q1)
set_option maxRecDepth 20000 in
theorem v_Mo_stepOf {S : SE} {X : MX} {q : (Int32 × Mem)} {M : Mem} {a1 : Int32} {a2 : Int32} (C : CX S X cX12_stepOf 3 RX12 4) (K : RT S X (some .int) (some (.int q.1)) q.2) (h : f_Mo_stepOf M a1 a2 = some q) : V S X 3 M 0 [(0, .ref (S.2.1 91)), (1, .int a1), (2, .int a2)] [] := by
  unfold f_Mo_stepOf at h
  refine v_aload_n C 0 dX12_stepOf_0 rfl ?_
  obtain ⟨q1, hq1, h⟩ := Option.bind_eq_some_iff.mp h
  refine cv12v C [] kk91 (m_Mo_reads C.inj M q1 hq1) ci_Mo_reads rfl lk_X12_159 (by decide) rfl rfl (Nat.le_of_ble_eq_true rfl) dX12_stepOf_1 ?_
  refine v_iload_n C 1 dX12_stepOf_4 rfl ?_
  refine v_aload_n C 0 dX12_stepOf_5 rfl ?_
  refine g_Mo_stepsTold C kk91 fl_X12_145 dX12_stepOf_6 ?_
  refine v_icmp_lt C 17 dX12_stepOf_9 (by decide) (fun c5 => ?_) (fun c5 => ?_)
  · replace h := (ite_h h).1 c5
    refine v_iload_n C 2 dX12_stepOf_17 rfl ?_
    refine v_if_ne C 30 dX12_stepOf_18 (by decide) (fun c4 => ?_) (fun c4 => ?_)
    · replace h := (ite_h h).2 c4
      refine v_aload_n C 0 dX12_stepOf_30 rfl ?_
      refine g_Mo_figures C kk91 fl_X12_31 dX12_stepOf_31 ?_
      refine v_iload_n C 1 dX12_stepOf_34 rfl ?_
      obtain ⟨g2, h⟩ := gd_h h
      refine v_iald C kk99 ll99 g2 dX12_stepOf_35 ?_
      obtain rfl := Option.some.inj h
      exact v_iret C K dX12_stepOf_36
    · replace h := (ite_h h).1 c4
      refine v_aload_n C 0 dX12_stepOf_21 rfl ?_
      refine g_Mo_kinds C kk91 fl_X12_28 dX12_stepOf_22 ?_
      refine v_iload_n C 1 dX12_stepOf_25 rfl ?_
      obtain ⟨g3, h⟩ := gd_h h
      refine v_iald C kk98 ll98 g3 dX12_stepOf_26 ?_
      refine v_goto C 36 dX12_stepOf_27 (by decide) ?_
      obtain rfl := Option.some.inj h
      exact v_iret C K dX12_stepOf_36
  · replace h := (ite_h h).2 c5
    refine v_bipush C (-2) dX12_stepOf_12 rfl ?_
    refine v_goto C 36 dX12_stepOf_14 (by decide) ?_
    obtain rfl := Option.some.inj h
    exact v_iret C K dX12_stepOf_36
theorem m_Mo_stepOf {S : SE} (hI : Inj S) (M : Mem) (a1 : Int32) (a2 : Int32) (q : (Int32 × Mem)) (h : f_Mo_stepOf M a1 a2 = some q) : CM S yX12_stepOf cX12_stepOf 3 (some .int) 4 [.ref (S.2.1 91), .int a1, .int a2] M (some (.int q.1)) q.2 :=
  CM.of [(0, .ref (S.2.1 91)), (1, .int a1), (2, .int a2)] hI (by decide) rfl (Nat.le_of_ble_eq_true rfl) (fun X C K => v_Mo_stepOf C K  h)
def f_Mo_step_b26 (M : Mem) : Option (Int32 × Mem) :=
  some ((-2), M)
set_option maxRecDepth 20000 in
theorem v_Mo_step_b26 {S : SE} {X : MX} {q : (Int32 × Mem)} {M : Mem} (C : CX S X cX12_step 3 RX12 5) (K : RT S X (some .int) (some (.int q.1)) q.2) (h : f_Mo_step_b26 M = some q) : V S X 3 M 26 [] [] := by
  unfold f_Mo_step_b26 at h
  refine v_bipush C (-2) dX12_step_26 rfl ?_
  obtain rfl := Option.some.inj h
  exact v_iret C K dX12_step_28
def f_Mo_step (M : Mem) (a1 : Int32) (a2 : Int32) : Option (Int32 × Mem) :=
  if (f_Mo_in a1 0 11) = 0 then
    f_Mo_step_b26 M
  else
    if (f_Mo_isTwo a2) = 0 then
      f_Mo_step_b26 M
    else
      (f_Mo_stepOf M a1 a2).bind fun q1 =>
      some (q1.1, q1.2)
set_option maxRecDepth 20000 in
theorem v_Mo_step {S : SE} {X : MX} {q : (Int32 × Mem)} {M : Mem} {a1 : Int32} {a2 : Int32} (C : CX S X cX12_step 3 RX12 5) (K : RT S X (some .int) (some (.int q.1)) q.2) (h : f_Mo_step M a1 a2 = some q) : V S X 3 M 0 [(0, .ref (S.2.1 91)), (1, .int a1), (2, .int a2)] [] := by
  unfold f_Mo_step at h
  refine v_iload_n C 1 dX12_step_0 rfl ?_
  refine v_iconst C 0 dX12_step_1 rfl ?_
  refine v_bipush C 11 dX12_step_2 rfl ?_
  refine cs C [] (m_Mo_in C.inj M a1 0 11 _ rfl) ci_Mo_in lk_X12_107 (by decide) rfl rfl (Nat.le_of_ble_eq_true rfl) dX12_step_4 ?_
  refine v_if_eq C 26 dX12_step_7 (by decide) (fun c3 => ?_) (fun c3 => ?_)
  · replace h := (ite_h h).1 c3
    refine v_sub [] rfl ?_
    exact v_Mo_step_b26 C K h
  · replace h := (ite_h h).2 c3
    refine v_iload_n C 2 dX12_step_10 rfl ?_
    refine cs C [] (m_Mo_isTwo C.inj M a2 _ rfl) ci_Mo_isTwo lk_X12_165 (by decide) rfl rfl (Nat.le_of_ble_eq_true rfl) dX12_step_11 ?_
    refine v_if_eq C 26 dX12_step_14 (by decide) (fun c2 => ?_) (fun c2 => ?_)
    · replace h := (ite_h h).1 c2
      refine v_sub [] rfl ?_
      exact v_Mo_step_b26 C K h
    · replace h := (ite_h h).2 c2
      refine v_aload_n C 0 dX12_step_17 rfl ?_
      refine v_iload_n C 1 dX12_step_18 rfl ?_
      refine v_iload_n C 2 dX12_step_19 rfl ?_
      obtain ⟨q1, hq1, h⟩ := Option.bind_eq_some_iff.mp h
      refine cv12 C [] kk91 (m_Mo_stepOf C.inj M a1 a2 q1 hq1) ci_Mo_stepOf rfl lk_X12_172 (by decide) rfl rfl (Nat.le_of_ble_eq_true rfl) dX12_step_20 ?_
      refine v_goto C 28 dX12_step_23 (by decide) ?_
      obtain rfl := Option.some.inj h
      exact v_iret C K dX12_step_28
theorem m_Mo_step {S : SE} (hI : Inj S) (M : Mem) (a1 : Int32) (a2 : Int32) (q : (Int32 × Mem)) (h : f_Mo_step M a1 a2 = some q) : CM S yX12_step cX12_step 3 (some .int) 5 [.ref (S.2.1 91), .int a1, .int a2] M (some (.int q.1)) q.2 :=
  CM.of [(0, .ref (S.2.1 91)), (1, .int a1), (2, .int a2)] hI (by decide) rfl (Nat.le_of_ble_eq_true rfl) (fun X C K => v_Mo_step C K  h)
def f_Mo_end (M : Mem) (a1 : Int32) : (Int32 × Mem) :=
  if (f_Mo_in a1 0 8) = 0 then
    ((-2), M)
  else
    bnd (M 91 9) fun x1 =>
    bnd (mset M 91 9 a1) fun M2 =>
    (x1, M2)
set_option maxRecDepth 20000 in
theorem v_Mo_end {S : SE} {X : MX} {q : (Int32 × Mem)} {M : Mem} {a1 : Int32} (C : CX S X cX12_end 3 RX12 1) (K : RT S X (some .int) (some (.int q.1)) q.2) (h : f_Mo_end M a1 = q) : V S X 3 M 0 [(0, .ref (S.2.1 91)), (1, .int a1)] [] := by
  unfold f_Mo_end at h
  refine v_iload_n C 1 dX12_end_0 rfl ?_
  refine v_iconst C 0 dX12_end_1 rfl ?_
  refine v_bipush C 8 dX12_end_2 rfl ?_
  refine cs C [] (m_Mo_in C.inj M a1 0 8 _ rfl) ci_Mo_in lk_X12_107 (by decide) rfl rfl (Nat.le_of_ble_eq_true rfl) dX12_end_4 ?_
  refine v_if_ne C 13 dX12_end_7 (by decide) (fun c3 => ?_) (fun c3 => ?_)
  · replace h := (ite_h h).2 c3
    refine v_aload_n C 0 dX12_end_13 rfl ?_
    refine g_Mo_endTold C kk91 fl_X12_175 dX12_end_14 ?_
    refine v_nmi h (fun x1 h => ?_)
    refine v_istore_n C [(2, .int x1), (0, .ref (S.2.1 91)), (1, .int a1)] dX12_end_17 (by decide) rfl ?_
    refine v_aload_n C 1 dX12_end_18 rfl ?_
    refine v_iload_n C 2 dX12_end_19 rfl ?_
    refine p_Mo_endTold C kk91 fl_X12_175 dX12_end_20 ?_
    refine v_nmm h (fun M2 h => ?_)
    refine v_iload_n C 0 dX12_end_23 rfl ?_
    subst h
    exact v_iret C K dX12_end_24
  · replace h := (ite_h h).1 c3
    refine v_bipush C (-2) dX12_end_10 rfl ?_
    subst h
    exact v_iret C K dX12_end_12
theorem m_Mo_end {S : SE} (hI : Inj S) (M : Mem) (a1 : Int32) (q : (Int32 × Mem)) (h : f_Mo_end M a1 = q) : CM S yX12_end cX12_end 3 (some .int) 1 [.ref (S.2.1 91), .int a1] M (some (.int q.1)) q.2 :=
  CM.of [(0, .ref (S.2.1 91)), (1, .int a1)] hI (by decide) rfl (Nat.le_of_ble_eq_true rfl) (fun X C K => v_Mo_end C K  h)
def f_Mo_logs (M : Mem) (a1 : Int32) (a2 : Int32) : Option Mem :=
  if gin a1 2 then
    if 200 ≤ (M 103 a1.toNatClampNeg) then
      some M
    else
      if gin a1 2 then
        if gin ((200 * a1) + (M 103 a1.toNatClampNeg)) 400 then
          bnd (mset M 104 ((200 * a1) + (M 103 a1.toNatClampNeg)).toNatClampNeg a2) fun M4 =>
          if gin a1 2 then
            if gin a1 2 then
              bnd (mset M4 103 a1.toNatClampNeg ((M4 103 a1.toNatClampNeg) + 1)) fun M7 =>
              some M7
            else none
          else none
        else none
      else none
  else none
set_option maxRecDepth 20000 in
theorem v_Mo_logs {S : SE} {X : MX} {q : Mem} {M : Mem} {a1 : Int32} {a2 : Int32} (C : CX S X cX12_logs 3 RX12 0) (K : RT S X none none q) (h : f_Mo_logs M a1 a2 = some q) : V S X 3 M 0 [(0, .ref (S.2.1 91)), (1, .int a1), (2, .int a2)] [] := by
  unfold f_Mo_logs at h
  refine v_aload_n C 0 dX12_logs_0 rfl ?_
  refine g_Mo_logged C kk91 fl_X12_43 dX12_logs_1 ?_
  refine v_iload_n C 1 dX12_logs_4 rfl ?_
  obtain ⟨g1, h⟩ := gd_h h
  refine v_iald C kk103 ll103 g1 dX12_logs_5 ?_
  refine v_sipush C 200 dX12_logs_6 rfl ?_
  refine v_icmp_ge C 40 dX12_logs_9 (by decide) (fun c8 => ?_) (fun c8 => ?_)
  · replace h := (ite_h h).1 c8
    obtain rfl := Option.some.inj h
    exact v_vret C K dX12_logs_40
  · replace h := (ite_h h).2 c8
    refine v_aload_n C 0 dX12_logs_12 rfl ?_
    refine g_Mo_logs C kk91 fl_X12_46 dX12_logs_13 ?_
    refine v_sipush C 200 dX12_logs_16 rfl ?_
    refine v_iload_n C 1 dX12_logs_19 rfl ?_
    refine v_imul C dX12_logs_20 ?_
    refine v_aload_n C 0 dX12_logs_21 rfl ?_
    refine g_Mo_logged C kk91 fl_X12_43 dX12_logs_22 ?_
    refine v_iload_n C 1 dX12_logs_25 rfl ?_
    obtain ⟨g2, h⟩ := gd_h h
    refine v_iald C kk103 ll103 g2 dX12_logs_26 ?_
    refine v_iadd C dX12_logs_27 ?_
    refine v_iload_n C 2 dX12_logs_28 rfl ?_
    obtain ⟨g3, h⟩ := gd_h h
    refine v_iast C kk104 ll104 g3 dX12_logs_29 ?_
    refine v_nmm h (fun M4 h => ?_)
    refine v_aload_n C 0 dX12_logs_30 rfl ?_
    refine g_Mo_logged C kk91 fl_X12_43 dX12_logs_31 ?_
    refine v_iload_n C 1 dX12_logs_34 rfl ?_
    refine v_dup2 C dX12_logs_35 rfl rfl ?_
    obtain ⟨g5, h⟩ := gd_h h
    refine v_iald C kk103 ll103 g5 dX12_logs_36 ?_
    refine v_iconst C 1 dX12_logs_37 rfl ?_
    refine v_iadd C dX12_logs_38 ?_
    obtain ⟨g6, h⟩ := gd_h h
    refine v_iast C kk103 ll103 g6 dX12_logs_39 ?_
    refine v_nmm h (fun M7 h => ?_)
    obtain rfl := Option.some.inj h
    exact v_vret C K dX12_logs_40
theorem m_Mo_logs {S : SE} (hI : Inj S) (M : Mem) (a1 : Int32) (a2 : Int32) (q : Mem) (h : f_Mo_logs M a1 a2 = some q) : CM S yX12_logs cX12_logs 3 none 0 [.ref (S.2.1 91), .int a1, .int a2] M none q :=
  CM.of [(0, .ref (S.2.1 91)), (1, .int a1), (2, .int a2)] hI (by decide) rfl (Nat.le_of_ble_eq_true rfl) (fun X C K => v_Mo_logs C K  h)
def f_Mo_puts (M : Mem) (a1 : Int32) (a2 : Int32) (a3 : Int32) : Option Mem :=
  if gin (M 91 21) 300 then
    bnd (mset M 108 (M 91 21).toNatClampNeg a1) fun M2 =>
    if gin (M2 91 21) 300 then
      bnd (mset M2 109 (M2 91 21).toNatClampNeg a2) fun M4 =>
      if gin (M4 91 21) 300 then
        bnd (mset M4 110 (M4 91 21).toNatClampNeg a3) fun M6 =>
        bnd (mset M6 91 21 ((M6 91 21) + 1)) fun M7 =>
        some M7
      else none
    else none
  else none
set_option maxRecDepth 20000 in
theorem v_Mo_puts {S : SE} {X : MX} {q : Mem} {M : Mem} {a1 : Int32} {a2 : Int32} {a3 : Int32} (C : CX S X cX12_puts 4 RX12 0) (K : RT S X none none q) (h : f_Mo_puts M a1 a2 a3 = some q) : V S X 4 M 0 [(0, .ref (S.2.1 91)), (1, .int a1), (2, .int a2), (3, .int a3)] [] := by
  unfold f_Mo_puts at h
  refine v_aload_n C 0 dX12_puts_0 rfl ?_
  refine g_Mo_outK C kk91 fl_X12_58 dX12_puts_1 ?_
  refine v_aload_n C 0 dX12_puts_4 rfl ?_
  refine g_Mo_outMany C kk91 fl_X12_178 dX12_puts_5 ?_
  refine v_iload_n C 1 dX12_puts_8 rfl ?_
  obtain ⟨g1, h⟩ := gd_h h
  refine v_iast C kk108 ll108 g1 dX12_puts_9 ?_
  refine v_nmm h (fun M2 h => ?_)
  refine v_aload_n C 0 dX12_puts_10 rfl ?_
  refine g_Mo_outV C kk91 fl_X12_61 dX12_puts_11 ?_
  refine v_aload_n C 0 dX12_puts_14 rfl ?_
  refine g_Mo_outMany C kk91 fl_X12_178 dX12_puts_15 ?_
  refine v_iload_n C 2 dX12_puts_18 rfl ?_
  obtain ⟨g3, h⟩ := gd_h h
  refine v_iast C kk109 ll109 g3 dX12_puts_19 ?_
  refine v_nmm h (fun M4 h => ?_)
  refine v_aload_n C 0 dX12_puts_20 rfl ?_
  refine g_Mo_outPair C kk91 fl_X12_64 dX12_puts_21 ?_
  refine v_aload_n C 0 dX12_puts_24 rfl ?_
  refine g_Mo_outMany C kk91 fl_X12_178 dX12_puts_25 ?_
  refine v_iload_n C 3 dX12_puts_28 rfl ?_
  obtain ⟨g5, h⟩ := gd_h h
  refine v_iast C kk110 ll110 g5 dX12_puts_29 ?_
  refine v_nmm h (fun M6 h => ?_)
  refine v_aload_n C 0 dX12_puts_30 rfl ?_
  refine v_dup C dX12_puts_31 rfl ?_
  refine g_Mo_outMany C kk91 fl_X12_178 dX12_puts_32 ?_
  refine v_iconst C 1 dX12_puts_35 rfl ?_
  refine v_iadd C dX12_puts_36 ?_
  refine p_Mo_outMany C kk91 fl_X12_178 dX12_puts_37 ?_
  refine v_nmm h (fun M7 h => ?_)
  obtain rfl := Option.some.inj h
  exact v_vret C K dX12_puts_40
theorem m_Mo_puts {S : SE} (hI : Inj S) (M : Mem) (a1 : Int32) (a2 : Int32) (a3 : Int32) (q : Mem) (h : f_Mo_puts M a1 a2 a3 = some q) : CM S yX12_puts cX12_puts 4 none 0 [.ref (S.2.1 91), .int a1, .int a2, .int a3] M none q :=
  CM.of [(0, .ref (S.2.1 91)), (1, .int a1), (2, .int a2), (3, .int a3)] hI (by decide) rfl (Nat.le_of_ble_eq_true rfl) (fun X C K => v_Mo_puts C K  h)
def f_Mo_comesIn_l10B (k10 : Int32 → Mem → Option Mem) (a1 : Int32) (M : Mem) : Option Mem :=
  if (M 91 17) ≤ a1 then
    bnd (mset M 91 21 0) fun M2 =>
    some M2
  else
    if gin a1 300 then
      if gin a1 300 then
        bnd (mset M 105 a1.toNatClampNeg (M 108 a1.toNatClampNeg)) fun M5 =>
        if gin a1 300 then
          if gin a1 300 then
            bnd (mset M5 106 a1.toNatClampNeg (M5 109 a1.toNatClampNeg)) fun M8 =>
            if gin a1 300 then
              if gin a1 300 then
                bnd (mset M8 107 a1.toNatClampNeg (M8 110 a1.toNatClampNeg)) fun M11 =>
                k10 (a1 + 1) M11
              else none
            else none
          else none
        else none
      else none
    else none
set_option maxRecDepth 20000 in
theorem v_Mo_comesIn_l10B {S : SE} {X : MX} {q : Mem} {k10 : Int32 → Mem → Option Mem} {a1 : Int32} {M : Mem} (C : CX S X cX12_comesIn 2 RX12 0) (K : RT S X none none q) (hk10 : ∀ (a1 : Int32) (M : Mem), k10 a1 M = some q → V S X 2 M 10 [(0, .ref (S.2.1 91)), (1, .int a1)] []) (h : f_Mo_comesIn_l10B k10 a1 M = some q) : V S X 2 M 10 [(0, .ref (S.2.1 91)), (1, .int a1)] [] := by
  unfold f_Mo_comesIn_l10B at h
  refine v_iload_n C 1 dX12_comesIn_10 rfl ?_
  refine v_aload_n C 0 dX12_comesIn_11 rfl ?_
  refine g_Mo_many C kk91 fl_X12_181 dX12_comesIn_12 ?_
  refine v_icmp_ge C 60 dX12_comesIn_15 (by decide) (fun c12 => ?_) (fun c12 => ?_)
  · replace h := (ite_h h).1 c12
    refine v_aload_n C 0 dX12_comesIn_60 rfl ?_
    refine v_iconst C 0 dX12_comesIn_61 rfl ?_
    refine p_Mo_outMany C kk91 fl_X12_178 dX12_comesIn_62 ?_
    refine v_nmm h (fun M2 h => ?_)
    obtain rfl := Option.some.inj h
    exact v_vret C K dX12_comesIn_65
  · replace h := (ite_h h).2 c12
    refine v_aload_n C 0 dX12_comesIn_18 rfl ?_
    refine g_Mo_rowK C kk91 fl_X12_49 dX12_comesIn_19 ?_
    refine v_iload_n C 1 dX12_comesIn_22 rfl ?_
    refine v_aload_n C 0 dX12_comesIn_23 rfl ?_
    refine g_Mo_outK C kk91 fl_X12_58 dX12_comesIn_24 ?_
    refine v_iload_n C 1 dX12_comesIn_27 rfl ?_
    obtain ⟨g3, h⟩ := gd_h h
    refine v_iald C kk108 ll108 g3 dX12_comesIn_28 ?_
    obtain ⟨g4, h⟩ := gd_h h
    refine v_iast C kk105 ll105 g4 dX12_comesIn_29 ?_
    refine v_nmm h (fun M5 h => ?_)
    refine v_aload_n C 0 dX12_comesIn_30 rfl ?_
    refine g_Mo_rowV C kk91 fl_X12_52 dX12_comesIn_31 ?_
    refine v_iload_n C 1 dX12_comesIn_34 rfl ?_
    refine v_aload_n C 0 dX12_comesIn_35 rfl ?_
    refine g_Mo_outV C kk91 fl_X12_61 dX12_comesIn_36 ?_
    refine v_iload_n C 1 dX12_comesIn_39 rfl ?_
    obtain ⟨g6, h⟩ := gd_h h
    refine v_iald C kk109 ll109 g6 dX12_comesIn_40 ?_
    obtain ⟨g7, h⟩ := gd_h h
    refine v_iast C kk106 ll106 g7 dX12_comesIn_41 ?_
    refine v_nmm h (fun M8 h => ?_)
    refine v_aload_n C 0 dX12_comesIn_42 rfl ?_
    refine g_Mo_rowPair C kk91 fl_X12_55 dX12_comesIn_43 ?_
    refine v_iload_n C 1 dX12_comesIn_46 rfl ?_
    refine v_aload_n C 0 dX12_comesIn_47 rfl ?_
    refine g_Mo_outPair C kk91 fl_X12_64 dX12_comesIn_48 ?_
    refine v_iload_n C 1 dX12_comesIn_51 rfl ?_
    obtain ⟨g9, h⟩ := gd_h h
    refine v_iald C kk110 ll110 g9 dX12_comesIn_52 ?_
    obtain ⟨g10, h⟩ := gd_h h
    refine v_iast C kk107 ll107 g10 dX12_comesIn_53 ?_
    refine v_nmm h (fun M11 h => ?_)
    refine v_iinc C [(1, .int (a1 + 1)), (0, .ref (S.2.1 91))] 1 (a1 + 1) dX12_comesIn_54 rfl rfl (by decide) rfl ?_
    refine v_goto C 10 dX12_comesIn_57 (by decide) ?_
    refine v_sub [1, 0] rfl ?_
    exact hk10 _ _ h
def f_Mo_comesIn_l10 : Nat → Int32 → Mem → Option Mem
  | 0, _, _ => none
  | n + 1, a1, M => f_Mo_comesIn_l10B (f_Mo_comesIn_l10 n) a1 M
theorem v_Mo_comesIn_l10 {S : SE} {X : MX} {q : Mem} (C : CX S X cX12_comesIn 2 RX12 0) (K : RT S X none none q) : ∀ (n : Nat) (a1 : Int32) (M : Mem), f_Mo_comesIn_l10 n a1 M = some q → V S X 2 M 10 [(0, .ref (S.2.1 91)), (1, .int a1)] [] := by
  intro n
  induction n with
  | zero => intro a1 M h; cases h
  | succ n ih => intro a1 M h; exact v_Mo_comesIn_l10B C K ih h
def f_Mo_comesIn (M : Mem) : Option Mem :=
  bnd (mset M 91 17 (M 91 21)) fun M1 =>
  f_Mo_comesIn_l10 FU 0 M1
set_option maxRecDepth 20000 in
theorem v_Mo_comesIn {S : SE} {X : MX} {q : Mem} {M : Mem} (C : CX S X cX12_comesIn 2 RX12 0) (K : RT S X none none q) (h : f_Mo_comesIn M = some q) : V S X 2 M 0 [(0, .ref (S.2.1 91))] [] := by
  unfold f_Mo_comesIn at h
  refine v_aload_n C 0 dX12_comesIn_0 rfl ?_
  refine v_aload_n C 0 dX12_comesIn_1 rfl ?_
  refine g_Mo_outMany C kk91 fl_X12_178 dX12_comesIn_2 ?_
  refine p_Mo_many C kk91 fl_X12_181 dX12_comesIn_5 ?_
  refine v_nmm h (fun M1 h => ?_)
  refine v_iconst C 0 dX12_comesIn_8 rfl ?_
  refine v_istore_n C [(1, .int 0), (0, .ref (S.2.1 91))] dX12_comesIn_9 (by decide) rfl ?_
  refine v_sub [1, 0] rfl ?_
  exact v_Mo_comesIn_l10 C K FU _ _ h
theorem m_Mo_comesIn {S : SE} (hI : Inj S) (M : Mem) (q : Mem) (h : f_Mo_comesIn M = some q) : CM S yX12_comesIn cX12_comesIn 2 none 0 [.ref (S.2.1 91)] M none q :=
  CM.of [(0, .ref (S.2.1 91))] hI (by decide) rfl (Nat.le_of_ble_eq_true rfl) (fun X C K => v_Mo_comesIn C K  h)
