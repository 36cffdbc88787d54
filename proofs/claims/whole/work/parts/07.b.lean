def f_Kept_clear_l10B (k10 : Int32 → Mem → Option Mem) (a1 : Int32) (M : Mem) : Option Mem :=
  if 10 ≤ a1 then
    some M
  else
    if gin a1 10 then
      bnd (f_Tally_clear (45 + a1.toNatClampNeg) M) fun q3 =>
      k10 (a1 + 1) q3
    else none
set_option maxRecDepth 20000 in
theorem v_Kept_clear_l10B {S : SE} {X : MX} {q : Mem} {k10 : Int32 → Mem → Option Mem} {a1 : Int32} {M : Mem} (C : CX S X cX1_clear 2 RX1 1) (K : RT S X none none q) (hk10 : ∀ (a1 : Int32) (M : Mem), k10 a1 M = some q → V S X 2 M 10 [(0, .ref (S.2.1 27)), (1, .int a1)] []) (h : f_Kept_clear_l10B k10 a1 M = some q) : V S X 2 M 10 [(0, .ref (S.2.1 27)), (1, .int a1)] [] := by
  unfold f_Kept_clear_l10B at h
  refine v_iload_n C 1 dX1_clear_10 rfl ?_
  refine v_bipush C 10 dX1_clear_11 rfl ?_
  refine v_icmp_ge C 31 dX1_clear_13 (by decide) (fun c4 => ?_) (fun c4 => ?_)
  · replace h := (ite_h h).1 c4
    obtain rfl := Option.some.inj h
    exact v_vret C K dX1_clear_31
  · replace h := (ite_h h).2 c4
    refine v_aload_n C 0 dX1_clear_16 rfl ?_
    refine g_Kept_tallies C kk27 fl_X1_22 dX1_clear_17 ?_
    refine v_iload_n C 1 dX1_clear_20 rfl ?_
    obtain ⟨g2, h⟩ := gd_h h
    refine v_aaldL C g2 dX1_clear_21 ?_
    obtain ⟨q3, hq3, h⟩ := bnd_ex h
    refine cv9v C [] (kd_L (i := a1) g2) (m_Tally_clear C.inj (45 + a1.toNatClampNeg) (kd_L (i := a1) g2) M q3 hq3) ci_Tally_clear rfl lk_X1_33 (by decide) rfl rfl (Nat.le_of_ble_eq_true rfl) dX1_clear_22 ?_
    refine v_iinc C [(1, .int (a1 + 1)), (0, .ref (S.2.1 27))] 1 (a1 + 1) dX1_clear_25 rfl rfl (by decide) rfl ?_
    refine v_goto C 10 dX1_clear_28 (by decide) ?_
    refine v_sub [1, 0] rfl ?_
    exact hk10 _ _ h
def f_Kept_clear_l10 : Nat → Int32 → Mem → Option Mem
  | 0, _, _ => none
  | n + 1, a1, M => f_Kept_clear_l10B (f_Kept_clear_l10 n) a1 M
theorem v_Kept_clear_l10 {S : SE} {X : MX} {q : Mem} (C : CX S X cX1_clear 2 RX1 1) (K : RT S X none none q) : ∀ (n : Nat) (a1 : Int32) (M : Mem), f_Kept_clear_l10 n a1 M = some q → V S X 2 M 10 [(0, .ref (S.2.1 27)), (1, .int a1)] [] := by
  intro n
  induction n with
  | zero => intro a1 M h; cases h
  | succ n ih => intro a1 M h; exact v_Kept_clear_l10B C K ih h
def f_Kept_clear (M : Mem) : Option Mem :=
  (f_J_fill 43 M 0).bind fun q1 =>
  f_Kept_clear_l10 FU 0 q1
set_option maxRecDepth 20000 in
theorem v_Kept_clear {S : SE} {X : MX} {q : Mem} {M : Mem} (C : CX S X cX1_clear 2 RX1 1) (K : RT S X none none q) (h : f_Kept_clear M = some q) : V S X 2 M 0 [(0, .ref (S.2.1 27))] [] := by
  unfold f_Kept_clear at h
  refine v_aload_n C 0 dX1_clear_0 rfl ?_
  refine g_Kept_sizes C kk27 fl_X1_16 dX1_clear_1 ?_
  refine v_iconst C 0 dX1_clear_4 rfl ?_
  obtain ⟨q1, hq1, h⟩ := Option.bind_eq_some_iff.mp h
  refine csv C [] (m_J_fill C.inj 43 kk43 M 0 q1 hq1) ci_J_fill lk_X1_27 (by decide) rfl rfl (Nat.le_of_ble_eq_true rfl) dX1_clear_5 ?_
  refine v_iconst C 0 dX1_clear_8 rfl ?_
  refine v_istore_n C [(1, .int 0), (0, .ref (S.2.1 27))] dX1_clear_9 (by decide) rfl ?_
  refine v_sub [1, 0] rfl ?_
  exact v_Kept_clear_l10 C K FU _ _ h
theorem m_Kept_clear {S : SE} (hI : Inj S) (M : Mem) (q : Mem) (h : f_Kept_clear M = some q) : CM S yX1_clear cX1_clear 2 none 1 [.ref (S.2.1 27)] M none q :=
  CM.of [(0, .ref (S.2.1 27))] hI (by decide) rfl (Nat.le_of_ble_eq_true rfl) (fun X C K => v_Kept_clear C K  h)
def f_Kept_isNew_b68 (M : Mem) : Option (Int32 × Mem) :=
  some (1, M)
set_option maxRecDepth 20000 in
theorem v_Kept_isNew_b68 {S : SE} {X : MX} {q : (Int32 × Mem)} {M : Mem} (C : CX S X cX1_isNew 4 RX1 0) (K : RT S X (some .boolean) (some (.int q.1)) q.2) (h : f_Kept_isNew_b68 M = some q) : V S X 4 M 68 [] [] := by
  unfold f_Kept_isNew_b68 at h
  refine v_iconst C 1 dX1_isNew_68 rfl ?_
  obtain rfl := Option.some.inj h
  exact v_zret C (Or.inr rfl) K dX1_isNew_69
def f_Kept_isNew_l2B (k2 : Int32 → Int32 → Int32 → Mem → Option (Int32 × Mem)) (a1 : Int32) (a2 : Int32) (a3 : Int32) (M : Mem) : Option (Int32 × Mem) :=
  if gin a1 14 then
    if (M 43 a1.toNatClampNeg) ≤ a3 then
      if gin a1 14 then
        if 220 ≤ (M 43 a1.toNatClampNeg) then
          f_Kept_isNew_b68 M
        else
          if gin a1 14 then
            if gin a1 14 then
              if gin (M 43 a1.toNatClampNeg) 220 then
                bnd (mset M (29 + a1.toNatClampNeg) (M 43 a1.toNatClampNeg).toNatClampNeg a2) fun M6 =>
                if gin a1 14 then
                  if gin a1 14 then
                    bnd (mset M6 43 a1.toNatClampNeg ((M6 43 a1.toNatClampNeg) + 1)) fun M9 =>
                    f_Kept_isNew_b68 M9
                  else none
                else none
              else none
            else none
          else none
      else none
    else
      if gin a1 14 then
        if gin a3 220 then
          if (M (29 + a1.toNatClampNeg) a3.toNatClampNeg) = a2 then
            some (0, M)
          else
            k2 a1 a2 (a3 + 1) M
        else none
      else none
  else none
set_option maxRecDepth 20000 in
theorem v_Kept_isNew_l2B {S : SE} {X : MX} {q : (Int32 × Mem)} {k2 : Int32 → Int32 → Int32 → Mem → Option (Int32 × Mem)} {a1 : Int32} {a2 : Int32} {a3 : Int32} {M : Mem} (C : CX S X cX1_isNew 4 RX1 0) (K : RT S X (some .boolean) (some (.int q.1)) q.2) (hk2 : ∀ (a1 : Int32) (a2 : Int32) (a3 : Int32) (M : Mem), k2 a1 a2 a3 M = some q → V S X 4 M 2 [(0, .ref (S.2.1 27)), (1, .int a1), (2, .int a2), (3, .int a3)] []) (h : f_Kept_isNew_l2B k2 a1 a2 a3 M = some q) : V S X 4 M 2 [(0, .ref (S.2.1 27)), (1, .int a1), (2, .int a2), (3, .int a3)] [] := by
  unfold f_Kept_isNew_l2B at h
  refine v_iload_n C 3 dX1_isNew_2 rfl ?_
  refine v_aload_n C 0 dX1_isNew_3 rfl ?_
  refine g_Kept_sizes C kk27 fl_X1_16 dX1_isNew_4 ?_
  refine v_iload_n C 1 dX1_isNew_7 rfl ?_
  obtain ⟨g1, h⟩ := gd_h h
  refine v_iald C kk43 ll43 g1 dX1_isNew_8 ?_
  refine v_icmp_ge C 32 dX1_isNew_9 (by decide) (fun c14 => ?_) (fun c14 => ?_)
  · replace h := (ite_h h).1 c14
    refine v_aload_n C 0 dX1_isNew_32 rfl ?_
    refine g_Kept_sizes C kk27 fl_X1_16 dX1_isNew_33 ?_
    refine v_iload_n C 1 dX1_isNew_36 rfl ?_
    obtain ⟨g2, h⟩ := gd_h h
    refine v_iald C kk43 ll43 g2 dX1_isNew_37 ?_
    refine v_sipush C 220 dX1_isNew_38 rfl ?_
    refine v_icmp_ge C 68 dX1_isNew_41 (by decide) (fun c10 => ?_) (fun c10 => ?_)
    · replace h := (ite_h h).1 c10
      refine v_sub [] rfl ?_
      exact v_Kept_isNew_b68 C K h
    · replace h := (ite_h h).2 c10
      refine v_aload_n C 0 dX1_isNew_44 rfl ?_
      refine g_Kept_rows C kk27 fl_X1_11 dX1_isNew_45 ?_
      refine v_iload_n C 1 dX1_isNew_48 rfl ?_
      obtain ⟨g3, h⟩ := gd_h h
      refine v_aaldR C g3 dX1_isNew_49 ?_
      refine v_aload_n C 0 dX1_isNew_50 rfl ?_
      refine g_Kept_sizes C kk27 fl_X1_16 dX1_isNew_51 ?_
      refine v_iload_n C 1 dX1_isNew_54 rfl ?_
      obtain ⟨g4, h⟩ := gd_h h
      refine v_iald C kk43 ll43 g4 dX1_isNew_55 ?_
      refine v_iload_n C 2 dX1_isNew_56 rfl ?_
      obtain ⟨g5, h⟩ := gd_h h
      refine v_iast C (kd_R (i := a1) g3) (ln_R (i := a1) g3) g5 dX1_isNew_57 ?_
      refine v_nmm h (fun M6 h => ?_)
      refine v_aload_n C 0 dX1_isNew_58 rfl ?_
      refine g_Kept_sizes C kk27 fl_X1_16 dX1_isNew_59 ?_
      refine v_iload_n C 1 dX1_isNew_62 rfl ?_
      refine v_dup2 C dX1_isNew_63 rfl rfl ?_
      obtain ⟨g7, h⟩ := gd_h h
      refine v_iald C kk43 ll43 g7 dX1_isNew_64 ?_
      refine v_iconst C 1 dX1_isNew_65 rfl ?_
      refine v_iadd C dX1_isNew_66 ?_
      obtain ⟨g8, h⟩ := gd_h h
      refine v_iast C kk43 ll43 g8 dX1_isNew_67 ?_
      refine v_nmm h (fun M9 h => ?_)
      refine v_sub [] rfl ?_
      exact v_Kept_isNew_b68 C K h
  · replace h := (ite_h h).2 c14
    refine v_aload_n C 0 dX1_isNew_12 rfl ?_
    refine g_Kept_rows C kk27 fl_X1_11 dX1_isNew_13 ?_
    refine v_iload_n C 1 dX1_isNew_16 rfl ?_
    obtain ⟨g11, h⟩ := gd_h h
    refine v_aaldR C g11 dX1_isNew_17 ?_
    refine v_iload_n C 3 dX1_isNew_18 rfl ?_
    obtain ⟨g12, h⟩ := gd_h h
    refine v_iald C (kd_R (i := a1) g11) (ln_R (i := a1) g11) g12 dX1_isNew_19 ?_
    refine v_iload_n C 2 dX1_isNew_20 rfl ?_
    refine v_icmp_ne C 26 dX1_isNew_21 (by decide) (fun c13 => ?_) (fun c13 => ?_)
    · replace h := (ite_h h).2 c13
      refine v_iinc C [(3, .int (a3 + 1)), (0, .ref (S.2.1 27)), (1, .int a1), (2, .int a2)] 3 (a3 + 1) dX1_isNew_26 rfl rfl (by decide) rfl ?_
      refine v_goto C 2 dX1_isNew_29 (by decide) ?_
      refine v_sub [1, 2, 3, 0] rfl ?_
      exact hk2 _ _ _ _ h
    · replace h := (ite_h h).1 c13
      refine v_iconst C 0 dX1_isNew_24 rfl ?_
      obtain rfl := Option.some.inj h
      exact v_zret C (Or.inl rfl) K dX1_isNew_25
def f_Kept_isNew_l2 : Nat → Int32 → Int32 → Int32 → Mem → Option (Int32 × Mem)
  | 0, _, _, _, _ => none
  | n + 1, a1, a2, a3, M => f_Kept_isNew_l2B (f_Kept_isNew_l2 n) a1 a2 a3 M
theorem v_Kept_isNew_l2 {S : SE} {X : MX} {q : (Int32 × Mem)} (C : CX S X cX1_isNew 4 RX1 0) (K : RT S X (some .boolean) (some (.int q.1)) q.2) : ∀ (n : Nat) (a1 : Int32) (a2 : Int32) (a3 : Int32) (M : Mem), f_Kept_isNew_l2 n a1 a2 a3 M = some q → V S X 4 M 2 [(0, .ref (S.2.1 27)), (1, .int a1), (2, .int a2), (3, .int a3)] [] := by
  intro n
  induction n with
  | zero => intro a1 a2 a3 M h; cases h
  | succ n ih => intro a1 a2 a3 M h; exact v_Kept_isNew_l2B C K ih h
def f_Kept_isNew (M : Mem) (a1 : Int32) (a2 : Int32) : Option (Int32 × Mem) :=
  f_Kept_isNew_l2 FU a1 a2 0 M
set_option maxRecDepth 20000 in
theorem v_Kept_isNew {S : SE} {X : MX} {q : (Int32 × Mem)} {M : Mem} {a1 : Int32} {a2 : Int32} (C : CX S X cX1_isNew 4 RX1 0) (K : RT S X (some .boolean) (some (.int q.1)) q.2) (h : f_Kept_isNew M a1 a2 = some q) : V S X 4 M 0 [(0, .ref (S.2.1 27)), (1, .int a1), (2, .int a2)] [] := by
  unfold f_Kept_isNew at h
  refine v_iconst C 0 dX1_isNew_0 rfl ?_
  refine v_istore_n C [(3, .int 0), (0, .ref (S.2.1 27)), (1, .int a1), (2, .int a2)] dX1_isNew_1 (by decide) rfl ?_
  refine v_sub [1, 2, 3, 0] rfl ?_
  exact v_Kept_isNew_l2 C K FU _ _ _ _ h
theorem m_Kept_isNew {S : SE} (hI : Inj S) (M : Mem) (a1 : Int32) (a2 : Int32) (q : (Int32 × Mem)) (h : f_Kept_isNew M a1 a2 = some q) : CM S yX1_isNew cX1_isNew 4 (some .boolean) 0 [.ref (S.2.1 27), .int a1, .int a2] M (some (.int q.1)) q.2 :=
  CM.of [(0, .ref (S.2.1 27)), (1, .int a1), (2, .int a2)] hI (by decide) rfl (Nat.le_of_ble_eq_true rfl) (fun X C K => v_Kept_isNew C K  h)
def f_Kept_addToGroup_l8B (k8 : Int32 → Int32 → Int32 → Mem → Option Mem) (a1 : Int32) (a3 : Int32) (a4 : Int32) (M : Mem) : Option Mem :=
  if gin a1 14 then
    if (M 43 a1.toNatClampNeg) ≤ a4 then
      if gin a1 14 then
        if 220 ≤ (M 43 a1.toNatClampNeg) then
          some M
        else
          if gin a1 14 then
            if gin a1 14 then
              if gin (M 43 a1.toNatClampNeg) 220 then
                bnd (mset M (29 + a1.toNatClampNeg) (M 43 a1.toNatClampNeg).toNatClampNeg (a3 + 512)) fun M7 =>
                if gin a1 14 then
                  if gin a1 14 then
                    bnd (mset M7 43 a1.toNatClampNeg ((M7 43 a1.toNatClampNeg) + 1)) fun M10 =>
                    some M10
                  else none
                else none
              else none
            else none
          else none
      else none
    else
      if gin a1 14 then
        if gin a4 220 then
          if ((M (29 + a1.toNatClampNeg) a4.toNatClampNeg) &&& (-1048321)) = a3 then
            if gin a1 14 then
              if gin a4 220 then
                if gin a4 220 then
                  bnd (mset M (29 + a1.toNatClampNeg) a4.toNatClampNeg ((M (29 + a1.toNatClampNeg) a4.toNatClampNeg) + 256)) fun M17 =>
                  some M17
                else none
              else none
            else none
          else
            k8 a1 a3 (a4 + 1) M
        else none
      else none
  else none
set_option maxRecDepth 20000 in
theorem v_Kept_addToGroup_l8B {S : SE} {X : MX} {q : Mem} {k8 : Int32 → Int32 → Int32 → Mem → Option Mem} {a1 : Int32} {a3 : Int32} {a4 : Int32} {M : Mem} (C : CX S X cX1_addToGroup 5 RX1 0) (K : RT S X none none q) (hk8 : ∀ (a1 : Int32) (a3 : Int32) (a4 : Int32) (M : Mem), k8 a1 a3 a4 M = some q → V S X 5 M 8 [(0, .ref (S.2.1 27)), (1, .int a1), (3, .int a3), (4, .int a4)] []) (h : f_Kept_addToGroup_l8B k8 a1 a3 a4 M = some q) : V S X 5 M 8 [(0, .ref (S.2.1 27)), (1, .int a1), (3, .int a3), (4, .int a4)] [] := by
  unfold f_Kept_addToGroup_l8B at h
  refine v_iload C 3 dX1_addToGroup_8 rfl ?_
  refine v_aload_n C 0 dX1_addToGroup_10 rfl ?_
  refine g_Kept_sizes C kk27 fl_X1_16 dX1_addToGroup_11 ?_
  refine v_iload_n C 1 dX1_addToGroup_14 rfl ?_
  obtain ⟨g2, h⟩ := gd_h h
  refine v_iald C kk43 ll43 g2 dX1_addToGroup_15 ?_
  refine v_icmp_ge C 57 dX1_addToGroup_16 (by decide) (fun c19 => ?_) (fun c19 => ?_)
  · replace h := (ite_h h).1 c19
    refine v_aload_n C 0 dX1_addToGroup_57 rfl ?_
    refine g_Kept_sizes C kk27 fl_X1_16 dX1_addToGroup_58 ?_
    refine v_iload_n C 1 dX1_addToGroup_61 rfl ?_
    obtain ⟨g3, h⟩ := gd_h h
    refine v_iald C kk43 ll43 g3 dX1_addToGroup_62 ?_
    refine v_sipush C 220 dX1_addToGroup_63 rfl ?_
    refine v_icmp_ge C 97 dX1_addToGroup_66 (by decide) (fun c11 => ?_) (fun c11 => ?_)
    · replace h := (ite_h h).1 c11
      obtain rfl := Option.some.inj h
      exact v_vret C K dX1_addToGroup_97
    · replace h := (ite_h h).2 c11
      refine v_aload_n C 0 dX1_addToGroup_69 rfl ?_
      refine g_Kept_rows C kk27 fl_X1_11 dX1_addToGroup_70 ?_
      refine v_iload_n C 1 dX1_addToGroup_73 rfl ?_
      obtain ⟨g4, h⟩ := gd_h h
      refine v_aaldR C g4 dX1_addToGroup_74 ?_
      refine v_aload_n C 0 dX1_addToGroup_75 rfl ?_
      refine g_Kept_sizes C kk27 fl_X1_16 dX1_addToGroup_76 ?_
      refine v_iload_n C 1 dX1_addToGroup_79 rfl ?_
      obtain ⟨g5, h⟩ := gd_h h
      refine v_iald C kk43 ll43 g5 dX1_addToGroup_80 ?_
      refine v_iload_n C 2 dX1_addToGroup_81 rfl ?_
      refine v_sipush C 512 dX1_addToGroup_82 rfl ?_
      refine v_iadd C dX1_addToGroup_85 ?_
      obtain ⟨g6, h⟩ := gd_h h
      refine v_iast C (kd_R (i := a1) g4) (ln_R (i := a1) g4) g6 dX1_addToGroup_86 ?_
      refine v_nmm h (fun M7 h => ?_)
      refine v_aload_n C 0 dX1_addToGroup_87 rfl ?_
      refine g_Kept_sizes C kk27 fl_X1_16 dX1_addToGroup_88 ?_
      refine v_iload_n C 1 dX1_addToGroup_91 rfl ?_
      refine v_dup2 C dX1_addToGroup_92 rfl rfl ?_
      obtain ⟨g8, h⟩ := gd_h h
      refine v_iald C kk43 ll43 g8 dX1_addToGroup_93 ?_
      refine v_iconst C 1 dX1_addToGroup_94 rfl ?_
      refine v_iadd C dX1_addToGroup_95 ?_
      obtain ⟨g9, h⟩ := gd_h h
      refine v_iast C kk43 ll43 g9 dX1_addToGroup_96 ?_
      refine v_nmm h (fun M10 h => ?_)
      obtain rfl := Option.some.inj h
      exact v_vret C K dX1_addToGroup_97
  · replace h := (ite_h h).2 c19
    refine v_aload_n C 0 dX1_addToGroup_19 rfl ?_
    refine g_Kept_rows C kk27 fl_X1_11 dX1_addToGroup_20 ?_
    refine v_iload_n C 1 dX1_addToGroup_23 rfl ?_
    obtain ⟨g12, h⟩ := gd_h h
    refine v_aaldR C g12 dX1_addToGroup_24 ?_
    refine v_iload C 3 dX1_addToGroup_25 rfl ?_
    obtain ⟨g13, h⟩ := gd_h h
    refine v_iald C (kd_R (i := a1) g12) (ln_R (i := a1) g12) g13 dX1_addToGroup_27 ?_
    refine v_ldc C kc_X1_36 dX1_addToGroup_28 ?_
    refine v_iand C dX1_addToGroup_30 ?_
    refine v_iload_n C 2 dX1_addToGroup_31 rfl ?_
    refine v_icmp_ne C 51 dX1_addToGroup_32 (by decide) (fun c18 => ?_) (fun c18 => ?_)
    · replace h := (ite_h h).2 c18
      refine v_iinc C [(4, .int (a4 + 1)), (0, .ref (S.2.1 27)), (1, .int a1), (3, .int a3)] 3 (a4 + 1) dX1_addToGroup_51 rfl rfl (by decide) rfl ?_
      refine v_goto C 8 dX1_addToGroup_54 (by decide) ?_
      refine v_sub [1, 2, 3, 0] rfl ?_
      exact hk8 _ _ _ _ h
    · replace h := (ite_h h).1 c18
      refine v_aload_n C 0 dX1_addToGroup_35 rfl ?_
      refine g_Kept_rows C kk27 fl_X1_11 dX1_addToGroup_36 ?_
      refine v_iload_n C 1 dX1_addToGroup_39 rfl ?_
      obtain ⟨g14, h⟩ := gd_h h
      refine v_aaldR C g14 dX1_addToGroup_40 ?_
      refine v_iload C 3 dX1_addToGroup_41 rfl ?_
      refine v_dup2 C dX1_addToGroup_43 rfl rfl ?_
      obtain ⟨g15, h⟩ := gd_h h
      refine v_iald C (kd_R (i := a1) g14) (ln_R (i := a1) g14) g15 dX1_addToGroup_44 ?_
      refine v_sipush C 256 dX1_addToGroup_45 rfl ?_
      refine v_iadd C dX1_addToGroup_48 ?_
      obtain ⟨g16, h⟩ := gd_h h
      refine v_iast C (kd_R (i := a1) g14) (ln_R (i := a1) g14) g16 dX1_addToGroup_49 ?_
      refine v_nmm h (fun M17 h => ?_)
      obtain rfl := Option.some.inj h
      exact v_vret C K dX1_addToGroup_50
def f_Kept_addToGroup_l8 : Nat → Int32 → Int32 → Int32 → Mem → Option Mem
  | 0, _, _, _, _ => none
  | n + 1, a1, a3, a4, M => f_Kept_addToGroup_l8B (f_Kept_addToGroup_l8 n) a1 a3 a4 M
theorem v_Kept_addToGroup_l8 {S : SE} {X : MX} {q : Mem} (C : CX S X cX1_addToGroup 5 RX1 0) (K : RT S X none none q) : ∀ (n : Nat) (a1 : Int32) (a3 : Int32) (a4 : Int32) (M : Mem), f_Kept_addToGroup_l8 n a1 a3 a4 M = some q → V S X 5 M 8 [(0, .ref (S.2.1 27)), (1, .int a1), (3, .int a3), (4, .int a4)] [] := by
  intro n
  induction n with
  | zero => intro a1 a3 a4 M h; cases h
  | succ n ih => intro a1 a3 a4 M h; exact v_Kept_addToGroup_l8B C K ih h
def f_Kept_addToGroup (M : Mem) (a1 : Int32) (a2 : Int32) : Option Mem :=
  bnd (a2 &&& (-1048321)) fun x1 =>
  f_Kept_addToGroup_l8 FU a1 x1 0 M
set_option maxRecDepth 20000 in
theorem v_Kept_addToGroup {S : SE} {X : MX} {q : Mem} {M : Mem} {a1 : Int32} {a2 : Int32} (C : CX S X cX1_addToGroup 5 RX1 0) (K : RT S X none none q) (h : f_Kept_addToGroup M a1 a2 = some q) : V S X 5 M 0 [(0, .ref (S.2.1 27)), (1, .int a1), (2, .int a2)] [] := by
  unfold f_Kept_addToGroup at h
  refine v_iload_n C 2 dX1_addToGroup_0 rfl ?_
  refine v_ldc C kc_X1_36 dX1_addToGroup_1 ?_
  refine v_iand C dX1_addToGroup_3 ?_
  refine v_nmi h (fun x1 h => ?_)
  refine v_istore_n C [(3, .int x1), (0, .ref (S.2.1 27)), (1, .int a1), (2, .int a2)] dX1_addToGroup_4 (by decide) rfl ?_
  refine v_iconst C 0 dX1_addToGroup_5 rfl ?_
  refine v_istore C [(4, .int 0), (3, .int x1), (0, .ref (S.2.1 27)), (1, .int a1), (2, .int a2)] dX1_addToGroup_6 (by decide) rfl ?_
  refine v_sub [2, 3, 1, 0] rfl ?_
  exact v_Kept_addToGroup_l8 C K FU _ _ _ _ h
theorem m_Kept_addToGroup {S : SE} (hI : Inj S) (M : Mem) (a1 : Int32) (a2 : Int32) (q : Mem) (h : f_Kept_addToGroup M a1 a2 = some q) : CM S yX1_addToGroup cX1_addToGroup 5 none 0 [.ref (S.2.1 27), .int a1, .int a2] M none q :=
  CM.of [(0, .ref (S.2.1 27)), (1, .int a1), (2, .int a2)] hI (by decide) rfl (Nat.le_of_ble_eq_true rfl) (fun X C K => v_Kept_addToGroup C K  h)
def f_Report_clear (o : Nat) (M : Mem) : Mem :=
  bnd (mset M o 3 0) fun M1 =>
  bnd (mset M1 o 4 (-1)) fun M2 =>
  bnd (mset M2 o 5 0) fun M3 =>
  bnd (mset M3 o 6 0) fun M4 =>
  bnd (mset M4 o 7 0) fun M5 =>
  bnd (mset M5 o 8 0) fun M6 =>
  bnd (mset M6 o 9 0) fun M7 =>
  M7
set_option maxRecDepth 20000 in
theorem v_Report_clear {S : SE} {X : MX} {q : Mem} {o : Nat} {M : Mem} (C : CX S X cX4_clear 1 RX4 0) (K : RT S X none none q) (ho : kd o = 4) (h : f_Report_clear o M = q) : V S X 1 M 0 [(0, .ref (S.2.1 o))] [] := by
  unfold f_Report_clear at h
  refine v_aload_n C 0 dX4_clear_0 rfl ?_
  refine v_iconst C 0 dX4_clear_1 rfl ?_
  refine p_Report_logSize C ho fl_X4_22 dX4_clear_2 ?_
  refine v_nmm h (fun M1 h => ?_)
  refine v_aload_n C 0 dX4_clear_5 rfl ?_
  refine v_iconst C (-1) dX4_clear_6 rfl ?_
  refine p_Report_error C ho fl_X4_26 dX4_clear_7 ?_
  refine v_nmm h (fun M2 h => ?_)
  refine v_aload_n C 0 dX4_clear_10 rfl ?_
  refine v_iconst C 0 dX4_clear_11 rfl ?_
  refine p_Report_read C ho fl_X4_29 dX4_clear_12 ?_
  refine v_nmm h (fun M3 h => ?_)
  refine v_aload_n C 0 dX4_clear_15 rfl ?_
  refine v_iconst C 0 dX4_clear_16 rfl ?_
  refine p_Report_handedOn C ho fl_X4_32 dX4_clear_17 ?_
  refine v_nmm h (fun M4 h => ?_)
  refine v_aload_n C 0 dX4_clear_20 rfl ?_
  refine v_iconst C 0 dX4_clear_21 rfl ?_
  refine p_Report_opened C ho fl_X4_35 dX4_clear_22 ?_
  refine v_nmm h (fun M5 h => ?_)
  refine v_aload_n C 0 dX4_clear_25 rfl ?_
  refine v_iconst C 0 dX4_clear_26 rfl ?_
  refine p_Report_open C ho fl_X4_38 dX4_clear_27 ?_
  refine v_nmm h (fun M6 h => ?_)
  refine v_aload_n C 0 dX4_clear_30 rfl ?_
  refine v_iconst C 0 dX4_clear_31 rfl ?_
  refine p_Report_mostOpen C ho fl_X4_41 dX4_clear_32 ?_
  refine v_nmm h (fun M7 h => ?_)
  subst h
  exact v_vret C K dX4_clear_35
theorem m_Report_clear {S : SE} (hI : Inj S) (o : Nat) (ho : kd o = 4) (M : Mem) (q : Mem) (h : f_Report_clear o M = q) : CM S yX4_clear cX4_clear 1 none 0 [.ref (S.2.1 o)] M none q :=
  CM.of [(0, .ref (S.2.1 o))] hI (by decide) rfl (Nat.le_of_ble_eq_true rfl) (fun X C K => v_Report_clear C K ho h)
def f_Report_tell (o : Nat) (M : Mem) (a1 : Int32) : Option Mem :=
  if 200 ≤ (M o 3) then
    some M
  else
    if gin (M o 3) 200 then
      bnd (mset M (o + 3) (M o 3).toNatClampNeg a1) fun M2 =>
      bnd (mset M2 o 3 ((M2 o 3) + 1)) fun M3 =>
      some M3
    else none
set_option maxRecDepth 20000 in
theorem v_Report_tell {S : SE} {X : MX} {q : Mem} {o : Nat} {M : Mem} {a1 : Int32} (C : CX S X cX4_tell 2 RX4 0) (K : RT S X none none q) (ho : kd o = 4) (h : f_Report_tell o M a1 = some q) : V S X 2 M 0 [(0, .ref (S.2.1 o)), (1, .int a1)] [] := by
  unfold f_Report_tell at h
  refine v_aload_n C 0 dX4_tell_0 rfl ?_
  refine g_Report_logSize C ho fl_X4_22 dX4_tell_1 ?_
  refine v_sipush C 200 dX4_tell_4 rfl ?_
  refine v_icmp_ge C 30 dX4_tell_7 (by decide) (fun c4 => ?_) (fun c4 => ?_)
  · replace h := (ite_h h).1 c4
    obtain rfl := Option.some.inj h
    exact v_vret C K dX4_tell_30
  · replace h := (ite_h h).2 c4
    refine v_aload_n C 0 dX4_tell_10 rfl ?_
    refine g_Report_logged C ho fl_X4_19 dX4_tell_11 ?_
    refine v_aload_n C 0 dX4_tell_14 rfl ?_
    refine g_Report_logSize C ho fl_X4_22 dX4_tell_15 ?_
    refine v_iload_n C 1 dX4_tell_18 rfl ?_
    obtain ⟨g1, h⟩ := gd_h h
    refine v_iast C (kd_Report_logged ho) (ln_Report_logged ho) g1 dX4_tell_19 ?_
    refine v_nmm h (fun M2 h => ?_)
    refine v_aload_n C 0 dX4_tell_20 rfl ?_
    refine v_dup C dX4_tell_21 rfl ?_
    refine g_Report_logSize C ho fl_X4_22 dX4_tell_22 ?_
    refine v_iconst C 1 dX4_tell_25 rfl ?_
    refine v_iadd C dX4_tell_26 ?_
    refine p_Report_logSize C ho fl_X4_22 dX4_tell_27 ?_
    refine v_nmm h (fun M3 h => ?_)
    obtain rfl := Option.some.inj h
    exact v_vret C K dX4_tell_30
theorem m_Report_tell {S : SE} (hI : Inj S) (o : Nat) (ho : kd o = 4) (M : Mem) (a1 : Int32) (q : Mem) (h : f_Report_tell o M a1 = some q) : CM S yX4_tell cX4_tell 2 none 0 [.ref (S.2.1 o), .int a1] M none q :=
  CM.of [(0, .ref (S.2.1 o)), (1, .int a1)] hI (by decide) rfl (Nat.le_of_ble_eq_true rfl) (fun X C K => v_Report_tell C K ho h)
def f_Report_openAll_l2B (o : Nat) (a1 : Nat) (k2 : Int32 → Mem → Option Mem) (a2 : Int32) (M : Mem) : Option Mem :=
  if (M a1 2) ≤ a2 then
    some M
  else
    bnd (mset M o 7 ((M o 7) + 1)) fun M1 =>
    bnd (mset M1 o 8 ((M1 o 8) + 1)) fun M2 =>
    bnd (mset M2 o 9 (f_J_max (M2 o 9) (M2 o 8))) fun M3 =>
    if gin a2 14 then
      (f_Report_tell o M3 (M3 (a1 + 1) a2.toNatClampNeg)).bind fun q5 =>
      k2 (a2 + 1) q5
    else none
set_option maxRecDepth 20000 in
theorem v_Report_openAll_l2B {S : SE} {X : MX} {q : Mem} {o : Nat} {a1 : Nat} {k2 : Int32 → Mem → Option Mem} {a2 : Int32} {M : Mem} (C : CX S X cX4_openAll 3 RX4 1) (K : RT S X none none q) (ho : kd o = 4) (ha1 : kd a1 = 0) (hk2 : ∀ (a2 : Int32) (M : Mem), k2 a2 M = some q → V S X 3 M 2 [(0, .ref (S.2.1 o)), (1, .ref (S.2.1 a1)), (2, .int a2)] []) (h : f_Report_openAll_l2B o a1 k2 a2 M = some q) : V S X 3 M 2 [(0, .ref (S.2.1 o)), (1, .ref (S.2.1 a1)), (2, .int a2)] [] := by
  unfold f_Report_openAll_l2B at h
  refine v_iload_n C 2 dX4_openAll_2 rfl ?_
  refine v_aload_n C 1 dX4_openAll_3 rfl ?_
  refine g_Course_size C ha1 fl_X4_44 dX4_openAll_4 ?_
  refine v_icmp_ge C 61 dX4_openAll_7 (by decide) (fun c6 => ?_) (fun c6 => ?_)
  · replace h := (ite_h h).1 c6
    obtain rfl := Option.some.inj h
    exact v_vret C K dX4_openAll_61
  · replace h := (ite_h h).2 c6
    refine v_aload_n C 0 dX4_openAll_10 rfl ?_
    refine v_dup C dX4_openAll_11 rfl ?_
    refine g_Report_opened C ho fl_X4_35 dX4_openAll_12 ?_
    refine v_iconst C 1 dX4_openAll_15 rfl ?_
    refine v_iadd C dX4_openAll_16 ?_
    refine p_Report_opened C ho fl_X4_35 dX4_openAll_17 ?_
    refine v_nmm h (fun M1 h => ?_)
    refine v_aload_n C 0 dX4_openAll_20 rfl ?_
    refine v_dup C dX4_openAll_21 rfl ?_
    refine g_Report_open C ho fl_X4_38 dX4_openAll_22 ?_
    refine v_iconst C 1 dX4_openAll_25 rfl ?_
    refine v_iadd C dX4_openAll_26 ?_
    refine p_Report_open C ho fl_X4_38 dX4_openAll_27 ?_
    refine v_nmm h (fun M2 h => ?_)
    refine v_aload_n C 0 dX4_openAll_30 rfl ?_
    refine v_aload_n C 0 dX4_openAll_31 rfl ?_
    refine g_Report_mostOpen C ho fl_X4_41 dX4_openAll_32 ?_
    refine v_aload_n C 0 dX4_openAll_35 rfl ?_
    refine g_Report_open C ho fl_X4_38 dX4_openAll_36 ?_
    refine v_mmax C [.ref (S.2.1 o)] lk_X4_49 (by decide) (Nat.le_of_ble_eq_true rfl) dX4_openAll_39 ?_
    refine p_Report_mostOpen C ho fl_X4_41 dX4_openAll_42 ?_
    refine v_nmm h (fun M3 h => ?_)
    refine v_aload_n C 0 dX4_openAll_45 rfl ?_
    refine v_aload_n C 1 dX4_openAll_46 rfl ?_
    refine g_Course_codes C ha1 fl_X4_55 dX4_openAll_47 ?_
    refine v_iload_n C 2 dX4_openAll_50 rfl ?_
    obtain ⟨g4, h⟩ := gd_h h
    refine v_iald C (kd_Course_codes ha1) (ln_Course_codes ha1) g4 dX4_openAll_51 ?_
    obtain ⟨q5, hq5, h⟩ := Option.bind_eq_some_iff.mp h
    refine cv4v C [] ho (m_Report_tell C.inj o ho M3 (M3 (a1 + 1) a2.toNatClampNeg) q5 hq5) ci_Report_tell rfl lk_X4_58 (by decide) rfl rfl (Nat.le_of_ble_eq_true rfl) dX4_openAll_52 ?_
    refine v_iinc C [(2, .int (a2 + 1)), (0, .ref (S.2.1 o)), (1, .ref (S.2.1 a1))] 2 (a2 + 1) dX4_openAll_55 rfl rfl (by decide) rfl ?_
    refine v_goto C 2 dX4_openAll_58 (by decide) ?_
    refine v_sub [1, 2, 0] rfl ?_
    exact hk2 _ _ h
def f_Report_openAll_l2 (o : Nat) (a1 : Nat) : Nat → Int32 → Mem → Option Mem
  | 0, _, _ => none
  | n + 1, a2, M => f_Report_openAll_l2B o a1 (f_Report_openAll_l2 o a1 n) a2 M
theorem v_Report_openAll_l2 {S : SE} {X : MX} {q : Mem} {o : Nat} {a1 : Nat} (C : CX S X cX4_openAll 3 RX4 1) (K : RT S X none none q) (ho : kd o = 4) (ha1 : kd a1 = 0) : ∀ (n : Nat) (a2 : Int32) (M : Mem), f_Report_openAll_l2 o a1 n a2 M = some q → V S X 3 M 2 [(0, .ref (S.2.1 o)), (1, .ref (S.2.1 a1)), (2, .int a2)] [] := by
  intro n
  induction n with
  | zero => intro a2 M h; cases h
  | succ n ih => intro a2 M h; exact v_Report_openAll_l2B C K ho ha1 ih h
def f_Report_openAll (o : Nat) (a1 : Nat) (M : Mem) : Option Mem :=
  f_Report_openAll_l2 o a1 FU 0 M
set_option maxRecDepth 20000 in
theorem v_Report_openAll {S : SE} {X : MX} {q : Mem} {o : Nat} {a1 : Nat} {M : Mem} (C : CX S X cX4_openAll 3 RX4 1) (K : RT S X none none q) (ho : kd o = 4) (ha1 : kd a1 = 0) (h : f_Report_openAll o a1 M = some q) : V S X 3 M 0 [(0, .ref (S.2.1 o)), (1, .ref (S.2.1 a1))] [] := by
  unfold f_Report_openAll at h
  refine v_iconst C 0 dX4_openAll_0 rfl ?_
  refine v_istore_n C [(2, .int 0), (0, .ref (S.2.1 o)), (1, .ref (S.2.1 a1))] dX4_openAll_1 (by decide) rfl ?_
  refine v_sub [1, 2, 0] rfl ?_
  exact v_Report_openAll_l2 C K ho ha1 FU _ _ h
theorem m_Report_openAll {S : SE} (hI : Inj S) (o : Nat) (a1 : Nat) (ho : kd o = 4) (ha1 : kd a1 = 0) (M : Mem) (q : Mem) (h : f_Report_openAll o a1 M = some q) : CM S yX4_openAll cX4_openAll 3 none 1 [.ref (S.2.1 o), .ref (S.2.1 a1)] M none q :=
  CM.of [(0, .ref (S.2.1 o)), (1, .ref (S.2.1 a1))] hI (by decide) rfl (Nat.le_of_ble_eq_true rfl) (fun X C K => v_Report_openAll C K ho ha1 h)
def f_Report_shutAll_l7B (o : Nat) (a1 : Nat) (k7 : Int32 → Mem → Option Mem) (a2 : Int32) (M : Mem) : Option Mem :=
  if a2 < 0 then
    some M
  else
    bnd (mset M o 8 ((M o 8) - 1)) fun M2 =>
    if gin a2 14 then
      (f_Report_tell o M2 (10 + (M2 (a1 + 1) a2.toNatClampNeg))).bind fun q4 =>
      k7 (a2 + (-1)) q4
    else none
set_option maxRecDepth 20000 in
theorem v_Report_shutAll_l7B {S : SE} {X : MX} {q : Mem} {o : Nat} {a1 : Nat} {k7 : Int32 → Mem → Option Mem} {a2 : Int32} {M : Mem} (C : CX S X cX4_shutAll 3 RX4 1) (K : RT S X none none q) (ho : kd o = 4) (ha1 : kd a1 = 0) (hk7 : ∀ (a2 : Int32) (M : Mem), k7 a2 M = some q → V S X 3 M 7 [(0, .ref (S.2.1 o)), (1, .ref (S.2.1 a1)), (2, .int a2)] []) (h : f_Report_shutAll_l7B o a1 k7 a2 M = some q) : V S X 3 M 7 [(0, .ref (S.2.1 o)), (1, .ref (S.2.1 a1)), (2, .int a2)] [] := by
  unfold f_Report_shutAll_l7B at h
  refine v_iload_n C 2 dX4_shutAll_7 rfl ?_
  refine v_if_lt C 40 dX4_shutAll_8 (by decide) (fun c5 => ?_) (fun c5 => ?_)
  · replace h := (ite_h h).1 c5
    obtain rfl := Option.some.inj h
    exact v_vret C K dX4_shutAll_40
  · replace h := (ite_h h).2 c5
    refine v_aload_n C 0 dX4_shutAll_11 rfl ?_
    refine v_dup C dX4_shutAll_12 rfl ?_
    refine g_Report_open C ho fl_X4_38 dX4_shutAll_13 ?_
    refine v_iconst C 1 dX4_shutAll_16 rfl ?_
    refine v_isub C dX4_shutAll_17 ?_
    refine p_Report_open C ho fl_X4_38 dX4_shutAll_18 ?_
    refine v_nmm h (fun M2 h => ?_)
    refine v_aload_n C 0 dX4_shutAll_21 rfl ?_
    refine v_bipush C 10 dX4_shutAll_22 rfl ?_
    refine v_aload_n C 1 dX4_shutAll_24 rfl ?_
    refine g_Course_codes C ha1 fl_X4_55 dX4_shutAll_25 ?_
    refine v_iload_n C 2 dX4_shutAll_28 rfl ?_
    obtain ⟨g3, h⟩ := gd_h h
    refine v_iald C (kd_Course_codes ha1) (ln_Course_codes ha1) g3 dX4_shutAll_29 ?_
    refine v_iadd C dX4_shutAll_30 ?_
    obtain ⟨q4, hq4, h⟩ := Option.bind_eq_some_iff.mp h
    refine cv4v C [] ho (m_Report_tell C.inj o ho M2 (10 + (M2 (a1 + 1) a2.toNatClampNeg)) q4 hq4) ci_Report_tell rfl lk_X4_58 (by decide) rfl rfl (Nat.le_of_ble_eq_true rfl) dX4_shutAll_31 ?_
    refine v_iinc C [(2, .int (a2 + (-1))), (0, .ref (S.2.1 o)), (1, .ref (S.2.1 a1))] 2 (a2 + (-1)) dX4_shutAll_34 rfl rfl (by decide) rfl ?_
    refine v_goto C 7 dX4_shutAll_37 (by decide) ?_
    refine v_sub [1, 2, 0] rfl ?_
    exact hk7 _ _ h
def f_Report_shutAll_l7 (o : Nat) (a1 : Nat) : Nat → Int32 → Mem → Option Mem
  | 0, _, _ => none
  | n + 1, a2, M => f_Report_shutAll_l7B o a1 (f_Report_shutAll_l7 o a1 n) a2 M
theorem v_Report_shutAll_l7 {S : SE} {X : MX} {q : Mem} {o : Nat} {a1 : Nat} (C : CX S X cX4_shutAll 3 RX4 1) (K : RT S X none none q) (ho : kd o = 4) (ha1 : kd a1 = 0) : ∀ (n : Nat) (a2 : Int32) (M : Mem), f_Report_shutAll_l7 o a1 n a2 M = some q → V S X 3 M 7 [(0, .ref (S.2.1 o)), (1, .ref (S.2.1 a1)), (2, .int a2)] [] := by
  intro n
  induction n with
  | zero => intro a2 M h; cases h
  | succ n ih => intro a2 M h; exact v_Report_shutAll_l7B C K ho ha1 ih h
def f_Report_shutAll (o : Nat) (a1 : Nat) (M : Mem) : Option Mem :=
  bnd ((M a1 2) - 1) fun x1 =>
  f_Report_shutAll_l7 o a1 FU x1 M
set_option maxRecDepth 20000 in
theorem v_Report_shutAll {S : SE} {X : MX} {q : Mem} {o : Nat} {a1 : Nat} {M : Mem} (C : CX S X cX4_shutAll 3 RX4 1) (K : RT S X none none q) (ho : kd o = 4) (ha1 : kd a1 = 0) (h : f_Report_shutAll o a1 M = some q) : V S X 3 M 0 [(0, .ref (S.2.1 o)), (1, .ref (S.2.1 a1))] [] := by
  unfold f_Report_shutAll at h
  refine v_aload_n C 1 dX4_shutAll_0 rfl ?_
  refine g_Course_size C ha1 fl_X4_44 dX4_shutAll_1 ?_
  refine v_iconst C 1 dX4_shutAll_4 rfl ?_
  refine v_isub C dX4_shutAll_5 ?_
  refine v_nmi h (fun x1 h => ?_)
  refine v_istore_n C [(2, .int x1), (0, .ref (S.2.1 o)), (1, .ref (S.2.1 a1))] dX4_shutAll_6 (by decide) rfl ?_
  refine v_sub [1, 2, 0] rfl ?_
  exact v_Report_shutAll_l7 C K ho ha1 FU _ _ h
theorem m_Report_shutAll {S : SE} (hI : Inj S) (o : Nat) (a1 : Nat) (ho : kd o = 4) (ha1 : kd a1 = 0) (M : Mem) (q : Mem) (h : f_Report_shutAll o a1 M = some q) : CM S yX4_shutAll cX4_shutAll 3 none 1 [.ref (S.2.1 o), .ref (S.2.1 a1)] M none q :=
  CM.of [(0, .ref (S.2.1 o)), (1, .ref (S.2.1 a1))] hI (by decide) rfl (Nat.le_of_ble_eq_true rfl) (fun X C K => v_Report_shutAll C K ho ha1 h)
def f_Report_settle (o : Nat) (a2 : Nat) (M : Mem) (a1 : Int32) (a3 : Int32) (a4 : Int32) : Option Mem :=
  if (f_Tally_isError a2 M a3) = 0 then
    (f_Tally_outcome a2 M a3 a4).bind fun q1 =>
    if gin a1 10 then
      bnd (mset M (o + 1) a1.toNatClampNeg q1) fun M3 =>
      (f_Tally_mean a2 M3).bind fun q4 =>
      if gin a1 10 then
        bnd (mset M3 (o + 2) a1.toNatClampNeg (UInt32.toInt32 q4)) fun M6 =>
        some M6
      else none
    else none
  else
    bnd (mset M o 4 a1) fun M7 =>
    some M7
set_option maxRecDepth 20000 in
theorem v_Report_settle {S : SE} {X : MX} {q : Mem} {o : Nat} {a2 : Nat} {M : Mem} {a1 : Int32} {a3 : Int32} {a4 : Int32} (C : CX S X cX4_settle 5 RX4 2) (K : RT S X none none q) (ho : kd o = 4) (ha2 : kd a2 = 9) (h : f_Report_settle o a2 M a1 a3 a4 = some q) : V S X 5 M 0 [(0, .ref (S.2.1 o)), (1, .int a1), (2, .ref (S.2.1 a2)), (3, .int a3), (4, .int a4)] [] := by
  unfold f_Report_settle at h
  refine v_aload_n C 2 dX4_settle_0 rfl ?_
  refine v_iload_n C 3 dX4_settle_1 rfl ?_
  refine cv9 C [] ha2 (m_Tally_isError C.inj a2 ha2 M a3 _ rfl) ci_Tally_isError rfl lk_X4_62 (by decide) rfl rfl (Nat.le_of_ble_eq_true rfl) dX4_settle_2 ?_
  refine v_if_eq C 16 dX4_settle_5 (by decide) (fun c8 => ?_) (fun c8 => ?_)
  · replace h := (ite_h h).1 c8
    refine v_aload_n C 0 dX4_settle_16 rfl ?_
    refine g_Report_answers C ho fl_X4_9 dX4_settle_17 ?_
    refine v_iload_n C 1 dX4_settle_20 rfl ?_
    refine v_aload_n C 2 dX4_settle_21 rfl ?_
    refine v_iload_n C 3 dX4_settle_22 rfl ?_
    refine v_iload C 4 dX4_settle_23 rfl ?_
    obtain ⟨q1, hq1, h⟩ := Option.bind_eq_some_iff.mp h
    refine cv9 C [.int a1, .ref (S.2.1 (o + 1))] ha2 (m_Tally_outcome C.inj a2 ha2 M a3 a4 q1 hq1) ci_Tally_outcome rfl lk_X4_68 (by decide) rfl rfl (Nat.le_of_ble_eq_true rfl) dX4_settle_25 ?_
    obtain ⟨g2, h⟩ := gd_h h
    refine v_iast C (kd_Report_answers ho) (ln_Report_answers ho) g2 dX4_settle_28 ?_
    refine v_nmm h (fun M3 h => ?_)
    refine v_aload_n C 0 dX4_settle_29 rfl ?_
    refine g_Report_means C ho fl_X4_15 dX4_settle_30 ?_
    refine v_iload_n C 1 dX4_settle_33 rfl ?_
    refine v_aload_n C 2 dX4_settle_34 rfl ?_
    obtain ⟨q4, hq4, h⟩ := Option.bind_eq_some_iff.mp h
    refine cv9 C [.int a1, .ref (S.2.1 (o + 2))] ha2 (m_Tally_mean C.inj a2 ha2 M3 q4 hq4) ci_Tally_mean rfl lk_X4_71 (by decide) rfl rfl (Nat.le_of_ble_eq_true rfl) dX4_settle_35 ?_
    obtain ⟨g5, h⟩ := gd_h h
    refine v_fast C (kd_Report_means ho) (ln_Report_means ho) g5 dX4_settle_38 ?_
    refine v_nmm h (fun M6 h => ?_)
    obtain rfl := Option.some.inj h
    exact v_vret C K dX4_settle_39
  · replace h := (ite_h h).2 c8
    refine v_aload_n C 0 dX4_settle_8 rfl ?_
    refine v_iload_n C 1 dX4_settle_9 rfl ?_
    refine p_Report_error C ho fl_X4_26 dX4_settle_10 ?_
    refine v_nmm h (fun M7 h => ?_)
    refine v_goto C 39 dX4_settle_13 (by decide) ?_
    obtain rfl := Option.some.inj h
    exact v_vret C K dX4_settle_39
theorem m_Report_settle {S : SE} (hI : Inj S) (o : Nat) (a2 : Nat) (ho : kd o = 4) (ha2 : kd a2 = 9) (M : Mem) (a1 : Int32) (a3 : Int32) (a4 : Int32) (q : Mem) (h : f_Report_settle o a2 M a1 a3 a4 = some q) : CM S yX4_settle cX4_settle 5 none 2 [.ref (S.2.1 o), .int a1, .ref (S.2.1 a2), .int a3, .int a4] M none q :=
  CM.of [(0, .ref (S.2.1 o)), (1, .int a1), (2, .ref (S.2.1 a2)), (3, .int a3), (4, .int a4)] hI (by decide) rfl (Nat.le_of_ble_eq_true rfl) (fun X C K => v_Report_settle C K ho ha2 h)
def f_Report_answerOf (o : Nat) (M : Mem) (a1 : Int32) : Option Int32 :=
  if (M o 4) = (-1) then
    if gin a1 10 then
      some (M (o + 1) a1.toNatClampNeg)
    else none
  else
    some (-3)
set_option maxRecDepth 20000 in
theorem v_Report_answerOf {S : SE} {X : MX} {q : Int32} {o : Nat} {M : Mem} {a1 : Int32} (C : CX S X cX4_answerOf 2 RX4 0) (K : RT S X (some .int) (some (.int q)) M) (ho : kd o = 4) (h : f_Report_answerOf o M a1 = some q) : V S X 2 M 0 [(0, .ref (S.2.1 o)), (1, .int a1)] [] := by
  unfold f_Report_answerOf at h
  refine v_aload_n C 0 dX4_answerOf_0 rfl ?_
  refine g_Report_error C ho fl_X4_26 dX4_answerOf_1 ?_
  refine v_iconst C (-1) dX4_answerOf_4 rfl ?_
  refine v_icmp_ne C 17 dX4_answerOf_5 (by decide) (fun c2 => ?_) (fun c2 => ?_)
  · replace h := (ite_h h).2 c2
    refine v_bipush C (-3) dX4_answerOf_17 rfl ?_
    obtain rfl := Option.some.inj h
    exact v_iret C K dX4_answerOf_19
  · replace h := (ite_h h).1 c2
    refine v_aload_n C 0 dX4_answerOf_8 rfl ?_
    refine g_Report_answers C ho fl_X4_9 dX4_answerOf_9 ?_
    refine v_iload_n C 1 dX4_answerOf_12 rfl ?_
    obtain ⟨g1, h⟩ := gd_h h
    refine v_iald C (kd_Report_answers ho) (ln_Report_answers ho) g1 dX4_answerOf_13 ?_
    refine v_goto C 19 dX4_answerOf_14 (by decide) ?_
    obtain rfl := Option.some.inj h
    exact v_iret C K dX4_answerOf_19
theorem m_Report_answerOf {S : SE} (hI : Inj S) (o : Nat) (ho : kd o = 4) (M : Mem) (a1 : Int32) (q : Int32) (h : f_Report_answerOf o M a1 = some q) : CM S yX4_answerOf cX4_answerOf 2 (some .int) 0 [.ref (S.2.1 o), .int a1] M (some (.int q)) M :=
  CM.of [(0, .ref (S.2.1 o)), (1, .int a1)] hI (by decide) rfl (Nat.le_of_ble_eq_true rfl) (fun X C K => v_Report_answerOf C K ho h)
def f_Report_loggedAt (o : Nat) (M : Mem) (a1 : Int32) : Option Int32 :=
  if (f_U_within a1 (M o 3)) = 0 then
    some (-1)
  else
    if gin a1 200 then
      some (M (o + 3) a1.toNatClampNeg)
    else none
set_option maxRecDepth 20000 in
theorem v_Report_loggedAt {S : SE} {X : MX} {q : Int32} {o : Nat} {M : Mem} {a1 : Int32} (C : CX S X cX4_loggedAt 2 RX4 1) (K : RT S X (some .int) (some (.int q)) M) (ho : kd o = 4) (h : f_Report_loggedAt o M a1 = some q) : V S X 2 M 0 [(0, .ref (S.2.1 o)), (1, .int a1)] [] := by
  unfold f_Report_loggedAt at h
  refine v_iload_n C 1 dX4_loggedAt_0 rfl ?_
  refine v_aload_n C 0 dX4_loggedAt_1 rfl ?_
  refine g_Report_logSize C ho fl_X4_22 dX4_loggedAt_2 ?_
  refine csN C [] (m_U_within C.inj M a1 (M o 3) _ rfl) ci_U_within lk_X4_75 (by decide) rfl rfl (Nat.le_of_ble_eq_true rfl) dX4_loggedAt_5 ?_
  refine v_if_eq C 20 dX4_loggedAt_8 (by decide) (fun c2 => ?_) (fun c2 => ?_)
  · replace h := (ite_h h).1 c2
    refine v_iconst C (-1) dX4_loggedAt_20 rfl ?_
    obtain rfl := Option.some.inj h
    exact v_iret C K dX4_loggedAt_21
  · replace h := (ite_h h).2 c2
    refine v_aload_n C 0 dX4_loggedAt_11 rfl ?_
    refine g_Report_logged C ho fl_X4_19 dX4_loggedAt_12 ?_
    refine v_iload_n C 1 dX4_loggedAt_15 rfl ?_
    obtain ⟨g1, h⟩ := gd_h h
    refine v_iald C (kd_Report_logged ho) (ln_Report_logged ho) g1 dX4_loggedAt_16 ?_
    refine v_goto C 21 dX4_loggedAt_17 (by decide) ?_
    obtain rfl := Option.some.inj h
    exact v_iret C K dX4_loggedAt_21
theorem m_Report_loggedAt {S : SE} (hI : Inj S) (o : Nat) (ho : kd o = 4) (M : Mem) (a1 : Int32) (q : Int32) (h : f_Report_loggedAt o M a1 = some q) : CM S yX4_loggedAt cX4_loggedAt 2 (some .int) 1 [.ref (S.2.1 o), .int a1] M (some (.int q)) M :=
  CM.of [(0, .ref (S.2.1 o)), (1, .int a1)] hI (by decide) rfl (Nat.le_of_ble_eq_true rfl) (fun X C K => v_Report_loggedAt C K ho h)
def f_Report_costOf (o : Nat) (M : Mem) (a1 : Int32) : Int32 :=
  if a1 = 0 then
    (M o 5)
  else
  if a1 = 1 then
    (M o 6)
  else
  if a1 = 2 then
    (M o 7)
  else
  if a1 = 3 then
    (M o 9)
  else
  (M o 8)
set_option maxRecDepth 20000 in
theorem v_Report_costOf {S : SE} {X : MX} {q : Int32} {o : Nat} {M : Mem} {a1 : Int32} (C : CX S X cX4_costOf 2 RX4 0) (K : RT S X (some .int) (some (.int q)) M) (ho : kd o = 4) (h : f_Report_costOf o M a1 = q) : V S X 2 M 0 [(0, .ref (S.2.1 o)), (1, .int a1)] [] := by
  unfold f_Report_costOf at h
  refine v_iload_n C 1 dX4_costOf_0 rfl ?_
  by_cases c1 : a1 = 0
  · replace h := (ite_h h).1 c1
    refine v_tableIn C 32 dX4_costOf_1 (by rw [c1]; decide) (by rw [c1]; decide) (by rw [c1]; rfl) (by decide) ?_
    refine v_aload_n C 0 dX4_costOf_32 rfl ?_
    refine g_Report_read C ho fl_X4_29 dX4_costOf_33 ?_
    subst h
    exact v_iret C K dX4_costOf_36
  replace h := (ite_h h).2 c1
  by_cases c2 : a1 = 1
  · replace h := (ite_h h).1 c2
    refine v_tableIn C 37 dX4_costOf_1 (by rw [c2]; decide) (by rw [c2]; decide) (by rw [c2]; rfl) (by decide) ?_
    refine v_aload_n C 0 dX4_costOf_37 rfl ?_
    refine g_Report_handedOn C ho fl_X4_32 dX4_costOf_38 ?_
    subst h
    exact v_iret C K dX4_costOf_41
  replace h := (ite_h h).2 c2
  by_cases c3 : a1 = 2
  · replace h := (ite_h h).1 c3
    refine v_tableIn C 42 dX4_costOf_1 (by rw [c3]; decide) (by rw [c3]; decide) (by rw [c3]; rfl) (by decide) ?_
    refine v_aload_n C 0 dX4_costOf_42 rfl ?_
    refine g_Report_opened C ho fl_X4_35 dX4_costOf_43 ?_
    subst h
    exact v_iret C K dX4_costOf_46
  replace h := (ite_h h).2 c3
  by_cases c4 : a1 = 3
  · replace h := (ite_h h).1 c4
    refine v_tableIn C 47 dX4_costOf_1 (by rw [c4]; decide) (by rw [c4]; decide) (by rw [c4]; rfl) (by decide) ?_
    refine v_aload_n C 0 dX4_costOf_47 rfl ?_
    refine g_Report_mostOpen C ho fl_X4_41 dX4_costOf_48 ?_
    subst h
    exact v_iret C K dX4_costOf_51
  replace h := (ite_h h).2 c4
  refine v_tableOut C 52 dX4_costOf_1 (by
      have := ne_toInt c1 (0 : Int) rfl
      have := ne_toInt c2 (1 : Int) rfl
      have := ne_toInt c3 (2 : Int) rfl
      have := ne_toInt c4 (3 : Int) rfl
      omega) (by decide) ?_
  refine v_aload_n C 0 dX4_costOf_52 rfl ?_
  refine g_Report_open C ho fl_X4_38 dX4_costOf_53 ?_
  subst h
  exact v_iret C K dX4_costOf_56
theorem m_Report_costOf {S : SE} (hI : Inj S) (o : Nat) (ho : kd o = 4) (M : Mem) (a1 : Int32) (q : Int32) (h : f_Report_costOf o M a1 = q) : CM S yX4_costOf cX4_costOf 2 (some .int) 0 [.ref (S.2.1 o), .int a1] M (some (.int q)) M :=
  CM.of [(0, .ref (S.2.1 o)), (1, .int a1)] hI (by decide) rfl (Nat.le_of_ble_eq_true rfl) (fun X C K => v_Report_costOf C K ho h)
def f_Report_isLike_b16 (o : Nat) (a1 : Nat) (M : Mem) : Option Int32 :=
  if (M o 4) = (M a1 4) then
    some 1
  else
    some 0
set_option maxRecDepth 20000 in
theorem v_Report_isLike_b16 {S : SE} {X : MX} {q : Int32} {o : Nat} {a1 : Nat} {M : Mem} (C : CX S X cX4_isLike 4 RX4 0) (K : RT S X (some .boolean) (some (.int q)) M) (ho : kd o = 4) (ha1 : kd a1 = 4) (h : f_Report_isLike_b16 o a1 M = some q) : V S X 4 M 16 [(0, .ref (S.2.1 o)), (1, .ref (S.2.1 a1))] [] := by
  unfold f_Report_isLike_b16 at h
  refine v_aload_n C 0 dX4_isLike_16 rfl ?_
  refine g_Report_error C ho fl_X4_26 dX4_isLike_17 ?_
  refine v_aload_n C 1 dX4_isLike_20 rfl ?_
  refine g_Report_error C ha1 fl_X4_26 dX4_isLike_21 ?_
  refine v_icmp_ne C 31 dX4_isLike_24 (by decide) (fun c1 => ?_) (fun c1 => ?_)
  · replace h := (ite_h h).2 c1
    refine v_iconst C 0 dX4_isLike_31 rfl ?_
    obtain rfl := Option.some.inj h
    exact v_zret C (Or.inl rfl) K dX4_isLike_32
  · replace h := (ite_h h).1 c1
    refine v_iconst C 1 dX4_isLike_27 rfl ?_
    refine v_goto C 32 dX4_isLike_28 (by decide) ?_
    obtain rfl := Option.some.inj h
    exact v_zret C (Or.inr rfl) K dX4_isLike_32
def f_Report_isLike_l35B (o : Nat) (a1 : Nat) (k35 : Int32 → Int32 → Mem → Option Int32) (a2 : Int32) (a3 : Int32) (M : Mem) : Option Int32 :=
  if a2 ≤ a3 then
    some 1
  else
    if gin a3 10 then
      if gin a3 10 then
        if (M (o + 1) a3.toNatClampNeg) = (M (a1 + 1) a3.toNatClampNeg) then
          k35 a2 (a3 + 1) M
        else
          some 0
      else none
    else none
set_option maxRecDepth 20000 in
theorem v_Report_isLike_l35B {S : SE} {X : MX} {q : Int32} {o : Nat} {a1 : Nat} {k35 : Int32 → Int32 → Mem → Option Int32} {a2 : Int32} {a3 : Int32} {M : Mem} (C : CX S X cX4_isLike 4 RX4 0) (K : RT S X (some .boolean) (some (.int q)) M) (ho : kd o = 4) (ha1 : kd a1 = 4) (hk35 : ∀ (a2 : Int32) (a3 : Int32), k35 a2 a3 M = some q → V S X 4 M 35 [(0, .ref (S.2.1 o)), (1, .ref (S.2.1 a1)), (2, .int a2), (3, .int a3)] []) (h : f_Report_isLike_l35B o a1 k35 a2 a3 M = some q) : V S X 4 M 35 [(0, .ref (S.2.1 o)), (1, .ref (S.2.1 a1)), (2, .int a2), (3, .int a3)] [] := by
  unfold f_Report_isLike_l35B at h
  refine v_iload_n C 3 dX4_isLike_35 rfl ?_
  refine v_iload_n C 2 dX4_isLike_36 rfl ?_
  refine v_icmp_ge C 63 dX4_isLike_37 (by decide) (fun c5 => ?_) (fun c5 => ?_)
  · replace h := (ite_h h).1 c5
    refine v_iconst C 1 dX4_isLike_63 rfl ?_
    obtain rfl := Option.some.inj h
    exact v_zret C (Or.inr rfl) K dX4_isLike_64
  · replace h := (ite_h h).2 c5
    refine v_aload_n C 0 dX4_isLike_40 rfl ?_
    refine g_Report_answers C ho fl_X4_9 dX4_isLike_41 ?_
    refine v_iload_n C 3 dX4_isLike_44 rfl ?_
    obtain ⟨g2, h⟩ := gd_h h
    refine v_iald C (kd_Report_answers ho) (ln_Report_answers ho) g2 dX4_isLike_45 ?_
    refine v_aload_n C 1 dX4_isLike_46 rfl ?_
    refine g_Report_answers C ha1 fl_X4_9 dX4_isLike_47 ?_
    refine v_iload_n C 3 dX4_isLike_50 rfl ?_
    obtain ⟨g3, h⟩ := gd_h h
    refine v_iald C (kd_Report_answers ha1) (ln_Report_answers ha1) g3 dX4_isLike_51 ?_
    refine v_icmp_eq C 57 dX4_isLike_52 (by decide) (fun c4 => ?_) (fun c4 => ?_)
    · replace h := (ite_h h).1 c4
      refine v_iinc C [(3, .int (a3 + 1)), (0, .ref (S.2.1 o)), (1, .ref (S.2.1 a1)), (2, .int a2)] 3 (a3 + 1) dX4_isLike_57 rfl rfl (by decide) rfl ?_
      refine v_goto C 35 dX4_isLike_60 (by decide) ?_
      refine v_sub [1, 2, 3, 0] rfl ?_
      exact hk35 _ _ h
    · replace h := (ite_h h).2 c4
      refine v_iconst C 0 dX4_isLike_55 rfl ?_
      obtain rfl := Option.some.inj h
      exact v_zret C (Or.inl rfl) K dX4_isLike_56
def f_Report_isLike_l35 (o : Nat) (a1 : Nat) : Nat → Int32 → Int32 → Mem → Option Int32
  | 0, _, _, _ => none
  | n + 1, a2, a3, M => f_Report_isLike_l35B o a1 (f_Report_isLike_l35 o a1 n) a2 a3 M
theorem v_Report_isLike_l35 {S : SE} {X : MX} {q : Int32} {o : Nat} {a1 : Nat} {M : Mem} (C : CX S X cX4_isLike 4 RX4 0) (K : RT S X (some .boolean) (some (.int q)) M) (ho : kd o = 4) (ha1 : kd a1 = 4) : ∀ (n : Nat) (a2 : Int32) (a3 : Int32), f_Report_isLike_l35 o a1 n a2 a3 M = some q → V S X 4 M 35 [(0, .ref (S.2.1 o)), (1, .ref (S.2.1 a1)), (2, .int a2), (3, .int a3)] [] := by
  intro n
  induction n with
  | zero => intro a2 a3 h; cases h
  | succ n ih => intro a2 a3 h; exact v_Report_isLike_l35B C K ho ha1 ih h
def f_Report_isLike (o : Nat) (a1 : Nat) (M : Mem) (a2 : Int32) : Option Int32 :=
  if (M o 4) = (-1) then
    if (M a1 4) = (-1) then
      f_Report_isLike_l35 o a1 FU a2 0 M
    else
      f_Report_isLike_b16 o a1 M
  else
    f_Report_isLike_b16 o a1 M
set_option maxRecDepth 20000 in
theorem v_Report_isLike {S : SE} {X : MX} {q : Int32} {o : Nat} {a1 : Nat} {M : Mem} {a2 : Int32} (C : CX S X cX4_isLike 4 RX4 0) (K : RT S X (some .boolean) (some (.int q)) M) (ho : kd o = 4) (ha1 : kd a1 = 4) (h : f_Report_isLike o a1 M a2 = some q) : V S X 4 M 0 [(0, .ref (S.2.1 o)), (1, .ref (S.2.1 a1)), (2, .int a2)] [] := by
  unfold f_Report_isLike at h
  refine v_aload_n C 0 dX4_isLike_0 rfl ?_
  refine g_Report_error C ho fl_X4_26 dX4_isLike_1 ?_
  refine v_iconst C (-1) dX4_isLike_4 rfl ?_
  refine v_icmp_ne C 16 dX4_isLike_5 (by decide) (fun c7 => ?_) (fun c7 => ?_)
  · replace h := (ite_h h).2 c7
    refine v_sub [0, 1] rfl ?_
    exact v_Report_isLike_b16 C K ho ha1 h
  · replace h := (ite_h h).1 c7
    refine v_aload_n C 1 dX4_isLike_8 rfl ?_
    refine g_Report_error C ha1 fl_X4_26 dX4_isLike_9 ?_
    refine v_iconst C (-1) dX4_isLike_12 rfl ?_
    refine v_icmp_eq C 33 dX4_isLike_13 (by decide) (fun c6 => ?_) (fun c6 => ?_)
    · replace h := (ite_h h).1 c6
      refine v_iconst C 0 dX4_isLike_33 rfl ?_
      refine v_istore_n C [(3, .int 0), (0, .ref (S.2.1 o)), (1, .ref (S.2.1 a1)), (2, .int a2)] dX4_isLike_34 (by decide) rfl ?_
      refine v_sub [1, 2, 3, 0] rfl ?_
      exact v_Report_isLike_l35 C K ho ha1 FU _ _ h
    · replace h := (ite_h h).2 c6
      refine v_sub [0, 1] rfl ?_
      exact v_Report_isLike_b16 C K ho ha1 h
theorem m_Report_isLike {S : SE} (hI : Inj S) (o : Nat) (a1 : Nat) (ho : kd o = 4) (ha1 : kd a1 = 4) (M : Mem) (a2 : Int32) (q : Int32) (h : f_Report_isLike o a1 M a2 = some q) : CM S yX4_isLike cX4_isLike 4 (some .boolean) 0 [.ref (S.2.1 o), .ref (S.2.1 a1), .int a2] M (some (.int q)) M :=
  CM.of [(0, .ref (S.2.1 o)), (1, .ref (S.2.1 a1)), (2, .int a2)] hI (by decide) rfl (Nat.le_of_ble_eq_true rfl) (fun X C K => v_Report_isLike C K ho ha1 h)
def f_Report_together_b58 (o : Nat) (k19 : Int32 → Int32 → Int32 → UInt32 → Int32 → Mem → Option Int32) (a1 : Int32) (a2 : Int32) (a3 : Int32) (a4 : UInt32) (a5 : Int32) (M : Mem) : Option Int32 :=
  k19 a1 a2 a3 a4 (a5 + 1) M
set_option maxRecDepth 20000 in
theorem v_Report_together_b58 {S : SE} {X : MX} {q : Int32} {o : Nat} {k19 : Int32 → Int32 → Int32 → UInt32 → Int32 → Mem → Option Int32} {a1 : Int32} {a2 : Int32} {a3 : Int32} {a4 : UInt32} {a5 : Int32} {M : Mem} (C : CX S X cX4_together 6 RX4 1) (K : RT S X (some .int) (some (.int q)) M) (ho : kd o = 4) (hk19 : ∀ (a1 : Int32) (a2 : Int32) (a3 : Int32) (a4 : UInt32) (a5 : Int32), k19 a1 a2 a3 a4 a5 M = some q → V S X 6 M 19 [(0, .ref (S.2.1 o)), (1, .int a1), (2, .int a2), (3, .int a3), (4, .float a4), (5, .int a5)] []) (h : f_Report_together_b58 o k19 a1 a2 a3 a4 a5 M = some q) : V S X 6 M 58 [(0, .ref (S.2.1 o)), (1, .int a1), (2, .int a2), (3, .int a3), (4, .float a4), (5, .int a5)] [] := by
  unfold f_Report_together_b58 at h
  refine v_iinc C [(5, .int (a5 + 1)), (0, .ref (S.2.1 o)), (1, .int a1), (2, .int a2), (3, .int a3), (4, .float a4)] 5 (a5 + 1) dX4_together_58 rfl rfl (by decide) rfl ?_
  refine v_goto C 19 dX4_together_61 (by decide) ?_
  refine v_sub [1, 2, 3, 4, 5, 0] rfl ?_
  exact hk19 _ _ _ _ _ h
def f_Report_together_l19B (o : Nat) (k19 : Int32 → Int32 → Int32 → UInt32 → Int32 → Mem → Option Int32) (a1 : Int32) (a2 : Int32) (a3 : Int32) (a4 : UInt32) (a5 : Int32) (M : Mem) : Option Int32 :=
  if a2 ≤ a5 then
    if a1 = 4 then
      (f_U_bitsOf a4).bind fun q1 =>
      some q1
    else
      some a3
  else
    if gin a5 10 then
      if (M (o + 1) a5.toNatClampNeg) = (-1) then
        f_Report_together_b58 o k19 a1 a2 a3 a4 a5 M
      else
        if gin a5 10 then
          bnd (a3 + (M (o + 1) a5.toNatClampNeg)) fun x5 =>
          if gin a5 10 then
            if (FP.fadd a4 ((M (o + 2) a5.toNatClampNeg).toUInt32)) &&& 0x7fffffff ≤ 0x7f800000 then
              bnd (FP.fadd a4 ((M (o + 2) a5.toNatClampNeg).toUInt32)) fun z8 =>
              f_Report_together_b58 o k19 a1 a2 x5 z8 a5 M
            else none
          else none
        else none
    else none
set_option maxRecDepth 20000 in
theorem v_Report_together_l19B {S : SE} {X : MX} {q : Int32} {o : Nat} {k19 : Int32 → Int32 → Int32 → UInt32 → Int32 → Mem → Option Int32} {a1 : Int32} {a2 : Int32} {a3 : Int32} {a4 : UInt32} {a5 : Int32} {M : Mem} (C : CX S X cX4_together 6 RX4 1) (K : RT S X (some .int) (some (.int q)) M) (ho : kd o = 4) (hk19 : ∀ (a1 : Int32) (a2 : Int32) (a3 : Int32) (a4 : UInt32) (a5 : Int32), k19 a1 a2 a3 a4 a5 M = some q → V S X 6 M 19 [(0, .ref (S.2.1 o)), (1, .int a1), (2, .int a2), (3, .int a3), (4, .float a4), (5, .int a5)] []) (h : f_Report_together_l19B o k19 a1 a2 a3 a4 a5 M = some q) : V S X 6 M 19 [(0, .ref (S.2.1 o)), (1, .int a1), (2, .int a2), (3, .int a3), (4, .float a4), (5, .int a5)] [] := by
  unfold f_Report_together_l19B at h
  refine v_iload C 5 dX4_together_19 rfl ?_
  refine v_iload_n C 2 dX4_together_21 rfl ?_
  refine v_icmp_ge C 64 dX4_together_22 (by decide) (fun c10 => ?_) (fun c10 => ?_)
  · replace h := (ite_h h).1 c10
    refine v_iload_n C 1 dX4_together_64 rfl ?_
    refine v_iconst C 4 dX4_together_65 rfl ?_
    refine v_icmp_ne C 77 dX4_together_66 (by decide) (fun c2 => ?_) (fun c2 => ?_)
    · replace h := (ite_h h).2 c2
      refine v_iload_n C 3 dX4_together_77 rfl ?_
      obtain rfl := Option.some.inj h
      exact v_iret C K dX4_together_78
    · replace h := (ite_h h).1 c2
      refine v_fload C 4 dX4_together_69 rfl ?_
      obtain ⟨q1, hq1, h⟩ := Option.bind_eq_some_iff.mp h
      refine csN C [] (m_U_bitsOf C.inj M a4 q1 hq1) ci_U_bitsOf lk_X4_79 (by decide) rfl rfl (Nat.le_of_ble_eq_true rfl) dX4_together_71 ?_
      refine v_goto C 78 dX4_together_74 (by decide) ?_
      obtain rfl := Option.some.inj h
      exact v_iret C K dX4_together_78
  · replace h := (ite_h h).2 c10
    refine v_aload_n C 0 dX4_together_25 rfl ?_
    refine g_Report_answers C ho fl_X4_9 dX4_together_26 ?_
    refine v_iload C 5 dX4_together_29 rfl ?_
    obtain ⟨g3, h⟩ := gd_h h
    refine v_iald C (kd_Report_answers ho) (ln_Report_answers ho) g3 dX4_together_31 ?_
    refine v_iconst C (-1) dX4_together_32 rfl ?_
    refine v_icmp_eq C 58 dX4_together_33 (by decide) (fun c9 => ?_) (fun c9 => ?_)
    · replace h := (ite_h h).1 c9
      exact v_Report_together_b58 C K ho hk19 h
    · replace h := (ite_h h).2 c9
      refine v_iload_n C 3 dX4_together_36 rfl ?_
      refine v_aload_n C 0 dX4_together_37 rfl ?_
      refine g_Report_answers C ho fl_X4_9 dX4_together_38 ?_
      refine v_iload C 5 dX4_together_41 rfl ?_
      obtain ⟨g4, h⟩ := gd_h h
      refine v_iald C (kd_Report_answers ho) (ln_Report_answers ho) g4 dX4_together_43 ?_
      refine v_iadd C dX4_together_44 ?_
      refine v_nmi h (fun x5 h => ?_)
      refine v_istore_n C [(3, .int x5), (0, .ref (S.2.1 o)), (1, .int a1), (2, .int a2), (4, .float a4), (5, .int a5)] dX4_together_45 (by decide) rfl ?_
      refine v_fload C 4 dX4_together_46 rfl ?_
      refine v_aload_n C 1 dX4_together_48 rfl ?_
      refine g_Report_means C ho fl_X4_15 dX4_together_49 ?_
      refine v_iload C 5 dX4_together_52 rfl ?_
      obtain ⟨g6, h⟩ := gd_h h
      refine v_fald C (kd_Report_means ho) (ln_Report_means ho) g6 dX4_together_54 ?_
      obtain ⟨g7, h⟩ := gd_h h
      refine v_fadd C g7 dX4_together_55 ?_
      refine v_nmf h (fun z8 h => ?_)
      refine v_fstore C [(4, .float z8), (3, .int x5), (0, .ref (S.2.1 o)), (1, .int a1), (2, .int a2), (5, .int a5)] dX4_together_56 (by decide) rfl ?_
      refine v_sub [2, 3, 4, 1, 0, 5] rfl ?_
      exact v_Report_together_b58 C K ho hk19 h
def f_Report_together_l19 (o : Nat) : Nat → Int32 → Int32 → Int32 → UInt32 → Int32 → Mem → Option Int32
  | 0, _, _, _, _, _, _ => none
  | n + 1, a1, a2, a3, a4, a5, M => f_Report_together_l19B o (f_Report_together_l19 o n) a1 a2 a3 a4 a5 M
theorem v_Report_together_l19 {S : SE} {X : MX} {q : Int32} {o : Nat} {M : Mem} (C : CX S X cX4_together 6 RX4 1) (K : RT S X (some .int) (some (.int q)) M) (ho : kd o = 4) : ∀ (n : Nat) (a1 : Int32) (a2 : Int32) (a3 : Int32) (a4 : UInt32) (a5 : Int32), f_Report_together_l19 o n a1 a2 a3 a4 a5 M = some q → V S X 6 M 19 [(0, .ref (S.2.1 o)), (1, .int a1), (2, .int a2), (3, .int a3), (4, .float a4), (5, .int a5)] [] := by
  intro n
  induction n with
  | zero => intro a1 a2 a3 a4 a5 h; cases h
  | succ n ih => intro a1 a2 a3 a4 a5 h; exact v_Report_together_l19B C K ho ih h
def f_Report_together (o : Nat) (M : Mem) (a1 : Int32) (a2 : Int32) : Option Int32 :=
  if (M o 4) = (-1) then
    f_Report_together_l19 o FU a1 a2 0 FP.fconst0 0 M
  else
    some (-3)
set_option maxRecDepth 20000 in
theorem v_Report_together {S : SE} {X : MX} {q : Int32} {o : Nat} {M : Mem} {a1 : Int32} {a2 : Int32} (C : CX S X cX4_together 6 RX4 1) (K : RT S X (some .int) (some (.int q)) M) (ho : kd o = 4) (h : f_Report_together o M a1 a2 = some q) : V S X 6 M 0 [(0, .ref (S.2.1 o)), (1, .int a1), (2, .int a2)] [] := by
  unfold f_Report_together at h
  refine v_aload_n C 0 dX4_together_0 rfl ?_
  refine g_Report_error C ho fl_X4_26 dX4_together_1 ?_
  refine v_iconst C (-1) dX4_together_4 rfl ?_
  refine v_icmp_eq C 11 dX4_together_5 (by decide) (fun c11 => ?_) (fun c11 => ?_)
  · replace h := (ite_h h).1 c11
    refine v_iconst C 0 dX4_together_11 rfl ?_
    refine v_istore_n C [(3, .int 0), (0, .ref (S.2.1 o)), (1, .int a1), (2, .int a2)] dX4_together_12 (by decide) rfl ?_
    refine v_fconst0 C dX4_together_13 ?_
    refine v_fstore C [(4, .float FP.fconst0), (3, .int 0), (0, .ref (S.2.1 o)), (1, .int a1), (2, .int a2)] dX4_together_14 (by decide) rfl ?_
    refine v_iconst C 0 dX4_together_16 rfl ?_
    refine v_istore C [(5, .int 0), (4, .float FP.fconst0), (3, .int 0), (0, .ref (S.2.1 o)), (1, .int a1), (2, .int a2)] dX4_together_17 (by decide) rfl ?_
    refine v_sub [3, 4, 5, 2, 1, 0] rfl ?_
    exact v_Report_together_l19 C K ho FU _ _ _ _ _ h
  · replace h := (ite_h h).2 c11
    refine v_bipush C (-3) dX4_together_8 rfl ?_
    obtain rfl := Option.some.inj h
    exact v_iret C K dX4_together_10
theorem m_Report_together {S : SE} (hI : Inj S) (o : Nat) (ho : kd o = 4) (M : Mem) (a1 : Int32) (a2 : Int32) (q : Int32) (h : f_Report_together o M a1 a2 = some q) : CM S yX4_together cX4_together 6 (some .int) 1 [.ref (S.2.1 o), .int a1, .int a2] M (some (.int q)) M :=
  CM.of [(0, .ref (S.2.1 o)), (1, .int a1), (2, .int a2)] hI (by decide) rfl (Nat.le_of_ble_eq_true rfl) (fun X C K => v_Report_together C K ho h)
def f_Run_begin (o : Nat) (M : Mem) : Option Mem :=
  bnd (mset M o 5 0) fun M1 =>
  (f_Kept_clear M1).bind fun q2 =>
  (f_Report_openAll (o + 8) (o + 1) q2).bind fun q3 =>
  some q3
set_option maxRecDepth 20000 in
theorem v_Run_begin {S : SE} {X : MX} {q : Mem} {o : Nat} {M : Mem} (C : CX S X cX5_begin 1 RX5 2) (K : RT S X none none q) (ho : kd o = 5) (h : f_Run_begin o M = some q) : V S X 1 M 0 [(0, .ref (S.2.1 o))] [] := by
  unfold f_Run_begin at h
  refine v_aload_n C 0 dX5_begin_0 rfl ?_
  refine v_iconst C 0 dX5_begin_1 rfl ?_
  refine p_Run_arrived C ho fl_X5_37 dX5_begin_2 ?_
  refine v_nmm h (fun M1 h => ?_)
  refine v_aload_n C 0 dX5_begin_5 rfl ?_
  refine g_Run_kept C ho fl_X5_40 dX5_begin_6 ?_
  obtain ⟨q2, hq2, h⟩ := Option.bind_eq_some_iff.mp h
  refine cv1v C [] kk27 (m_Kept_clear C.inj M1 q2 hq2) ci_Kept_clear rfl lk_X5_133 (by decide) rfl rfl (Nat.le_of_ble_eq_true rfl) dX5_begin_9 ?_
  refine v_aload_n C 0 dX5_begin_12 rfl ?_
  refine g_Run_report C ho fl_X5_28 dX5_begin_13 ?_
  refine v_aload_n C 0 dX5_begin_16 rfl ?_
  refine g_Run_course C ho fl_X5_12 dX5_begin_17 ?_
  obtain ⟨q3, hq3, h⟩ := Option.bind_eq_some_iff.mp h
  refine cv4v C [] (kd_Run_report ho) (m_Report_openAll C.inj (o + 8) (o + 1) (kd_Run_report ho) (kd_Run_course ho) q2 q3 hq3) ci_Report_openAll rfl lk_X5_134 (by decide) rfl rfl (Nat.le_of_ble_eq_true rfl) dX5_begin_20 ?_
  obtain rfl := Option.some.inj h
  exact v_vret C K dX5_begin_23
theorem m_Run_begin {S : SE} (hI : Inj S) (o : Nat) (ho : kd o = 5) (M : Mem) (q : Mem) (h : f_Run_begin o M = some q) : CM S yX5_begin cX5_begin 1 none 2 [.ref (S.2.1 o)] M none q :=
  CM.of [(0, .ref (S.2.1 o))] hI (by decide) rfl (Nat.le_of_ble_eq_true rfl) (fun X C K => v_Run_begin C K ho h)
def f_Run_packed (a0 : Int32) (a1 : Int32) (a2 : Int32) : Int32 :=
  (((a2 <<< (20 &&& 31)) ||| ((a1 + 1) <<< (8 &&& 31))) ||| (a0 + 1))
set_option maxRecDepth 20000 in
theorem v_Run_packed {S : SE} {X : MX} {q : Int32} {M : Mem} {a0 : Int32} {a1 : Int32} {a2 : Int32} (C : CX S X cX5_packed 3 RX5 0) (K : RT S X (some .int) (some (.int q)) M) (h : f_Run_packed a0 a1 a2 = q) : V S X 3 M 0 [(0, .int a0), (1, .int a1), (2, .int a2)] [] := by
  unfold f_Run_packed at h
  refine v_iload_n C 2 dX5_packed_0 rfl ?_
  refine v_bipush C 20 dX5_packed_1 rfl ?_
  refine v_ishl C dX5_packed_3 ?_
  refine v_iload_n C 1 dX5_packed_4 rfl ?_
  refine v_iconst C 1 dX5_packed_5 rfl ?_
  refine v_iadd C dX5_packed_6 ?_
  refine v_bipush C 8 dX5_packed_7 rfl ?_
  refine v_ishl C dX5_packed_9 ?_
  refine v_ior C dX5_packed_10 ?_
  refine v_iload_n C 0 dX5_packed_11 rfl ?_
  refine v_iconst C 1 dX5_packed_12 rfl ?_
  refine v_iadd C dX5_packed_13 ?_
  refine v_ior C dX5_packed_14 ?_
  subst h
  exact v_iret C K dX5_packed_15
theorem m_Run_packed {S : SE} (hI : Inj S) (M : Mem) (a0 : Int32) (a1 : Int32) (a2 : Int32) (q : Int32) (h : f_Run_packed a0 a1 a2 = q) : CM S yX5_packed cX5_packed 3 (some .int) 0 [.int a0, .int a1, .int a2] M (some (.int q)) M :=
  CM.of [(0, .int a0), (1, .int a1), (2, .int a2)] hI (by decide) rfl (Nat.le_of_ble_eq_true rfl) (fun X C K => v_Run_packed C K  h)
def f_Run_keyOf (a0 : Int32) : Int32 :=
  ((a0 &&& 255) - 1)
set_option maxRecDepth 20000 in
theorem v_Run_keyOf {S : SE} {X : MX} {q : Int32} {M : Mem} {a0 : Int32} (C : CX S X cX5_keyOf 1 RX5 0) (K : RT S X (some .int) (some (.int q)) M) (h : f_Run_keyOf a0 = q) : V S X 1 M 0 [(0, .int a0)] [] := by
  unfold f_Run_keyOf at h
  refine v_iload_n C 0 dX5_keyOf_0 rfl ?_
  refine v_sipush C 255 dX5_keyOf_1 rfl ?_
  refine v_iand C dX5_keyOf_4 ?_
  refine v_iconst C 1 dX5_keyOf_5 rfl ?_
  refine v_isub C dX5_keyOf_6 ?_
  subst h
  exact v_iret C K dX5_keyOf_7
theorem m_Run_keyOf {S : SE} (hI : Inj S) (M : Mem) (a0 : Int32) (q : Int32) (h : f_Run_keyOf a0 = q) : CM S yX5_keyOf cX5_keyOf 1 (some .int) 0 [.int a0] M (some (.int q)) M :=
  CM.of [(0, .int a0)] hI (by decide) rfl (Nat.le_of_ble_eq_true rfl) (fun X C K => v_Run_keyOf C K  h)
def f_Run_valueOf (a0 : Int32) : Int32 :=
  (((a0 >>> (8 &&& 31)) &&& 4095) - 1)
set_option maxRecDepth 20000 in
theorem v_Run_valueOf {S : SE} {X : MX} {q : Int32} {M : Mem} {a0 : Int32} (C : CX S X cX5_valueOf 1 RX5 0) (K : RT S X (some .int) (some (.int q)) M) (h : f_Run_valueOf a0 = q) : V S X 1 M 0 [(0, .int a0)] [] := by
  unfold f_Run_valueOf at h
  refine v_iload_n C 0 dX5_valueOf_0 rfl ?_
  refine v_bipush C 8 dX5_valueOf_1 rfl ?_
  refine v_ishr C dX5_valueOf_3 ?_
  refine v_sipush C 4095 dX5_valueOf_4 rfl ?_
  refine v_iand C dX5_valueOf_7 ?_
  refine v_iconst C 1 dX5_valueOf_8 rfl ?_
  refine v_isub C dX5_valueOf_9 ?_
  subst h
  exact v_iret C K dX5_valueOf_10
theorem m_Run_valueOf {S : SE} (hI : Inj S) (M : Mem) (a0 : Int32) (q : Int32) (h : f_Run_valueOf a0 = q) : CM S yX5_valueOf cX5_valueOf 1 (some .int) 0 [.int a0] M (some (.int q)) M :=
  CM.of [(0, .int a0)] hI (by decide) rfl (Nat.le_of_ble_eq_true rfl) (fun X C K => v_Run_valueOf C K  h)
def f_Run_through_b91 (o : Nat) (M : Mem) : Option (Int32 × Mem) :=
  some ((-1), M)
set_option maxRecDepth 20000 in
theorem v_Run_through_b91 {S : SE} {X : MX} {q : (Int32 × Mem)} {o : Nat} {M : Mem} (C : CX S X cX5_through 6 RX5 1) (K : RT S X (some .int) (some (.int q.1)) q.2) (ho : kd o = 5) (h : f_Run_through_b91 o M = some q) : V S X 6 M 91 [] [] := by
  unfold f_Run_through_b91 at h
  refine v_iconst C (-1) dX5_through_91 rfl ?_
  obtain rfl := Option.some.inj h
  exact v_iret C K dX5_through_92
def f_Run_through_b108 (o : Nat) (M : Mem) : Option (Int32 × Mem) :=
  some ((-1), M)
set_option maxRecDepth 20000 in
theorem v_Run_through_b108 {S : SE} {X : MX} {q : (Int32 × Mem)} {o : Nat} {M : Mem} (C : CX S X cX5_through 6 RX5 1) (K : RT S X (some .int) (some (.int q.1)) q.2) (ho : kd o = 5) (h : f_Run_through_b108 o M = some q) : V S X 6 M 108 [] [] := by
  unfold f_Run_through_b108 at h
  refine v_iconst C (-1) dX5_through_108 rfl ?_
  obtain rfl := Option.some.inj h
  exact v_iret C K dX5_through_109
def f_Run_through_b132 (o : Nat) (a2 : Int32) (s0 : Int32) (s1 : Int32) (M : Mem) : Option (Int32 × Mem) :=
  some ((f_Run_packed s1 s0 (a2 >>> (20 &&& 31))), M)
set_option maxRecDepth 20000 in
theorem v_Run_through_b132 {S : SE} {X : MX} {q : (Int32 × Mem)} {o : Nat} {a2 : Int32} {s0 : Int32} {s1 : Int32} {M : Mem} (C : CX S X cX5_through 6 RX5 1) (K : RT S X (some .int) (some (.int q.1)) q.2) (ho : kd o = 5) (h : f_Run_through_b132 o a2 s0 s1 M = some q) : V S X 6 M 132 [(2, .int a2)] [.int s0, .int s1] := by
  unfold f_Run_through_b132 at h
  refine v_iload_n C 0 dX5_through_132 rfl ?_
  refine v_bipush C 20 dX5_through_133 rfl ?_
  refine v_ishr C dX5_through_135 ?_
  refine cs C [] (m_Run_packed C.inj M s1 s0 (a2 >>> (20 &&& 31)) _ rfl) ci_Run_packed lk_X5_143 (by decide) rfl rfl (Nat.le_of_ble_eq_true rfl) dX5_through_136 ?_
  obtain rfl := Option.some.inj h
  exact v_iret C K dX5_through_139
def f_Run_through_b123 (o : Nat) (a2 : Int32) (s0 : Int32) (M : Mem) : Option (Int32 × Mem) :=
  f_Run_through_b132 o a2 (-1) s0 M
set_option maxRecDepth 20000 in
theorem v_Run_through_b123 {S : SE} {X : MX} {q : (Int32 × Mem)} {o : Nat} {a2 : Int32} {s0 : Int32} {M : Mem} (C : CX S X cX5_through 6 RX5 1) (K : RT S X (some .int) (some (.int q.1)) q.2) (ho : kd o = 5) (h : f_Run_through_b123 o a2 s0 M = some q) : V S X 6 M 123 [(2, .int a2)] [.int s0] := by
  unfold f_Run_through_b123 at h
  refine v_iconst C (-1) dX5_through_123 rfl ?_
  refine v_goto C 132 dX5_through_124 (by decide) ?_
  exact v_Run_through_b132 C K ho h
def f_Run_through_b193 (o : Nat) (M : Mem) : Option (Int32 × Mem) :=
  some ((-1), M)
set_option maxRecDepth 20000 in
theorem v_Run_through_b193 {S : SE} {X : MX} {q : (Int32 × Mem)} {o : Nat} {M : Mem} (C : CX S X cX5_through 6 RX5 1) (K : RT S X (some .int) (some (.int q.1)) q.2) (ho : kd o = 5) (h : f_Run_through_b193 o M = some q) : V S X 6 M 193 [] [] := by
  unfold f_Run_through_b193 at h
  refine v_iconst C (-1) dX5_through_193 rfl ?_
  obtain rfl := Option.some.inj h
  exact v_iret C K dX5_through_194
def f_Run_through (o : Nat) (M : Mem) (a1 : Int32) (a2 : Int32) : Option (Int32 × Mem) :=
  bnd (f_Run_keyOf a2) fun x1 =>
  bnd (f_Run_valueOf a2) fun x2 =>
  (f_Pairs_keyAt (o + 4) M (a2 >>> (20 &&& 31))).bind fun q3 =>
  if gin a1 14 then
    if (M ((o + 1) + 1) a1.toNatClampNeg) = 1 then
      if x1 = (-1) then
        f_Run_through_b91 o M
      else
        if x1 = q3 then
          some (a2, M)
        else
          f_Run_through_b91 o M
    else
    if (M ((o + 1) + 1) a1.toNatClampNeg) = 2 then
      if x1 = (-1) then
        f_Run_through_b108 o M
      else
        if q3 ≤ x1 then
          f_Run_through_b108 o M
        else
          some (a2, M)
    else
    if (M ((o + 1) + 1) a1.toNatClampNeg) = 3 then
      if x2 = (-1) then
        f_Run_through_b123 o a2 x1 M
      else
        if q3 = (-1) then
          f_Run_through_b123 o a2 x1 M
        else
          f_Run_through_b132 o a2 (x2 + q3) x1 M
    else
    if (M ((o + 1) + 1) a1.toNatClampNeg) = 4 then
      some (a2, M)
    else
    if (M ((o + 1) + 1) a1.toNatClampNeg) = 5 then
      (f_Kept_isNew M a1 a2).bind fun q16 =>
      if q16.1 = 0 then
        some ((-1), q16.2)
      else
        some (a2, q16.2)
    else
    if (M ((o + 1) + 1) a1.toNatClampNeg) = 6 then
      (f_Kept_addToGroup M a1 a2).bind fun q19 =>
      some ((-1), q19)
    else
    if (M ((o + 1) + 1) a1.toNatClampNeg) = 7 then
      if x2 = (-1) then
        f_Run_through_b193 o M
      else
        if gin a1 14 then
          if x2 < (M ((o + 1) + 2) a1.toNatClampNeg) then
            f_Run_through_b193 o M
          else
            some (a2, M)
        else none
    else
    some (a2, M)
  else none
set_option maxRecDepth 20000 in
theorem v_Run_through {S : SE} {X : MX} {q : (Int32 × Mem)} {o : Nat} {M : Mem} {a1 : Int32} {a2 : Int32} (C : CX S X cX5_through 6 RX5 1) (K : RT S X (some .int) (some (.int q.1)) q.2) (ho : kd o = 5) (h : f_Run_through o M a1 a2 = some q) : V S X 6 M 0 [(0, .ref (S.2.1 o)), (1, .int a1), (2, .int a2)] [] := by
  unfold f_Run_through at h
  refine v_iload_n C 2 dX5_through_0 rfl ?_
  refine cs C [] (m_Run_keyOf C.inj M a2 _ rfl) ci_Run_keyOf lk_X5_175 (by decide) rfl rfl (Nat.le_of_ble_eq_true rfl) dX5_through_1 ?_
  refine v_nmi h (fun x1 h => ?_)
  refine v_istore_n C [(3, .int x1), (0, .ref (S.2.1 o)), (1, .int a1), (2, .int a2)] dX5_through_4 (by decide) rfl ?_
  refine v_iload_n C 3 dX5_through_5 rfl ?_
  refine cs C [] (m_Run_valueOf C.inj M a2 _ rfl) ci_Run_valueOf lk_X5_183 (by decide) rfl rfl (Nat.le_of_ble_eq_true rfl) dX5_through_6 ?_
  refine v_nmi h (fun x2 h => ?_)
  refine v_istore C [(4, .int x2), (3, .int x1), (0, .ref (S.2.1 o)), (1, .int a1), (2, .int a2)] dX5_through_9 (by decide) rfl ?_
  refine v_aload_n C 2 dX5_through_11 rfl ?_
  refine g_Run_pairs C ho fl_X5_21 dX5_through_12 ?_
  refine v_iload_n C 4 dX5_through_15 rfl ?_
  refine v_bipush C 20 dX5_through_16 rfl ?_
  refine v_ishr C dX5_through_18 ?_
  obtain ⟨q3, hq3, h⟩ := Option.bind_eq_some_iff.mp h
  refine cv2 C [] (kd_Run_pairs ho) (m_Pairs_keyAt C.inj (o + 4) (kd_Run_pairs ho) M (a2 >>> (20 &&& 31)) q3 hq3) ci_Pairs_keyAt rfl lk_X5_186 (by decide) rfl rfl (Nat.le_of_ble_eq_true rfl) dX5_through_19 ?_
  refine v_istore C [(5, .int q3), (4, .int x2), (3, .int x1), (0, .ref (S.2.1 o)), (1, .int a1), (2, .int a2)] dX5_through_22 (by decide) rfl ?_
  refine v_aload_n C 3 dX5_through_24 rfl ?_
  refine g_Run_course C ho fl_X5_12 dX5_through_25 ?_
  refine g_Course_codes C (kd_Run_course ho) fl_X5_151 dX5_through_28 ?_
  refine v_iload_n C 4 dX5_through_31 rfl ?_
  obtain ⟨g4, h⟩ := gd_h h
  refine v_iald C (kd_Course_codes (kd_Run_course ho)) (ln_Course_codes (kd_Run_course ho)) g4 dX5_through_32 ?_
  by_cases c5 : (M ((o + 1) + 1) a1.toNatClampNeg) = 1
  · replace h := (ite_h h).1 c5
    refine v_tableIn C 76 dX5_through_33 (by rw [c5]; decide) (by rw [c5]; decide) (by rw [c5]; rfl) (by decide) ?_
    refine v_iload_n C 2 dX5_through_76 rfl ?_
    refine v_iconst C (-1) dX5_through_77 rfl ?_
    refine v_icmp_eq C 91 dX5_through_78 (by decide) (fun c7 => ?_) (fun c7 => ?_)
    · replace h := (ite_h h).1 c7
      refine v_sub [] rfl ?_
      exact v_Run_through_b91 C K ho h
    · replace h := (ite_h h).2 c7
      refine v_iload_n C 2 dX5_through_81 rfl ?_
      refine v_iload C 0 dX5_through_82 rfl ?_
      refine v_icmp_ne C 91 dX5_through_84 (by decide) (fun c6 => ?_) (fun c6 => ?_)
      · replace h := (ite_h h).2 c6
        refine v_sub [] rfl ?_
        exact v_Run_through_b91 C K ho h
      · replace h := (ite_h h).1 c6
        refine v_iload_n C 5 dX5_through_87 rfl ?_
        refine v_goto C 92 dX5_through_88 (by decide) ?_
        obtain rfl := Option.some.inj h
        exact v_iret C K dX5_through_92
  replace h := (ite_h h).2 c5
  by_cases c8 : (M ((o + 1) + 1) a1.toNatClampNeg) = 2
  · replace h := (ite_h h).1 c8
    refine v_tableIn C 93 dX5_through_33 (by rw [c8]; decide) (by rw [c8]; decide) (by rw [c8]; rfl) (by decide) ?_
    refine v_iload_n C 2 dX5_through_93 rfl ?_
    refine v_iconst C (-1) dX5_through_94 rfl ?_
    refine v_icmp_eq C 108 dX5_through_95 (by decide) (fun c10 => ?_) (fun c10 => ?_)
    · replace h := (ite_h h).1 c10
      refine v_sub [] rfl ?_
      exact v_Run_through_b108 C K ho h
    · replace h := (ite_h h).2 c10
      refine v_iload_n C 2 dX5_through_98 rfl ?_
      refine v_iload C 0 dX5_through_99 rfl ?_
      refine v_icmp_ge C 108 dX5_through_101 (by decide) (fun c9 => ?_) (fun c9 => ?_)
      · replace h := (ite_h h).1 c9
        refine v_sub [] rfl ?_
        exact v_Run_through_b108 C K ho h
      · replace h := (ite_h h).2 c9
        refine v_iload_n C 5 dX5_through_104 rfl ?_
        refine v_goto C 109 dX5_through_105 (by decide) ?_
        obtain rfl := Option.some.inj h
        exact v_iret C K dX5_through_109
  replace h := (ite_h h).2 c8
  by_cases c11 : (M ((o + 1) + 1) a1.toNatClampNeg) = 3
  · replace h := (ite_h h).1 c11
    refine v_tableIn C 110 dX5_through_33 (by rw [c11]; decide) (by rw [c11]; decide) (by rw [c11]; rfl) (by decide) ?_
    refine v_iload_n C 2 dX5_through_110 rfl ?_
    refine v_iload C 1 dX5_through_111 rfl ?_
    refine v_iconst C (-1) dX5_through_113 rfl ?_
    refine v_icmp_eq C 123 dX5_through_114 (by decide) (fun c13 => ?_) (fun c13 => ?_)
    · replace h := (ite_h h).1 c13
      refine v_sub [5] rfl ?_
      exact v_Run_through_b123 C K ho h
    · replace h := (ite_h h).2 c13
      refine v_iload C 0 dX5_through_117 rfl ?_
      refine v_iconst C (-1) dX5_through_119 rfl ?_
      refine v_icmp_ne C 127 dX5_through_120 (by decide) (fun c12 => ?_) (fun c12 => ?_)
      · replace h := (ite_h h).2 c12
        refine v_iload C 1 dX5_through_127 rfl ?_
        refine v_iload C 0 dX5_through_129 rfl ?_
        refine v_iadd C dX5_through_131 ?_
        refine v_sub [5] rfl ?_
        exact v_Run_through_b132 C K ho h
      · replace h := (ite_h h).1 c12
        refine v_sub [5] rfl ?_
        exact v_Run_through_b123 C K ho h
  replace h := (ite_h h).2 c11
  by_cases c14 : (M ((o + 1) + 1) a1.toNatClampNeg) = 4
  · replace h := (ite_h h).1 c14
    refine v_tableIn C 195 dX5_through_33 (by rw [c14]; decide) (by rw [c14]; decide) (by rw [c14]; rfl) (by decide) ?_
    refine v_iload_n C 5 dX5_through_195 rfl ?_
    obtain rfl := Option.some.inj h
    exact v_iret C K dX5_through_196
  replace h := (ite_h h).2 c14
  by_cases c15 : (M ((o + 1) + 1) a1.toNatClampNeg) = 5
  · replace h := (ite_h h).1 c15
    refine v_tableIn C 140 dX5_through_33 (by rw [c15]; decide) (by rw [c15]; decide) (by rw [c15]; rfl) (by decide) ?_
    refine v_aload_n C 3 dX5_through_140 rfl ?_
    refine g_Run_kept C ho fl_X5_40 dX5_through_141 ?_
    refine v_iload_n C 4 dX5_through_144 rfl ?_
    refine v_iload_n C 5 dX5_through_145 rfl ?_
    obtain ⟨q16, hq16, h⟩ := Option.bind_eq_some_iff.mp h
    refine cv1 C [] kk27 (m_Kept_isNew C.inj M a1 a2 q16 hq16) ci_Kept_isNew rfl lk_X5_189 (by decide) rfl rfl (Nat.le_of_ble_eq_true rfl) dX5_through_146 ?_
    refine v_if_eq C 156 dX5_through_149 (by decide) (fun c17 => ?_) (fun c17 => ?_)
    · replace h := (ite_h h).1 c17
      refine v_iconst C (-1) dX5_through_156 rfl ?_
      obtain rfl := Option.some.inj h
      exact v_iret C K dX5_through_157
    · replace h := (ite_h h).2 c17
      refine v_iload_n C 5 dX5_through_152 rfl ?_
      refine v_goto C 157 dX5_through_153 (by decide) ?_
      obtain rfl := Option.some.inj h
      exact v_iret C K dX5_through_157
  replace h := (ite_h h).2 c15
  by_cases c18 : (M ((o + 1) + 1) a1.toNatClampNeg) = 6
  · replace h := (ite_h h).1 c18
    refine v_tableIn C 158 dX5_through_33 (by rw [c18]; decide) (by rw [c18]; decide) (by rw [c18]; rfl) (by decide) ?_
    refine v_aload_n C 3 dX5_through_158 rfl ?_
    refine g_Run_kept C ho fl_X5_40 dX5_through_159 ?_
    refine v_iload_n C 4 dX5_through_162 rfl ?_
    refine v_iload_n C 5 dX5_through_163 rfl ?_
    obtain ⟨q19, hq19, h⟩ := Option.bind_eq_some_iff.mp h
    refine cv1v C [] kk27 (m_Kept_addToGroup C.inj M a1 a2 q19 hq19) ci_Kept_addToGroup rfl lk_X5_192 (by decide) rfl rfl (Nat.le_of_ble_eq_true rfl) dX5_through_164 ?_
    refine v_iconst C (-1) dX5_through_167 rfl ?_
    obtain rfl := Option.some.inj h
    exact v_iret C K dX5_through_168
  replace h := (ite_h h).2 c18
  by_cases c20 : (M ((o + 1) + 1) a1.toNatClampNeg) = 7
  · replace h := (ite_h h).1 c20
    refine v_tableIn C 169 dX5_through_33 (by rw [c20]; decide) (by rw [c20]; decide) (by rw [c20]; rfl) (by decide) ?_
    refine v_iload C 1 dX5_through_169 rfl ?_
    refine v_iconst C (-1) dX5_through_171 rfl ?_
    refine v_icmp_eq C 193 dX5_through_172 (by decide) (fun c23 => ?_) (fun c23 => ?_)
    · replace h := (ite_h h).1 c23
      refine v_sub [] rfl ?_
      exact v_Run_through_b193 C K ho h
    · replace h := (ite_h h).2 c23
      refine v_iload C 1 dX5_through_175 rfl ?_
      refine v_aload_n C 3 dX5_through_177 rfl ?_
      refine g_Run_course C ho fl_X5_12 dX5_through_178 ?_
      refine g_Course_figures C (kd_Run_course ho) fl_X5_195 dX5_through_181 ?_
      refine v_iload_n C 4 dX5_through_184 rfl ?_
      obtain ⟨g21, h⟩ := gd_h h
      refine v_iald C (kd_Course_figures (kd_Run_course ho)) (ln_Course_figures (kd_Run_course ho)) g21 dX5_through_185 ?_
      refine v_icmp_lt C 193 dX5_through_186 (by decide) (fun c22 => ?_) (fun c22 => ?_)
      · replace h := (ite_h h).1 c22
        refine v_sub [] rfl ?_
        exact v_Run_through_b193 C K ho h
      · replace h := (ite_h h).2 c22
        refine v_iload_n C 5 dX5_through_189 rfl ?_
        refine v_goto C 194 dX5_through_190 (by decide) ?_
        obtain rfl := Option.some.inj h
        exact v_iret C K dX5_through_194
  replace h := (ite_h h).2 c20
  refine v_tableOut C 195 dX5_through_33 (by
      have := ne_toInt c5 (1 : Int) rfl
      have := ne_toInt c8 (2 : Int) rfl
      have := ne_toInt c11 (3 : Int) rfl
      have := ne_toInt c14 (4 : Int) rfl
      have := ne_toInt c15 (5 : Int) rfl
      have := ne_toInt c18 (6 : Int) rfl
      have := ne_toInt c20 (7 : Int) rfl
      omega) (by decide) ?_
  refine v_iload_n C 5 dX5_through_195 rfl ?_
  obtain rfl := Option.some.inj h
  exact v_iret C K dX5_through_196
theorem m_Run_through {S : SE} (hI : Inj S) (o : Nat) (ho : kd o = 5) (M : Mem) (a1 : Int32) (a2 : Int32) (q : (Int32 × Mem)) (h : f_Run_through o M a1 a2 = some q) : CM S yX5_through cX5_through 6 (some .int) 1 [.ref (S.2.1 o), .int a1, .int a2] M (some (.int q.1)) q.2 :=
  CM.of [(0, .ref (S.2.1 o)), (1, .int a1), (2, .int a2)] hI (by decide) rfl (Nat.le_of_ble_eq_true rfl) (fun X C K => v_Run_through C K ho h)
def f_Run_pass_b53 (o : Nat) (a4 : Int32) (M : Mem) : Option (Int32 × Mem) :=
  some (a4, M)
set_option maxRecDepth 20000 in
theorem v_Run_pass_b53 {S : SE} {X : MX} {q : (Int32 × Mem)} {o : Nat} {a4 : Int32} {M : Mem} (C : CX S X cX5_pass 6 RX5 2) (K : RT S X (some .int) (some (.int q.1)) q.2) (ho : kd o = 5) (h : f_Run_pass_b53 o a4 M = some q) : V S X 6 M 53 [(4, .int a4)] [] := by
  unfold f_Run_pass_b53 at h
  refine v_iload C 0 dX5_pass_53 rfl ?_
  obtain rfl := Option.some.inj h
  exact v_iret C K dX5_pass_55
def f_Run_pass_b47 (o : Nat) (k6 : Int32 → Int32 → Int32 → Mem → Option (Int32 × Mem)) (a3 : Int32) (a4 : Int32) (a5 : Int32) (M : Mem) : Option (Int32 × Mem) :=
  k6 a3 a4 (a5 + 1) M
set_option maxRecDepth 20000 in
theorem v_Run_pass_b47 {S : SE} {X : MX} {q : (Int32 × Mem)} {o : Nat} {k6 : Int32 → Int32 → Int32 → Mem → Option (Int32 × Mem)} {a3 : Int32} {a4 : Int32} {a5 : Int32} {M : Mem} (C : CX S X cX5_pass 6 RX5 2) (K : RT S X (some .int) (some (.int q.1)) q.2) (ho : kd o = 5) (hk6 : ∀ (a3 : Int32) (a4 : Int32) (a5 : Int32) (M : Mem), k6 a3 a4 a5 M = some q → V S X 6 M 6 [(0, .ref (S.2.1 o)), (3, .int a3), (4, .int a4), (5, .int a5)] []) (h : f_Run_pass_b47 o k6 a3 a4 a5 M = some q) : V S X 6 M 47 [(0, .ref (S.2.1 o)), (3, .int a3), (4, .int a4), (5, .int a5)] [] := by
  unfold f_Run_pass_b47 at h
  refine v_iinc C [(5, .int (a5 + 1)), (0, .ref (S.2.1 o)), (3, .int a3), (4, .int a4)] 3 (a5 + 1) dX5_pass_47 rfl rfl (by decide) rfl ?_
  refine v_goto C 6 dX5_pass_50 (by decide) ?_
  refine v_sub [1, 2, 3, 0] rfl ?_
  exact hk6 _ _ _ _ h
def f_Run_pass_l6B (o : Nat) (k6 : Int32 → Int32 → Int32 → Mem → Option (Int32 × Mem)) (a3 : Int32) (a4 : Int32) (a5 : Int32) (M : Mem) : Option (Int32 × Mem) :=
  if a3 ≤ a5 then
    f_Run_pass_b53 o a4 M
  else
    if a4 = (-1) then
      f_Run_pass_b53 o a4 M
    else
      (f_Run_through o M a5 a4).bind fun q1 =>
      if q1.1 = (-1) then
        f_Run_pass_b47 o k6 a3 q1.1 a5 q1.2
      else
        bnd (mset q1.2 (o + 8) 6 ((q1.2 (o + 8) 6) + 1)) fun M2 =>
        f_Run_pass_b47 o k6 a3 q1.1 a5 M2
set_option maxRecDepth 20000 in
theorem v_Run_pass_l6B {S : SE} {X : MX} {q : (Int32 × Mem)} {o : Nat} {k6 : Int32 → Int32 → Int32 → Mem → Option (Int32 × Mem)} {a3 : Int32} {a4 : Int32} {a5 : Int32} {M : Mem} (C : CX S X cX5_pass 6 RX5 2) (K : RT S X (some .int) (some (.int q.1)) q.2) (ho : kd o = 5) (hk6 : ∀ (a3 : Int32) (a4 : Int32) (a5 : Int32) (M : Mem), k6 a3 a4 a5 M = some q → V S X 6 M 6 [(0, .ref (S.2.1 o)), (3, .int a3), (4, .int a4), (5, .int a5)] []) (h : f_Run_pass_l6B o k6 a3 a4 a5 M = some q) : V S X 6 M 6 [(0, .ref (S.2.1 o)), (3, .int a3), (4, .int a4), (5, .int a5)] [] := by
  unfold f_Run_pass_l6B at h
  refine v_iload C 3 dX5_pass_6 rfl ?_
  refine v_iload_n C 1 dX5_pass_8 rfl ?_
  refine v_icmp_ge C 53 dX5_pass_9 (by decide) (fun c5 => ?_) (fun c5 => ?_)
  · replace h := (ite_h h).1 c5
    refine v_sub [2] rfl ?_
    exact v_Run_pass_b53 C K ho h
  · replace h := (ite_h h).2 c5
    refine v_iload C 2 dX5_pass_12 rfl ?_
    refine v_iconst C (-1) dX5_pass_14 rfl ?_
    refine v_icmp_eq C 53 dX5_pass_15 (by decide) (fun c4 => ?_) (fun c4 => ?_)
    · replace h := (ite_h h).1 c4
      refine v_sub [2] rfl ?_
      exact v_Run_pass_b53 C K ho h
    · replace h := (ite_h h).2 c4
      refine v_aload_n C 0 dX5_pass_18 rfl ?_
      refine v_iload C 3 dX5_pass_19 rfl ?_
      refine v_iload C 2 dX5_pass_21 rfl ?_
      obtain ⟨q1, hq1, h⟩ := Option.bind_eq_some_iff.mp h
      refine cv5 C [] ho (m_Run_through C.inj o ho M a5 a4 q1 hq1) ci_Run_through rfl lk_X5_179 (by decide) rfl rfl (Nat.le_of_ble_eq_true rfl) dX5_pass_23 ?_
      refine v_istore C [(4, .int q1.1), (0, .ref (S.2.1 o)), (3, .int a3), (5, .int a5)] dX5_pass_26 (by decide) rfl ?_
      refine v_iload C 0 dX5_pass_28 rfl ?_
      refine v_iconst C (-1) dX5_pass_30 rfl ?_
      refine v_icmp_eq C 47 dX5_pass_31 (by decide) (fun c3 => ?_) (fun c3 => ?_)
      · replace h := (ite_h h).1 c3
        refine v_sub [1, 2, 0, 3] rfl ?_
        exact v_Run_pass_b47 C K ho hk6 h
      · replace h := (ite_h h).2 c3
        refine v_aload_n C 1 dX5_pass_34 rfl ?_
        refine g_Run_report C ho fl_X5_28 dX5_pass_35 ?_
        refine v_dup C dX5_pass_38 rfl ?_
        refine g_Report_handedOn C (kd_Run_report ho) fl_X5_140 dX5_pass_39 ?_
        refine v_iconst C 1 dX5_pass_42 rfl ?_
        refine v_iadd C dX5_pass_43 ?_
        refine p_Report_handedOn C (kd_Run_report ho) fl_X5_140 dX5_pass_44 ?_
        refine v_nmm h (fun M2 h => ?_)
        refine v_sub [1, 2, 0, 3] rfl ?_
        exact v_Run_pass_b47 C K ho hk6 h
def f_Run_pass_l6 (o : Nat) : Nat → Int32 → Int32 → Int32 → Mem → Option (Int32 × Mem)
  | 0, _, _, _, _ => none
  | n + 1, a3, a4, a5, M => f_Run_pass_l6B o (f_Run_pass_l6 o n) a3 a4 a5 M
theorem v_Run_pass_l6 {S : SE} {X : MX} {q : (Int32 × Mem)} {o : Nat} (C : CX S X cX5_pass 6 RX5 2) (K : RT S X (some .int) (some (.int q.1)) q.2) (ho : kd o = 5) : ∀ (n : Nat) (a3 : Int32) (a4 : Int32) (a5 : Int32) (M : Mem), f_Run_pass_l6 o n a3 a4 a5 M = some q → V S X 6 M 6 [(0, .ref (S.2.1 o)), (3, .int a3), (4, .int a4), (5, .int a5)] [] := by
  intro n
  induction n with
  | zero => intro a3 a4 a5 M h; cases h
  | succ n ih => intro a3 a4 a5 M h; exact v_Run_pass_l6B C K ho ih h
def f_Run_pass (o : Nat) (M : Mem) (a1 : Int32) (a2 : Int32) (a3 : Int32) : Option (Int32 × Mem) :=
  f_Run_pass_l6 o FU a3 a1 a2 M
set_option maxRecDepth 20000 in
theorem v_Run_pass {S : SE} {X : MX} {q : (Int32 × Mem)} {o : Nat} {M : Mem} {a1 : Int32} {a2 : Int32} {a3 : Int32} (C : CX S X cX5_pass 6 RX5 2) (K : RT S X (some .int) (some (.int q.1)) q.2) (ho : kd o = 5) (h : f_Run_pass o M a1 a2 a3 = some q) : V S X 6 M 0 [(0, .ref (S.2.1 o)), (1, .int a1), (2, .int a2), (3, .int a3)] [] := by
  unfold f_Run_pass at h
  refine v_iload_n C 1 dX5_pass_0 rfl ?_
  refine v_istore C [(4, .int a1), (0, .ref (S.2.1 o)), (1, .int a1), (2, .int a2), (3, .int a3)] dX5_pass_1 (by decide) rfl ?_
  refine v_iload_n C 3 dX5_pass_3 rfl ?_
  refine v_istore C [(5, .int a2), (4, .int a1), (0, .ref (S.2.1 o)), (1, .int a1), (2, .int a2), (3, .int a3)] dX5_pass_4 (by decide) rfl ?_
  refine v_sub [2, 5, 1, 0] rfl ?_
  exact v_Run_pass_l6 C K ho FU _ _ _ _ h
theorem m_Run_pass {S : SE} (hI : Inj S) (o : Nat) (ho : kd o = 5) (M : Mem) (a1 : Int32) (a2 : Int32) (a3 : Int32) (q : (Int32 × Mem)) (h : f_Run_pass o M a1 a2 a3 = some q) : CM S yX5_pass cX5_pass 6 (some .int) 2 [.ref (S.2.1 o), .int a1, .int a2, .int a3] M (some (.int q.1)) q.2 :=
  CM.of [(0, .ref (S.2.1 o)), (1, .int a1), (2, .int a2), (3, .int a3)] hI (by decide) rfl (Nat.le_of_ble_eq_true rfl) (fun X C K => v_Run_pass C K ho h)
def f_Run_arrive (o : Nat) (M : Mem) (a1 : Int32) : Option Mem :=
  bnd (a1 >>> (20 &&& 31)) fun x1 =>
  if a1 = (-1) then
    some M
  else
    if (f_U_within x1 10) = 0 then
      some M
    else
      bnd (mset M o 5 ((M o 5) + 1)) fun M2 =>
      if gin x1 10 then
        (f_Pairs_valueAt (o + 4) M2 x1).bind fun q4 =>
        (f_Tally_take (45 + x1.toNatClampNeg) M2 (f_Run_valueOf a1) q4).bind fun q5 =>
        some q5
      else none
set_option maxRecDepth 20000 in
theorem v_Run_arrive {S : SE} {X : MX} {q : Mem} {o : Nat} {M : Mem} {a1 : Int32} (C : CX S X cX5_arrive 3 RX5 1) (K : RT S X none none q) (ho : kd o = 5) (h : f_Run_arrive o M a1 = some q) : V S X 3 M 0 [(0, .ref (S.2.1 o)), (1, .int a1)] [] := by
  unfold f_Run_arrive at h
  refine v_iload_n C 1 dX5_arrive_0 rfl ?_
  refine v_bipush C 20 dX5_arrive_1 rfl ?_
  refine v_ishr C dX5_arrive_3 ?_
  refine v_nmi h (fun x1 h => ?_)
  refine v_istore_n C [(2, .int x1), (0, .ref (S.2.1 o)), (1, .int a1)] dX5_arrive_4 (by decide) rfl ?_
  refine v_iload_n C 2 dX5_arrive_5 rfl ?_
  refine v_iconst C (-1) dX5_arrive_6 rfl ?_
  refine v_icmp_eq C 53 dX5_arrive_7 (by decide) (fun c7 => ?_) (fun c7 => ?_)
  · replace h := (ite_h h).1 c7
    obtain rfl := Option.some.inj h
    exact v_vret C K dX5_arrive_53
  · replace h := (ite_h h).2 c7
    refine v_iload_n C 0 dX5_arrive_10 rfl ?_
    refine v_bipush C 10 dX5_arrive_11 rfl ?_
    refine csN C [] (m_U_within C.inj M x1 10 _ rfl) ci_U_within lk_X5_198 (by decide) rfl rfl (Nat.le_of_ble_eq_true rfl) dX5_arrive_13 ?_
    refine v_if_eq C 53 dX5_arrive_16 (by decide) (fun c6 => ?_) (fun c6 => ?_)
    · replace h := (ite_h h).1 c6
      obtain rfl := Option.some.inj h
      exact v_vret C K dX5_arrive_53
    · replace h := (ite_h h).2 c6
      refine v_aload_n C 1 dX5_arrive_19 rfl ?_
      refine v_dup C dX5_arrive_20 rfl ?_
      refine g_Run_arrived C ho fl_X5_37 dX5_arrive_21 ?_
      refine v_iconst C 1 dX5_arrive_24 rfl ?_
      refine v_iadd C dX5_arrive_25 ?_
      refine p_Run_arrived C ho fl_X5_37 dX5_arrive_26 ?_
      refine v_nmm h (fun M2 h => ?_)
      refine v_aload_n C 1 dX5_arrive_29 rfl ?_
      refine g_Run_kept C ho fl_X5_40 dX5_arrive_30 ?_
      refine g_Kept_tallies C kk27 fl_X5_93 dX5_arrive_33 ?_
      refine v_iload_n C 0 dX5_arrive_36 rfl ?_
      obtain ⟨g3, h⟩ := gd_h h
      refine v_aaldL C g3 dX5_arrive_37 ?_
      refine v_iload_n C 2 dX5_arrive_38 rfl ?_
      refine cs C [.ref (S.2.1 (45 + x1.toNatClampNeg))] (m_Run_valueOf C.inj M2 a1 _ rfl) ci_Run_valueOf lk_X5_183 (by decide) rfl rfl (Nat.le_of_ble_eq_true rfl) dX5_arrive_39 ?_
      refine v_aload_n C 1 dX5_arrive_42 rfl ?_
      refine g_Run_pairs C ho fl_X5_21 dX5_arrive_43 ?_
      refine v_iload_n C 0 dX5_arrive_46 rfl ?_
      obtain ⟨q4, hq4, h⟩ := Option.bind_eq_some_iff.mp h
      refine cv2 C [.int (f_Run_valueOf a1), .ref (S.2.1 (45 + x1.toNatClampNeg))] (kd_Run_pairs ho) (m_Pairs_valueAt C.inj (o + 4) (kd_Run_pairs ho) M2 x1 q4 hq4) ci_Pairs_valueAt rfl lk_X5_201 (by decide) rfl rfl (Nat.le_of_ble_eq_true rfl) dX5_arrive_47 ?_
      obtain ⟨q5, hq5, h⟩ := Option.bind_eq_some_iff.mp h
      refine cv9v C [] (kd_L (i := x1) g3) (m_Tally_take C.inj (45 + x1.toNatClampNeg) (kd_L (i := x1) g3) M2 (f_Run_valueOf a1) q4 q5 hq5) ci_Tally_take rfl lk_X5_204 (by decide) rfl rfl (Nat.le_of_ble_eq_true rfl) dX5_arrive_50 ?_
      obtain rfl := Option.some.inj h
      exact v_vret C K dX5_arrive_53
theorem m_Run_arrive {S : SE} (hI : Inj S) (o : Nat) (ho : kd o = 5) (M : Mem) (a1 : Int32) (q : Mem) (h : f_Run_arrive o M a1 = some q) : CM S yX5_arrive cX5_arrive 3 none 1 [.ref (S.2.1 o), .int a1] M none q :=
  CM.of [(0, .ref (S.2.1 o)), (1, .int a1)] hI (by decide) rfl (Nat.le_of_ble_eq_true rfl) (fun X C K => v_Run_arrive C K ho h)
def f_Run_joins_b43 (o : Nat) (M : Mem) : Option Int32 :=
  some 1
set_option maxRecDepth 20000 in
theorem v_Run_joins_b43 {S : SE} {X : MX} {q : Int32} {o : Nat} {M : Mem} (C : CX S X cX5_joins 4 RX5 1) (K : RT S X (some .boolean) (some (.int q)) M) (ho : kd o = 5) (h : f_Run_joins_b43 o M = some q) : V S X 4 M 43 [] [] := by
  unfold f_Run_joins_b43 at h
  refine v_iconst C 1 dX5_joins_43 rfl ?_
  refine v_goto C 48 dX5_joins_44 (by decide) ?_
  obtain rfl := Option.some.inj h
  exact v_zret C (Or.inr rfl) K dX5_joins_48
def f_Run_joins_b47 (o : Nat) (M : Mem) : Option Int32 :=
  some 0
set_option maxRecDepth 20000 in
theorem v_Run_joins_b47 {S : SE} {X : MX} {q : Int32} {o : Nat} {M : Mem} (C : CX S X cX5_joins 4 RX5 1) (K : RT S X (some .boolean) (some (.int q)) M) (ho : kd o = 5) (h : f_Run_joins_b47 o M = some q) : V S X 4 M 47 [] [] := by
  unfold f_Run_joins_b47 at h
  refine v_iconst C 0 dX5_joins_47 rfl ?_
  obtain rfl := Option.some.inj h
  exact v_zret C (Or.inl rfl) K dX5_joins_48
def f_Run_joins (o : Nat) (M : Mem) (a1 : Int32) (a2 : Int32) : Option Int32 :=
  bnd (f_Run_keyOf a1) fun x1 =>
  if gin (M (o + 1) 3) 14 then
    if (M ((o + 1) + 1) (M (o + 1) 3).toNatClampNeg) = 8 then
      f_Run_joins_b43 o M
    else
      if x1 = (-1) then
        f_Run_joins_b47 o M
      else
        if gin a2 10 then
          if x1 = (M ((o + 4) + 1) a2.toNatClampNeg) then
            f_Run_joins_b43 o M
          else
            f_Run_joins_b47 o M
        else none
  else none
set_option maxRecDepth 20000 in
theorem v_Run_joins {S : SE} {X : MX} {q : Int32} {o : Nat} {M : Mem} {a1 : Int32} {a2 : Int32} (C : CX S X cX5_joins 4 RX5 1) (K : RT S X (some .boolean) (some (.int q)) M) (ho : kd o = 5) (h : f_Run_joins o M a1 a2 = some q) : V S X 4 M 0 [(0, .ref (S.2.1 o)), (1, .int a1), (2, .int a2)] [] := by
  unfold f_Run_joins at h
  refine v_iload_n C 1 dX5_joins_0 rfl ?_
  refine cs C [] (m_Run_keyOf C.inj M a1 _ rfl) ci_Run_keyOf lk_X5_175 (by decide) rfl rfl (Nat.le_of_ble_eq_true rfl) dX5_joins_1 ?_
  refine v_nmi h (fun x1 h => ?_)
  refine v_istore_n C [(3, .int x1), (0, .ref (S.2.1 o)), (1, .int a1), (2, .int a2)] dX5_joins_4 (by decide) rfl ?_
  refine v_aload_n C 1 dX5_joins_5 rfl ?_
  refine g_Run_course C ho fl_X5_12 dX5_joins_6 ?_
  refine g_Course_codes C (kd_Run_course ho) fl_X5_151 dX5_joins_9 ?_
  refine v_aload_n C 1 dX5_joins_12 rfl ?_
  refine g_Run_course C ho fl_X5_12 dX5_joins_13 ?_
  refine g_Course_joinAt C (kd_Run_course ho) fl_X5_110 dX5_joins_16 ?_
  obtain ⟨g2, h⟩ := gd_h h
  refine v_iald C (kd_Course_codes (kd_Run_course ho)) (ln_Course_codes (kd_Run_course ho)) g2 dX5_joins_19 ?_
  refine v_bipush C 8 dX5_joins_20 rfl ?_
  refine v_icmp_eq C 43 dX5_joins_22 (by decide) (fun c6 => ?_) (fun c6 => ?_)
  · replace h := (ite_h h).1 c6
    refine v_sub [] rfl ?_
    exact v_Run_joins_b43 C K ho h
  · replace h := (ite_h h).2 c6
    refine v_iload_n C 0 dX5_joins_25 rfl ?_
    refine v_iconst C (-1) dX5_joins_26 rfl ?_
    refine v_icmp_eq C 47 dX5_joins_27 (by decide) (fun c5 => ?_) (fun c5 => ?_)
    · replace h := (ite_h h).1 c5
      refine v_sub [] rfl ?_
      exact v_Run_joins_b47 C K ho h
    · replace h := (ite_h h).2 c5
      refine v_iload_n C 0 dX5_joins_30 rfl ?_
      refine v_aload_n C 1 dX5_joins_31 rfl ?_
      refine g_Run_pairs C ho fl_X5_21 dX5_joins_32 ?_
      refine g_Pairs_keys C (kd_Run_pairs ho) fl_X5_155 dX5_joins_35 ?_
      refine v_iload_n C 3 dX5_joins_38 rfl ?_
      obtain ⟨g3, h⟩ := gd_h h
      refine v_iald C (kd_Pairs_keys (kd_Run_pairs ho)) (ln_Pairs_keys (kd_Run_pairs ho)) g3 dX5_joins_39 ?_
      refine v_icmp_ne C 47 dX5_joins_40 (by decide) (fun c4 => ?_) (fun c4 => ?_)
      · replace h := (ite_h h).2 c4
        refine v_sub [] rfl ?_
        exact v_Run_joins_b47 C K ho h
      · replace h := (ite_h h).1 c4
        refine v_sub [] rfl ?_
        exact v_Run_joins_b43 C K ho h
theorem m_Run_joins {S : SE} (hI : Inj S) (o : Nat) (ho : kd o = 5) (M : Mem) (a1 : Int32) (a2 : Int32) (q : Int32) (h : f_Run_joins o M a1 a2 = some q) : CM S yX5_joins cX5_joins 4 (some .boolean) 1 [.ref (S.2.1 o), .int a1, .int a2] M (some (.int q)) M :=
  CM.of [(0, .ref (S.2.1 o)), (1, .int a1), (2, .int a2)] hI (by decide) rfl (Nat.le_of_ble_eq_true rfl) (fun X C K => v_Run_joins C K ho h)
def f_Run_feed_b117 (o : Nat) (k46 : Int32 → Int32 → Mem → Option Mem) (a3 : Int32) (a4 : Int32) (M : Mem) : Option Mem :=
  k46 a3 (a4 + 1) M
set_option maxRecDepth 20000 in
theorem v_Run_feed_b117 {S : SE} {X : MX} {q : Mem} {o : Nat} {k46 : Int32 → Int32 → Mem → Option Mem} {a3 : Int32} {a4 : Int32} {M : Mem} (C : CX S X cX5_feed 5 RX5 3) (K : RT S X none none q) (ho : kd o = 5) (hk46 : ∀ (a3 : Int32) (a4 : Int32) (M : Mem), k46 a3 a4 M = some q → V S X 5 M 46 [(0, .ref (S.2.1 o)), (3, .int a3), (4, .int a4)] []) (h : f_Run_feed_b117 o k46 a3 a4 M = some q) : V S X 5 M 117 [(0, .ref (S.2.1 o)), (3, .int a3), (4, .int a4)] [] := by
  unfold f_Run_feed_b117 at h
  refine v_iinc C [(4, .int (a4 + 1)), (0, .ref (S.2.1 o)), (3, .int a3)] 2 (a4 + 1) dX5_feed_117 rfl rfl (by decide) rfl ?_
  refine v_goto C 46 dX5_feed_120 (by decide) ?_
  refine v_sub [1, 2, 0] rfl ?_
  exact hk46 _ _ _ h
def f_Run_feed_l46B (o : Nat) (k46 : Int32 → Int32 → Mem → Option Mem) (a3 : Int32) (a4 : Int32) (M : Mem) : Option Mem :=
  if (M (o + 4) 3) ≤ a4 then
    some M
  else
    if a3 = (-1) then
      some M
    else
      (f_Run_joins o M a3 a4).bind fun q2 =>
      if q2 = 0 then
        f_Run_feed_b117 o k46 a3 a4 M
      else
        bnd (mset M (o + 8) 6 ((M (o + 8) 6) + 1)) fun M3 =>
        (f_Run_pass o M3 (a3 ||| (a4 <<< (20 &&& 31))) ((M3 (o + 1) 3) + 1) (M3 (o + 1) 2)).bind fun q4 =>
        (f_Run_arrive o q4.2 q4.1).bind fun q5 =>
        f_Run_feed_b117 o k46 a3 a4 q5
set_option maxRecDepth 20000 in
theorem v_Run_feed_l46B {S : SE} {X : MX} {q : Mem} {o : Nat} {k46 : Int32 → Int32 → Mem → Option Mem} {a3 : Int32} {a4 : Int32} {M : Mem} (C : CX S X cX5_feed 5 RX5 3) (K : RT S X none none q) (ho : kd o = 5) (hk46 : ∀ (a3 : Int32) (a4 : Int32) (M : Mem), k46 a3 a4 M = some q → V S X 5 M 46 [(0, .ref (S.2.1 o)), (3, .int a3), (4, .int a4)] []) (h : f_Run_feed_l46B o k46 a3 a4 M = some q) : V S X 5 M 46 [(0, .ref (S.2.1 o)), (3, .int a3), (4, .int a4)] [] := by
  unfold f_Run_feed_l46B at h
  refine v_iload C 2 dX5_feed_46 rfl ?_
  refine v_aload_n C 0 dX5_feed_48 rfl ?_
  refine g_Run_pairs C ho fl_X5_21 dX5_feed_49 ?_
  refine g_Pairs_size C (kd_Run_pairs ho) fl_X5_154 dX5_feed_52 ?_
  refine v_icmp_ge C 123 dX5_feed_55 (by decide) (fun c8 => ?_) (fun c8 => ?_)
  · replace h := (ite_h h).1 c8
    obtain rfl := Option.some.inj h
    exact v_vret C K dX5_feed_123
  · replace h := (ite_h h).2 c8
    refine v_iload_n C 1 dX5_feed_58 rfl ?_
    refine v_iconst C (-1) dX5_feed_59 rfl ?_
    refine v_icmp_eq C 123 dX5_feed_60 (by decide) (fun c7 => ?_) (fun c7 => ?_)
    · replace h := (ite_h h).1 c7
      obtain rfl := Option.some.inj h
      exact v_vret C K dX5_feed_123
    · replace h := (ite_h h).2 c7
      refine v_aload_n C 0 dX5_feed_63 rfl ?_
      refine v_iload_n C 1 dX5_feed_64 rfl ?_
      refine v_iload C 2 dX5_feed_65 rfl ?_
      obtain ⟨q2, hq2, h⟩ := Option.bind_eq_some_iff.mp h
      refine cv5 C [] ho (m_Run_joins C.inj o ho M a3 a4 q2 hq2) ci_Run_joins rfl lk_X5_171 (by decide) rfl rfl (Nat.le_of_ble_eq_true rfl) dX5_feed_67 ?_
      refine v_if_eq C 117 dX5_feed_70 (by decide) (fun c6 => ?_) (fun c6 => ?_)
      · replace h := (ite_h h).1 c6
        exact v_Run_feed_b117 C K ho hk46 h
      · replace h := (ite_h h).2 c6
        refine v_aload_n C 0 dX5_feed_73 rfl ?_
        refine g_Run_report C ho fl_X5_28 dX5_feed_74 ?_
        refine v_dup C dX5_feed_77 rfl ?_
        refine g_Report_handedOn C (kd_Run_report ho) fl_X5_140 dX5_feed_78 ?_
        refine v_iconst C 1 dX5_feed_81 rfl ?_
        refine v_iadd C dX5_feed_82 ?_
        refine p_Report_handedOn C (kd_Run_report ho) fl_X5_140 dX5_feed_83 ?_
        refine v_nmm h (fun M3 h => ?_)
        refine v_aload_n C 0 dX5_feed_86 rfl ?_
        refine v_aload_n C 0 dX5_feed_87 rfl ?_
        refine v_iload_n C 1 dX5_feed_88 rfl ?_
        refine v_iload C 2 dX5_feed_89 rfl ?_
        refine v_bipush C 20 dX5_feed_91 rfl ?_
        refine v_ishl C dX5_feed_93 ?_
        refine v_ior C dX5_feed_94 ?_
        refine v_aload_n C 0 dX5_feed_95 rfl ?_
        refine g_Run_course C ho fl_X5_12 dX5_feed_96 ?_
        refine g_Course_joinAt C (kd_Run_course ho) fl_X5_110 dX5_feed_99 ?_
        refine v_iconst C 1 dX5_feed_102 rfl ?_
        refine v_iadd C dX5_feed_103 ?_
        refine v_aload_n C 0 dX5_feed_104 rfl ?_
        refine g_Run_course C ho fl_X5_12 dX5_feed_105 ?_
        refine g_Course_size C (kd_Run_course ho) fl_X5_150 dX5_feed_108 ?_
        obtain ⟨q4, hq4, h⟩ := Option.bind_eq_some_iff.mp h
        refine cv5 C [.ref (S.2.1 o)] ho (m_Run_pass C.inj o ho M3 (a3 ||| (a4 <<< (20 &&& 31))) ((M3 (o + 1) 3) + 1) (M3 (o + 1) 2) q4 hq4) ci_Run_pass rfl lk_X5_164 (by decide) rfl rfl (Nat.le_of_ble_eq_true rfl) dX5_feed_111 ?_
        obtain ⟨q5, hq5, h⟩ := Option.bind_eq_some_iff.mp h
        refine cv5v C [] ho (m_Run_arrive C.inj o ho q4.2 q4.1 q5 hq5) ci_Run_arrive rfl lk_X5_167 (by decide) rfl rfl (Nat.le_of_ble_eq_true rfl) dX5_feed_114 ?_
        exact v_Run_feed_b117 C K ho hk46 h
def f_Run_feed_l46 (o : Nat) : Nat → Int32 → Int32 → Mem → Option Mem
  | 0, _, _, _ => none
  | n + 1, a3, a4, M => f_Run_feed_l46B o (f_Run_feed_l46 o n) a3 a4 M
theorem v_Run_feed_l46 {S : SE} {X : MX} {q : Mem} {o : Nat} (C : CX S X cX5_feed 5 RX5 3) (K : RT S X none none q) (ho : kd o = 5) : ∀ (n : Nat) (a3 : Int32) (a4 : Int32) (M : Mem), f_Run_feed_l46 o n a3 a4 M = some q → V S X 5 M 46 [(0, .ref (S.2.1 o)), (3, .int a3), (4, .int a4)] [] := by
  intro n
  induction n with
  | zero => intro a3 a4 M h; cases h
  | succ n ih => intro a3 a4 M h; exact v_Run_feed_l46B C K ho ih h
def f_Run_feed (o : Nat) (M : Mem) (a1 : Int32) (a2 : Int32) : Option Mem :=
  if a2 ≤ (M (o + 1) 3) then
    (f_Run_pass o M a1 a2 (M (o + 1) 3)).bind fun q1 =>
    f_Run_feed_l46 o FU q1.1 0 q1.2
  else
    (f_Run_pass o M a1 a2 (M (o + 1) 2)).bind fun q9 =>
    (f_Run_arrive o q9.2 q9.1).bind fun q10 =>
    some q10
set_option maxRecDepth 20000 in
theorem v_Run_feed {S : SE} {X : MX} {q : Mem} {o : Nat} {M : Mem} {a1 : Int32} {a2 : Int32} (C : CX S X cX5_feed 5 RX5 3) (K : RT S X none none q) (ho : kd o = 5) (h : f_Run_feed o M a1 a2 = some q) : V S X 5 M 0 [(0, .ref (S.2.1 o)), (1, .int a1), (2, .int a2)] [] := by
  unfold f_Run_feed at h
  refine v_aload_n C 0 dX5_feed_0 rfl ?_
  refine g_Run_course C ho fl_X5_12 dX5_feed_1 ?_
  refine g_Course_joinAt C (kd_Run_course ho) fl_X5_110 dX5_feed_4 ?_
  refine v_iload_n C 2 dX5_feed_7 rfl ?_
  refine v_icmp_ge C 29 dX5_feed_8 (by decide) (fun c11 => ?_) (fun c11 => ?_)
  · replace h := (ite_h h).1 c11
    refine v_aload_n C 0 dX5_feed_29 rfl ?_
    refine v_iload_n C 1 dX5_feed_30 rfl ?_
    refine v_iload_n C 2 dX5_feed_31 rfl ?_
    refine v_aload_n C 0 dX5_feed_32 rfl ?_
    refine g_Run_course C ho fl_X5_12 dX5_feed_33 ?_
    refine g_Course_joinAt C (kd_Run_course ho) fl_X5_110 dX5_feed_36 ?_
    obtain ⟨q1, hq1, h⟩ := Option.bind_eq_some_iff.mp h
    refine cv5 C [] ho (m_Run_pass C.inj o ho M a1 a2 (M (o + 1) 3) q1 hq1) ci_Run_pass rfl lk_X5_164 (by decide) rfl rfl (Nat.le_of_ble_eq_true rfl) dX5_feed_39 ?_
    refine v_istore_n C [(3, .int q1.1), (0, .ref (S.2.1 o)), (1, .int a1), (2, .int a2)] dX5_feed_42 (by decide) rfl ?_
    refine v_iconst C 0 dX5_feed_43 rfl ?_
    refine v_istore C [(4, .int 0), (3, .int q1.1), (0, .ref (S.2.1 o)), (1, .int a1), (2, .int a2)] dX5_feed_44 (by decide) rfl ?_
    refine v_sub [2, 1, 0] rfl ?_
    exact v_Run_feed_l46 C K ho FU _ _ _ h
  · replace h := (ite_h h).2 c11
    refine v_aload_n C 0 dX5_feed_11 rfl ?_
    refine v_aload_n C 0 dX5_feed_12 rfl ?_
    refine v_iload_n C 1 dX5_feed_13 rfl ?_
    refine v_iload_n C 2 dX5_feed_14 rfl ?_
    refine v_aload_n C 0 dX5_feed_15 rfl ?_
    refine g_Run_course C ho fl_X5_12 dX5_feed_16 ?_
    refine g_Course_size C (kd_Run_course ho) fl_X5_150 dX5_feed_19 ?_
    obtain ⟨q9, hq9, h⟩ := Option.bind_eq_some_iff.mp h
    refine cv5 C [.ref (S.2.1 o)] ho (m_Run_pass C.inj o ho M a1 a2 (M (o + 1) 2) q9 hq9) ci_Run_pass rfl lk_X5_164 (by decide) rfl rfl (Nat.le_of_ble_eq_true rfl) dX5_feed_22 ?_
    obtain ⟨q10, hq10, h⟩ := Option.bind_eq_some_iff.mp h
    refine cv5v C [] ho (m_Run_arrive C.inj o ho q9.2 q9.1 q10 hq10) ci_Run_arrive rfl lk_X5_167 (by decide) rfl rfl (Nat.le_of_ble_eq_true rfl) dX5_feed_25 ?_
    obtain rfl := Option.some.inj h
    exact v_vret C K dX5_feed_28
theorem m_Run_feed {S : SE} (hI : Inj S) (o : Nat) (ho : kd o = 5) (M : Mem) (a1 : Int32) (a2 : Int32) (q : Mem) (h : f_Run_feed o M a1 a2 = some q) : CM S yX5_feed cX5_feed 5 none 3 [.ref (S.2.1 o), .int a1, .int a2] M none q :=
  CM.of [(0, .ref (S.2.1 o)), (1, .int a1), (2, .int a2)] hI (by decide) rfl (Nat.le_of_ble_eq_true rfl) (fun X C K => v_Run_feed C K ho h)
def f_Run_readInner_l2B (o : Nat) (a1 : Nat) (k2 : Int32 → Mem → Option Mem) (a2 : Int32) (M : Mem) : Option Mem :=
  if (M a1 2) ≤ a2 then
    some M
  else
    if (M o 4) ≤ (M o 5) then
      some M
    else
      bnd (mset M (o + 8) 5 ((M (o + 8) 5) + 1)) fun M1 =>
      bnd (mset M1 (o + 8) 6 ((M1 (o + 8) 6) + 1)) fun M2 =>
      if gin a2 10 then
        if gin a2 10 then
          (f_Run_feed o M2 (f_Run_packed (M2 (a1 + 1) a2.toNatClampNeg) (M2 (a1 + 2) a2.toNatClampNeg) 0) 1).bind fun q5 =>
          k2 (a2 + 1) q5
        else none
      else none
set_option maxRecDepth 20000 in
theorem v_Run_readInner_l2B {S : SE} {X : MX} {q : Mem} {o : Nat} {a1 : Nat} {k2 : Int32 → Mem → Option Mem} {a2 : Int32} {M : Mem} (C : CX S X cX5_readInner 3 RX5 4) (K : RT S X none none q) (ho : kd o = 5) (ha1 : kd a1 = 8) (hk2 : ∀ (a2 : Int32) (M : Mem), k2 a2 M = some q → V S X 3 M 2 [(0, .ref (S.2.1 o)), (1, .ref (S.2.1 a1)), (2, .int a2)] []) (h : f_Run_readInner_l2B o a1 k2 a2 M = some q) : V S X 3 M 2 [(0, .ref (S.2.1 o)), (1, .ref (S.2.1 a1)), (2, .int a2)] [] := by
  unfold f_Run_readInner_l2B at h
  refine v_iload_n C 2 dX5_readInner_2 rfl ?_
  refine v_aload_n C 1 dX5_readInner_3 rfl ?_
  refine g_Table_size C ha1 fl_X5_61 dX5_readInner_4 ?_
  refine v_icmp_ge C 74 dX5_readInner_7 (by decide) (fun c7 => ?_) (fun c7 => ?_)
  · replace h := (ite_h h).1 c7
    obtain rfl := Option.some.inj h
    exact v_vret C K dX5_readInner_74
  · replace h := (ite_h h).2 c7
    refine v_aload_n C 0 dX5_readInner_10 rfl ?_
    refine g_Run_arrived C ho fl_X5_37 dX5_readInner_11 ?_
    refine v_aload_n C 0 dX5_readInner_14 rfl ?_
    refine g_Run_wanted C ho fl_X5_33 dX5_readInner_15 ?_
    refine v_icmp_ge C 74 dX5_readInner_18 (by decide) (fun c6 => ?_) (fun c6 => ?_)
    · replace h := (ite_h h).1 c6
      obtain rfl := Option.some.inj h
      exact v_vret C K dX5_readInner_74
    · replace h := (ite_h h).2 c6
      refine v_aload_n C 0 dX5_readInner_21 rfl ?_
      refine g_Run_report C ho fl_X5_28 dX5_readInner_22 ?_
      refine v_dup C dX5_readInner_25 rfl ?_
      refine g_Report_read C (kd_Run_report ho) fl_X5_137 dX5_readInner_26 ?_
      refine v_iconst C 1 dX5_readInner_29 rfl ?_
      refine v_iadd C dX5_readInner_30 ?_
      refine p_Report_read C (kd_Run_report ho) fl_X5_137 dX5_readInner_31 ?_
      refine v_nmm h (fun M1 h => ?_)
      refine v_aload_n C 0 dX5_readInner_34 rfl ?_
      refine g_Run_report C ho fl_X5_28 dX5_readInner_35 ?_
      refine v_dup C dX5_readInner_38 rfl ?_
      refine g_Report_handedOn C (kd_Run_report ho) fl_X5_140 dX5_readInner_39 ?_
      refine v_iconst C 1 dX5_readInner_42 rfl ?_
      refine v_iadd C dX5_readInner_43 ?_
      refine p_Report_handedOn C (kd_Run_report ho) fl_X5_140 dX5_readInner_44 ?_
      refine v_nmm h (fun M2 h => ?_)
      refine v_aload_n C 0 dX5_readInner_47 rfl ?_
      refine v_aload_n C 1 dX5_readInner_48 rfl ?_
      refine g_Table_keys C ha1 fl_X5_69 dX5_readInner_49 ?_
      refine v_iload_n C 2 dX5_readInner_52 rfl ?_
      obtain ⟨g3, h⟩ := gd_h h
      refine v_iald C (kd_Table_keys ha1) (ln_Table_keys ha1) g3 dX5_readInner_53 ?_
      refine v_aload_n C 1 dX5_readInner_54 rfl ?_
      refine g_Table_values C ha1 fl_X5_73 dX5_readInner_55 ?_
      refine v_iload_n C 2 dX5_readInner_58 rfl ?_
      obtain ⟨g4, h⟩ := gd_h h
      refine v_iald C (kd_Table_values ha1) (ln_Table_values ha1) g4 dX5_readInner_59 ?_
      refine v_iconst C 0 dX5_readInner_60 rfl ?_
      refine cs C [.ref (S.2.1 o)] (m_Run_packed C.inj M2 (M2 (a1 + 1) a2.toNatClampNeg) (M2 (a1 + 2) a2.toNatClampNeg) 0 _ rfl) ci_Run_packed lk_X5_143 (by decide) rfl rfl (Nat.le_of_ble_eq_true rfl) dX5_readInner_61 ?_
      refine v_iconst C 1 dX5_readInner_64 rfl ?_
      obtain ⟨q5, hq5, h⟩ := Option.bind_eq_some_iff.mp h
      refine cv5v C [] ho (m_Run_feed C.inj o ho M2 (f_Run_packed (M2 (a1 + 1) a2.toNatClampNeg) (M2 (a1 + 2) a2.toNatClampNeg) 0) 1 q5 hq5) ci_Run_feed rfl lk_X5_147 (by decide) rfl rfl (Nat.le_of_ble_eq_true rfl) dX5_readInner_65 ?_
      refine v_iinc C [(2, .int (a2 + 1)), (0, .ref (S.2.1 o)), (1, .ref (S.2.1 a1))] 2 (a2 + 1) dX5_readInner_68 rfl rfl (by decide) rfl ?_
      refine v_goto C 2 dX5_readInner_71 (by decide) ?_
      refine v_sub [1, 2, 0] rfl ?_
      exact hk2 _ _ h
def f_Run_readInner_l2 (o : Nat) (a1 : Nat) : Nat → Int32 → Mem → Option Mem
  | 0, _, _ => none
  | n + 1, a2, M => f_Run_readInner_l2B o a1 (f_Run_readInner_l2 o a1 n) a2 M
theorem v_Run_readInner_l2 {S : SE} {X : MX} {q : Mem} {o : Nat} {a1 : Nat} (C : CX S X cX5_readInner 3 RX5 4) (K : RT S X none none q) (ho : kd o = 5) (ha1 : kd a1 = 8) : ∀ (n : Nat) (a2 : Int32) (M : Mem), f_Run_readInner_l2 o a1 n a2 M = some q → V S X 3 M 2 [(0, .ref (S.2.1 o)), (1, .ref (S.2.1 a1)), (2, .int a2)] [] := by
  intro n
  induction n with
  | zero => intro a2 M h; cases h
  | succ n ih => intro a2 M h; exact v_Run_readInner_l2B C K ho ha1 ih h
def f_Run_readInner (o : Nat) (a1 : Nat) (M : Mem) : Option Mem :=
  f_Run_readInner_l2 o a1 FU 0 M
set_option maxRecDepth 20000 in
theorem v_Run_readInner {S : SE} {X : MX} {q : Mem} {o : Nat} {a1 : Nat} {M : Mem} (C : CX S X cX5_readInner 3 RX5 4) (K : RT S X none none q) (ho : kd o = 5) (ha1 : kd a1 = 8) (h : f_Run_readInner o a1 M = some q) : V S X 3 M 0 [(0, .ref (S.2.1 o)), (1, .ref (S.2.1 a1))] [] := by
  unfold f_Run_readInner at h
  refine v_iconst C 0 dX5_readInner_0 rfl ?_
  refine v_istore_n C [(2, .int 0), (0, .ref (S.2.1 o)), (1, .ref (S.2.1 a1))] dX5_readInner_1 (by decide) rfl ?_
  refine v_sub [1, 2, 0] rfl ?_
  exact v_Run_readInner_l2 C K ho ha1 FU _ _ h
theorem m_Run_readInner {S : SE} (hI : Inj S) (o : Nat) (a1 : Nat) (ho : kd o = 5) (ha1 : kd a1 = 8) (M : Mem) (q : Mem) (h : f_Run_readInner o a1 M = some q) : CM S yX5_readInner cX5_readInner 3 none 4 [.ref (S.2.1 o), .ref (S.2.1 a1)] M none q :=
  CM.of [(0, .ref (S.2.1 o)), (1, .ref (S.2.1 a1))] hI (by decide) rfl (Nat.le_of_ble_eq_true rfl) (fun X C K => v_Run_readInner C K ho ha1 h)
def f_Run_handOnKept_b169 (o : Nat) (k2 : Int32 → Mem → Option Mem) (a1 : Int32) (M : Mem) : Option Mem :=
  k2 (a1 + 1) M
set_option maxRecDepth 20000 in
theorem v_Run_handOnKept_b169 {S : SE} {X : MX} {q : Mem} {o : Nat} {k2 : Int32 → Mem → Option Mem} {a1 : Int32} {M : Mem} (C : CX S X cX5_handOnKept 4 RX5 4) (K : RT S X none none q) (ho : kd o = 5) (hk2 : ∀ (a1 : Int32) (M : Mem), k2 a1 M = some q → V S X 4 M 2 [(0, .ref (S.2.1 o)), (1, .int a1)] []) (h : f_Run_handOnKept_b169 o k2 a1 M = some q) : V S X 4 M 169 [(0, .ref (S.2.1 o)), (1, .int a1)] [] := by
  unfold f_Run_handOnKept_b169 at h
  refine v_iinc C [(1, .int (a1 + 1)), (0, .ref (S.2.1 o))] 1 (a1 + 1) dX5_handOnKept_169 rfl rfl (by decide) rfl ?_
  refine v_goto C 2 dX5_handOnKept_172 (by decide) ?_
  refine v_sub [1, 0] rfl ?_
  exact hk2 _ _ h
def f_Run_handOnKept_l102B (o : Nat) (k2 : Int32 → Mem → Option Mem) (k102 : Int32 → Int32 → Int32 → Mem → Option Mem) (a1 : Int32) (a2 : Int32) (a3 : Int32) (M : Mem) : Option Mem :=
  if a2 = 6 then
    if gin a1 14 then
      if (M 43 a1.toNatClampNeg) ≤ a3 then
        f_Run_handOnKept_b169 o k2 a1 M
      else
        if (M o 4) ≤ (M o 5) then
          f_Run_handOnKept_b169 o k2 a1 M
        else
          bnd (mset M (o + 8) 6 ((M (o + 8) 6) + 1)) fun M4 =>
          if gin a1 14 then
            if gin a3 220 then
              (f_Run_feed o M4 (M4 (29 + a1.toNatClampNeg) a3.toNatClampNeg) (a1 + 1)).bind fun q7 =>
              k102 a1 a2 (a3 + 1) q7
            else none
          else none
    else none
  else
    f_Run_handOnKept_b169 o k2 a1 M
set_option maxRecDepth 20000 in
theorem v_Run_handOnKept_l102B {S : SE} {X : MX} {q : Mem} {o : Nat} {k2 : Int32 → Mem → Option Mem} {k102 : Int32 → Int32 → Int32 → Mem → Option Mem} {a1 : Int32} {a2 : Int32} {a3 : Int32} {M : Mem} (C : CX S X cX5_handOnKept 4 RX5 4) (K : RT S X none none q) (ho : kd o = 5) (hk2 : ∀ (a1 : Int32) (M : Mem), k2 a1 M = some q → V S X 4 M 2 [(0, .ref (S.2.1 o)), (1, .int a1)] []) (hk102 : ∀ (a1 : Int32) (a2 : Int32) (a3 : Int32) (M : Mem), k102 a1 a2 a3 M = some q → V S X 4 M 102 [(0, .ref (S.2.1 o)), (1, .int a1), (2, .int a2), (3, .int a3)] []) (h : f_Run_handOnKept_l102B o k2 k102 a1 a2 a3 M = some q) : V S X 4 M 102 [(0, .ref (S.2.1 o)), (1, .int a1), (2, .int a2), (3, .int a3)] [] := by
  unfold f_Run_handOnKept_l102B at h
  refine v_iload_n C 2 dX5_handOnKept_102 rfl ?_
  refine v_bipush C 6 dX5_handOnKept_103 rfl ?_
  refine v_icmp_ne C 169 dX5_handOnKept_105 (by decide) (fun c10 => ?_) (fun c10 => ?_)
  · replace h := (ite_h h).2 c10
    refine v_sub [0, 1] rfl ?_
    exact v_Run_handOnKept_b169 C K ho hk2 h
  · replace h := (ite_h h).1 c10
    refine v_iload_n C 3 dX5_handOnKept_108 rfl ?_
    refine v_aload_n C 0 dX5_handOnKept_109 rfl ?_
    refine g_Run_kept C ho fl_X5_40 dX5_handOnKept_110 ?_
    refine g_Kept_sizes C kk27 fl_X5_157 dX5_handOnKept_113 ?_
    refine v_iload_n C 1 dX5_handOnKept_116 rfl ?_
    obtain ⟨g3, h⟩ := gd_h h
    refine v_iald C kk43 ll43 g3 dX5_handOnKept_117 ?_
    refine v_icmp_ge C 169 dX5_handOnKept_118 (by decide) (fun c9 => ?_) (fun c9 => ?_)
    · replace h := (ite_h h).1 c9
      refine v_sub [0, 1] rfl ?_
      exact v_Run_handOnKept_b169 C K ho hk2 h
    · replace h := (ite_h h).2 c9
      refine v_aload_n C 0 dX5_handOnKept_121 rfl ?_
      refine g_Run_arrived C ho fl_X5_37 dX5_handOnKept_122 ?_
      refine v_aload_n C 0 dX5_handOnKept_125 rfl ?_
      refine g_Run_wanted C ho fl_X5_33 dX5_handOnKept_126 ?_
      refine v_icmp_ge C 169 dX5_handOnKept_129 (by decide) (fun c8 => ?_) (fun c8 => ?_)
      · replace h := (ite_h h).1 c8
        refine v_sub [0, 1] rfl ?_
        exact v_Run_handOnKept_b169 C K ho hk2 h
      · replace h := (ite_h h).2 c8
        refine v_aload_n C 0 dX5_handOnKept_132 rfl ?_
        refine g_Run_report C ho fl_X5_28 dX5_handOnKept_133 ?_
        refine v_dup C dX5_handOnKept_136 rfl ?_
        refine g_Report_handedOn C (kd_Run_report ho) fl_X5_140 dX5_handOnKept_137 ?_
        refine v_iconst C 1 dX5_handOnKept_140 rfl ?_
        refine v_iadd C dX5_handOnKept_141 ?_
        refine p_Report_handedOn C (kd_Run_report ho) fl_X5_140 dX5_handOnKept_142 ?_
        refine v_nmm h (fun M4 h => ?_)
        refine v_aload_n C 0 dX5_handOnKept_145 rfl ?_
        refine v_aload_n C 0 dX5_handOnKept_146 rfl ?_
        refine g_Run_kept C ho fl_X5_40 dX5_handOnKept_147 ?_
        refine g_Kept_rows C kk27 fl_X5_160 dX5_handOnKept_150 ?_
        refine v_iload_n C 1 dX5_handOnKept_153 rfl ?_
        obtain ⟨g5, h⟩ := gd_h h
        refine v_aaldR C g5 dX5_handOnKept_154 ?_
        refine v_iload_n C 3 dX5_handOnKept_155 rfl ?_
        obtain ⟨g6, h⟩ := gd_h h
        refine v_iald C (kd_R (i := a1) g5) (ln_R (i := a1) g5) g6 dX5_handOnKept_156 ?_
        refine v_iload_n C 1 dX5_handOnKept_157 rfl ?_
        refine v_iconst C 1 dX5_handOnKept_158 rfl ?_
        refine v_iadd C dX5_handOnKept_159 ?_
        obtain ⟨q7, hq7, h⟩ := Option.bind_eq_some_iff.mp h
        refine cv5v C [] ho (m_Run_feed C.inj o ho M4 (M4 (29 + a1.toNatClampNeg) a3.toNatClampNeg) (a1 + 1) q7 hq7) ci_Run_feed rfl lk_X5_147 (by decide) rfl rfl (Nat.le_of_ble_eq_true rfl) dX5_handOnKept_160 ?_
        refine v_iinc C [(3, .int (a3 + 1)), (0, .ref (S.2.1 o)), (1, .int a1), (2, .int a2)] 3 (a3 + 1) dX5_handOnKept_163 rfl rfl (by decide) rfl ?_
        refine v_goto C 102 dX5_handOnKept_166 (by decide) ?_
        refine v_sub [1, 2, 3, 0] rfl ?_
        exact hk102 _ _ _ _ h
def f_Run_handOnKept_l102 (o : Nat) (k2 : Int32 → Mem → Option Mem) : Nat → Int32 → Int32 → Int32 → Mem → Option Mem
  | 0, _, _, _, _ => none
  | n + 1, a1, a2, a3, M => f_Run_handOnKept_l102B o k2 (f_Run_handOnKept_l102 o k2 n) a1 a2 a3 M
theorem v_Run_handOnKept_l102 {S : SE} {X : MX} {q : Mem} {o : Nat} {k2 : Int32 → Mem → Option Mem} (C : CX S X cX5_handOnKept 4 RX5 4) (K : RT S X none none q) (ho : kd o = 5) (hk2 : ∀ (a1 : Int32) (M : Mem), k2 a1 M = some q → V S X 4 M 2 [(0, .ref (S.2.1 o)), (1, .int a1)] []) : ∀ (n : Nat) (a1 : Int32) (a2 : Int32) (a3 : Int32) (M : Mem), f_Run_handOnKept_l102 o k2 n a1 a2 a3 M = some q → V S X 4 M 102 [(0, .ref (S.2.1 o)), (1, .int a1), (2, .int a2), (3, .int a3)] [] := by
  intro n
  induction n with
  | zero => intro a1 a2 a3 M h; cases h
  | succ n ih => intro a1 a2 a3 M h; exact v_Run_handOnKept_l102B C K ho hk2 ih h
def f_Run_handOnKept_b100 (o : Nat) (k2 : Int32 → Mem → Option Mem) (a1 : Int32) (a2 : Int32) (M : Mem) : Option Mem :=
  f_Run_handOnKept_l102 o k2 FU a1 a2 0 M
set_option maxRecDepth 20000 in
theorem v_Run_handOnKept_b100 {S : SE} {X : MX} {q : Mem} {o : Nat} {k2 : Int32 → Mem → Option Mem} {a1 : Int32} {a2 : Int32} {M : Mem} (C : CX S X cX5_handOnKept 4 RX5 4) (K : RT S X none none q) (ho : kd o = 5) (hk2 : ∀ (a1 : Int32) (M : Mem), k2 a1 M = some q → V S X 4 M 2 [(0, .ref (S.2.1 o)), (1, .int a1)] []) (h : f_Run_handOnKept_b100 o k2 a1 a2 M = some q) : V S X 4 M 100 [(0, .ref (S.2.1 o)), (1, .int a1), (2, .int a2)] [] := by
  unfold f_Run_handOnKept_b100 at h
  refine v_iconst C 0 dX5_handOnKept_100 rfl ?_
  refine v_istore_n C [(3, .int 0), (0, .ref (S.2.1 o)), (1, .int a1), (2, .int a2)] dX5_handOnKept_101 (by decide) rfl ?_
  refine v_sub [1, 2, 3, 0] rfl ?_
  exact v_Run_handOnKept_l102 C K ho hk2 FU _ _ _ _ h
def f_Run_handOnKept_l25B (o : Nat) (k2 : Int32 → Mem → Option Mem) (k25 : Int32 → Int32 → Int32 → Mem → Option Mem) (a1 : Int32) (a2 : Int32) (a3 : Int32) (M : Mem) : Option Mem :=
  if a2 = 4 then
    if (M (o + 4) 3) ≤ a3 then
      f_Run_handOnKept_b100 o k2 a1 a2 M
    else
      if (M o 4) ≤ (M o 5) then
        f_Run_handOnKept_b100 o k2 a1 a2 M
      else
        bnd (mset M (o + 8) 6 ((M (o + 8) 6) + 1)) fun M11 =>
        if gin a3 10 then
          if gin a3 10 then
            (f_Run_feed o M11 (f_Run_packed (M11 ((o + 4) + 1) a3.toNatClampNeg) (M11 ((o + 4) + 2) a3.toNatClampNeg) a3) (a1 + 1)).bind fun q14 =>
            k25 a1 a2 (a3 + 1) q14
          else none
        else none
  else
    f_Run_handOnKept_b100 o k2 a1 a2 M
set_option maxRecDepth 20000 in
theorem v_Run_handOnKept_l25B {S : SE} {X : MX} {q : Mem} {o : Nat} {k2 : Int32 → Mem → Option Mem} {k25 : Int32 → Int32 → Int32 → Mem → Option Mem} {a1 : Int32} {a2 : Int32} {a3 : Int32} {M : Mem} (C : CX S X cX5_handOnKept 4 RX5 4) (K : RT S X none none q) (ho : kd o = 5) (hk2 : ∀ (a1 : Int32) (M : Mem), k2 a1 M = some q → V S X 4 M 2 [(0, .ref (S.2.1 o)), (1, .int a1)] []) (hk25 : ∀ (a1 : Int32) (a2 : Int32) (a3 : Int32) (M : Mem), k25 a1 a2 a3 M = some q → V S X 4 M 25 [(0, .ref (S.2.1 o)), (1, .int a1), (2, .int a2), (3, .int a3)] []) (h : f_Run_handOnKept_l25B o k2 k25 a1 a2 a3 M = some q) : V S X 4 M 25 [(0, .ref (S.2.1 o)), (1, .int a1), (2, .int a2), (3, .int a3)] [] := by
  unfold f_Run_handOnKept_l25B at h
  refine v_iload_n C 2 dX5_handOnKept_25 rfl ?_
  refine v_iconst C 4 dX5_handOnKept_26 rfl ?_
  refine v_icmp_ne C 100 dX5_handOnKept_27 (by decide) (fun c17 => ?_) (fun c17 => ?_)
  · replace h := (ite_h h).2 c17
    refine v_sub [0, 1, 2] rfl ?_
    exact v_Run_handOnKept_b100 C K ho hk2 h
  · replace h := (ite_h h).1 c17
    refine v_iload_n C 3 dX5_handOnKept_30 rfl ?_
    refine v_aload_n C 0 dX5_handOnKept_31 rfl ?_
    refine g_Run_pairs C ho fl_X5_21 dX5_handOnKept_32 ?_
    refine g_Pairs_size C (kd_Run_pairs ho) fl_X5_154 dX5_handOnKept_35 ?_
    refine v_icmp_ge C 100 dX5_handOnKept_38 (by decide) (fun c16 => ?_) (fun c16 => ?_)
    · replace h := (ite_h h).1 c16
      refine v_sub [0, 1, 2] rfl ?_
      exact v_Run_handOnKept_b100 C K ho hk2 h
    · replace h := (ite_h h).2 c16
      refine v_aload_n C 0 dX5_handOnKept_41 rfl ?_
      refine g_Run_arrived C ho fl_X5_37 dX5_handOnKept_42 ?_
      refine v_aload_n C 0 dX5_handOnKept_45 rfl ?_
      refine g_Run_wanted C ho fl_X5_33 dX5_handOnKept_46 ?_
      refine v_icmp_ge C 100 dX5_handOnKept_49 (by decide) (fun c15 => ?_) (fun c15 => ?_)
      · replace h := (ite_h h).1 c15
        refine v_sub [0, 1, 2] rfl ?_
        exact v_Run_handOnKept_b100 C K ho hk2 h
      · replace h := (ite_h h).2 c15
        refine v_aload_n C 0 dX5_handOnKept_52 rfl ?_
        refine g_Run_report C ho fl_X5_28 dX5_handOnKept_53 ?_
        refine v_dup C dX5_handOnKept_56 rfl ?_
        refine g_Report_handedOn C (kd_Run_report ho) fl_X5_140 dX5_handOnKept_57 ?_
        refine v_iconst C 1 dX5_handOnKept_60 rfl ?_
        refine v_iadd C dX5_handOnKept_61 ?_
        refine p_Report_handedOn C (kd_Run_report ho) fl_X5_140 dX5_handOnKept_62 ?_
        refine v_nmm h (fun M11 h => ?_)
        refine v_aload_n C 0 dX5_handOnKept_65 rfl ?_
        refine v_aload_n C 0 dX5_handOnKept_66 rfl ?_
        refine g_Run_pairs C ho fl_X5_21 dX5_handOnKept_67 ?_
        refine g_Pairs_keys C (kd_Run_pairs ho) fl_X5_155 dX5_handOnKept_70 ?_
        refine v_iload_n C 3 dX5_handOnKept_73 rfl ?_
        obtain ⟨g12, h⟩ := gd_h h
        refine v_iald C (kd_Pairs_keys (kd_Run_pairs ho)) (ln_Pairs_keys (kd_Run_pairs ho)) g12 dX5_handOnKept_74 ?_
        refine v_aload_n C 0 dX5_handOnKept_75 rfl ?_
        refine g_Run_pairs C ho fl_X5_21 dX5_handOnKept_76 ?_
        refine g_Pairs_values C (kd_Run_pairs ho) fl_X5_156 dX5_handOnKept_79 ?_
        refine v_iload_n C 3 dX5_handOnKept_82 rfl ?_
        obtain ⟨g13, h⟩ := gd_h h
        refine v_iald C (kd_Pairs_values (kd_Run_pairs ho)) (ln_Pairs_values (kd_Run_pairs ho)) g13 dX5_handOnKept_83 ?_
        refine v_iload_n C 3 dX5_handOnKept_84 rfl ?_
        refine cs C [.ref (S.2.1 o)] (m_Run_packed C.inj M11 (M11 ((o + 4) + 1) a3.toNatClampNeg) (M11 ((o + 4) + 2) a3.toNatClampNeg) a3 _ rfl) ci_Run_packed lk_X5_143 (by decide) rfl rfl (Nat.le_of_ble_eq_true rfl) dX5_handOnKept_85 ?_
        refine v_iload_n C 1 dX5_handOnKept_88 rfl ?_
        refine v_iconst C 1 dX5_handOnKept_89 rfl ?_
        refine v_iadd C dX5_handOnKept_90 ?_
        obtain ⟨q14, hq14, h⟩ := Option.bind_eq_some_iff.mp h
        refine cv5v C [] ho (m_Run_feed C.inj o ho M11 (f_Run_packed (M11 ((o + 4) + 1) a3.toNatClampNeg) (M11 ((o + 4) + 2) a3.toNatClampNeg) a3) (a1 + 1) q14 hq14) ci_Run_feed rfl lk_X5_147 (by decide) rfl rfl (Nat.le_of_ble_eq_true rfl) dX5_handOnKept_91 ?_
        refine v_iinc C [(3, .int (a3 + 1)), (0, .ref (S.2.1 o)), (1, .int a1), (2, .int a2)] 3 (a3 + 1) dX5_handOnKept_94 rfl rfl (by decide) rfl ?_
        refine v_goto C 25 dX5_handOnKept_97 (by decide) ?_
        refine v_sub [1, 2, 3, 0] rfl ?_
        exact hk25 _ _ _ _ h
def f_Run_handOnKept_l25 (o : Nat) (k2 : Int32 → Mem → Option Mem) : Nat → Int32 → Int32 → Int32 → Mem → Option Mem
  | 0, _, _, _, _ => none
  | n + 1, a1, a2, a3, M => f_Run_handOnKept_l25B o k2 (f_Run_handOnKept_l25 o k2 n) a1 a2 a3 M
theorem v_Run_handOnKept_l25 {S : SE} {X : MX} {q : Mem} {o : Nat} {k2 : Int32 → Mem → Option Mem} (C : CX S X cX5_handOnKept 4 RX5 4) (K : RT S X none none q) (ho : kd o = 5) (hk2 : ∀ (a1 : Int32) (M : Mem), k2 a1 M = some q → V S X 4 M 2 [(0, .ref (S.2.1 o)), (1, .int a1)] []) : ∀ (n : Nat) (a1 : Int32) (a2 : Int32) (a3 : Int32) (M : Mem), f_Run_handOnKept_l25 o k2 n a1 a2 a3 M = some q → V S X 4 M 25 [(0, .ref (S.2.1 o)), (1, .int a1), (2, .int a2), (3, .int a3)] [] := by
  intro n
  induction n with
  | zero => intro a1 a2 a3 M h; cases h
  | succ n ih => intro a1 a2 a3 M h; exact v_Run_handOnKept_l25B C K ho hk2 ih h
def f_Run_handOnKept_l2B (o : Nat) (k2 : Int32 → Mem → Option Mem) (a1 : Int32) (M : Mem) : Option Mem :=
  if (M (o + 1) 2) ≤ a1 then
    some M
  else
    if gin a1 14 then
      bnd (M ((o + 1) + 1) a1.toNatClampNeg) fun x2 =>
      f_Run_handOnKept_l25 o k2 FU a1 x2 0 M
    else none
set_option maxRecDepth 20000 in
theorem v_Run_handOnKept_l2B {S : SE} {X : MX} {q : Mem} {o : Nat} {k2 : Int32 → Mem → Option Mem} {a1 : Int32} {M : Mem} (C : CX S X cX5_handOnKept 4 RX5 4) (K : RT S X none none q) (ho : kd o = 5) (hk2 : ∀ (a1 : Int32) (M : Mem), k2 a1 M = some q → V S X 4 M 2 [(0, .ref (S.2.1 o)), (1, .int a1)] []) (h : f_Run_handOnKept_l2B o k2 a1 M = some q) : V S X 4 M 2 [(0, .ref (S.2.1 o)), (1, .int a1)] [] := by
  unfold f_Run_handOnKept_l2B at h
  refine v_iload_n C 1 dX5_handOnKept_2 rfl ?_
  refine v_aload_n C 0 dX5_handOnKept_3 rfl ?_
  refine g_Run_course C ho fl_X5_12 dX5_handOnKept_4 ?_
  refine g_Course_size C (kd_Run_course ho) fl_X5_150 dX5_handOnKept_7 ?_
  refine v_icmp_ge C 175 dX5_handOnKept_10 (by decide) (fun c18 => ?_) (fun c18 => ?_)
  · replace h := (ite_h h).1 c18
    obtain rfl := Option.some.inj h
    exact v_vret C K dX5_handOnKept_175
  · replace h := (ite_h h).2 c18
    refine v_aload_n C 0 dX5_handOnKept_13 rfl ?_
    refine g_Run_course C ho fl_X5_12 dX5_handOnKept_14 ?_
    refine g_Course_codes C (kd_Run_course ho) fl_X5_151 dX5_handOnKept_17 ?_
    refine v_iload_n C 1 dX5_handOnKept_20 rfl ?_
    obtain ⟨g1, h⟩ := gd_h h
    refine v_iald C (kd_Course_codes (kd_Run_course ho)) (ln_Course_codes (kd_Run_course ho)) g1 dX5_handOnKept_21 ?_
    refine v_nmi h (fun x2 h => ?_)
    refine v_istore_n C [(2, .int x2), (0, .ref (S.2.1 o)), (1, .int a1)] dX5_handOnKept_22 (by decide) rfl ?_
    refine v_iconst C 0 dX5_handOnKept_23 rfl ?_
    refine v_istore_n C [(3, .int 0), (2, .int x2), (0, .ref (S.2.1 o)), (1, .int a1)] dX5_handOnKept_24 (by decide) rfl ?_
    refine v_sub [2, 3, 1, 0] rfl ?_
    exact v_Run_handOnKept_l25 C K ho hk2 FU _ _ _ _ h
def f_Run_handOnKept_l2 (o : Nat) : Nat → Int32 → Mem → Option Mem
  | 0, _, _ => none
  | n + 1, a1, M => f_Run_handOnKept_l2B o (f_Run_handOnKept_l2 o n) a1 M
theorem v_Run_handOnKept_l2 {S : SE} {X : MX} {q : Mem} {o : Nat} (C : CX S X cX5_handOnKept 4 RX5 4) (K : RT S X none none q) (ho : kd o = 5) : ∀ (n : Nat) (a1 : Int32) (M : Mem), f_Run_handOnKept_l2 o n a1 M = some q → V S X 4 M 2 [(0, .ref (S.2.1 o)), (1, .int a1)] [] := by
  intro n
  induction n with
  | zero => intro a1 M h; cases h
  | succ n ih => intro a1 M h; exact v_Run_handOnKept_l2B C K ho ih h
def f_Run_handOnKept (o : Nat) (M : Mem) : Option Mem :=
  f_Run_handOnKept_l2 o FU 1 M
set_option maxRecDepth 20000 in
theorem v_Run_handOnKept {S : SE} {X : MX} {q : Mem} {o : Nat} {M : Mem} (C : CX S X cX5_handOnKept 4 RX5 4) (K : RT S X none none q) (ho : kd o = 5) (h : f_Run_handOnKept o M = some q) : V S X 4 M 0 [(0, .ref (S.2.1 o))] [] := by
  unfold f_Run_handOnKept at h
  refine v_iconst C 1 dX5_handOnKept_0 rfl ?_
  refine v_istore_n C [(1, .int 1), (0, .ref (S.2.1 o))] dX5_handOnKept_1 (by decide) rfl ?_
  refine v_sub [1, 0] rfl ?_
  exact v_Run_handOnKept_l2 C K ho FU _ _ h
theorem m_Run_handOnKept {S : SE} (hI : Inj S) (o : Nat) (ho : kd o = 5) (M : Mem) (q : Mem) (h : f_Run_handOnKept o M = some q) : CM S yX5_handOnKept cX5_handOnKept 4 none 4 [.ref (S.2.1 o)] M none q :=
  CM.of [(0, .ref (S.2.1 o))] hI (by decide) rfl (Nat.le_of_ble_eq_true rfl) (fun X C K => v_Run_handOnKept C K ho h)
def f_Run_askRowByRow_l53B (o : Nat) (k53 : Int32 → Int32 → Mem → Option Mem) (a2 : Int32) (a5 : Int32) (M : Mem) : Option Mem :=
  if (M 4 2) ≤ a5 then
    some M
  else
    if (M (o + 8) 4) = (-1) then
      if gin a5 10 then
        if gin a5 10 then
          bnd (f_Pairs_setOne (o + 4) M (M 5 a5.toNatClampNeg) (M 6 a5.toNatClampNeg)) fun q6 =>
          (f_Run_begin o q6).bind fun q7 =>
          (f_Run_readInner o 7 q7).bind fun q8 =>
          (f_Run_handOnKept o q8).bind fun q9 =>
          if gin a5 10 then
            (f_Report_settle (o + 8) (45 + (0 : Int32).toNatClampNeg) q9 a5 a2 (q9 6 a5.toNatClampNeg)).bind fun q11 =>
            (f_Report_shutAll (o + 8) (o + 1) q11).bind fun q12 =>
            k53 a2 (a5 + 1) q12
          else none
        else none
      else none
    else
      some M
set_option maxRecDepth 20000 in
theorem v_Run_askRowByRow_l53B {S : SE} {X : MX} {q : Mem} {o : Nat} {k53 : Int32 → Int32 → Mem → Option Mem} {a2 : Int32} {a5 : Int32} {M : Mem} (C : CX S X cX5_askRowByRow 6 RX5 5) (K : RT S X none none q) (ho : kd o = 5) (hk53 : ∀ (a2 : Int32) (a5 : Int32) (M : Mem), k53 a2 a5 M = some q → V S X 6 M 53 [(0, .ref (S.2.1 o)), (1, .ref (S.2.1 3)), (2, .int a2), (4, .ref (S.2.1 4)), (5, .int a5)] []) (h : f_Run_askRowByRow_l53B o k53 a2 a5 M = some q) : V S X 6 M 53 [(0, .ref (S.2.1 o)), (1, .ref (S.2.1 3)), (2, .int a2), (4, .ref (S.2.1 4)), (5, .int a5)] [] := by
  unfold f_Run_askRowByRow_l53B at h
  refine v_iload C 4 dX5_askRowByRow_53 rfl ?_
  refine v_aload C 3 dX5_askRowByRow_55 rfl ?_
  refine g_Table_size C kk4 fl_X5_61 dX5_askRowByRow_57 ?_
  refine v_icmp_ge C 157 dX5_askRowByRow_60 (by decide) (fun c14 => ?_) (fun c14 => ?_)
  · replace h := (ite_h h).1 c14
    obtain rfl := Option.some.inj h
    exact v_vret C K dX5_askRowByRow_157
  · replace h := (ite_h h).2 c14
    refine v_aload_n C 0 dX5_askRowByRow_63 rfl ?_
    refine g_Run_report C ho fl_X5_28 dX5_askRowByRow_64 ?_
    refine g_Report_error C (kd_Run_report ho) fl_X5_66 dX5_askRowByRow_67 ?_
    refine v_iconst C (-1) dX5_askRowByRow_70 rfl ?_
    refine v_icmp_ne C 157 dX5_askRowByRow_71 (by decide) (fun c13 => ?_) (fun c13 => ?_)
    · replace h := (ite_h h).2 c13
      obtain rfl := Option.some.inj h
      exact v_vret C K dX5_askRowByRow_157
    · replace h := (ite_h h).1 c13
      refine v_aload_n C 0 dX5_askRowByRow_74 rfl ?_
      refine g_Run_pairs C ho fl_X5_21 dX5_askRowByRow_75 ?_
      refine v_aload C 3 dX5_askRowByRow_78 rfl ?_
      refine g_Table_keys C kk4 fl_X5_69 dX5_askRowByRow_80 ?_
      refine v_iload C 4 dX5_askRowByRow_83 rfl ?_
      obtain ⟨g4, h⟩ := gd_h h
      refine v_iald C kk5 ll5 g4 dX5_askRowByRow_85 ?_
      refine v_aload C 3 dX5_askRowByRow_86 rfl ?_
      refine g_Table_values C kk4 fl_X5_73 dX5_askRowByRow_88 ?_
      refine v_iload C 4 dX5_askRowByRow_91 rfl ?_
      obtain ⟨g5, h⟩ := gd_h h
      refine v_iald C kk6 ll6 g5 dX5_askRowByRow_93 ?_
      obtain ⟨q6, hq6, h⟩ := bnd_ex h
      refine cv2v C [] (kd_Run_pairs ho) (m_Pairs_setOne C.inj (o + 4) (kd_Run_pairs ho) M (M 5 a5.toNatClampNeg) (M 6 a5.toNatClampNeg) q6 hq6) ci_Pairs_setOne rfl lk_X5_76 (by decide) rfl rfl (Nat.le_of_ble_eq_true rfl) dX5_askRowByRow_94 ?_
      refine v_aload_n C 0 dX5_askRowByRow_97 rfl ?_
      obtain ⟨q7, hq7, h⟩ := Option.bind_eq_some_iff.mp h
      refine cv5v C [] ho (m_Run_begin C.inj o ho q6 q7 hq7) ci_Run_begin rfl lk_X5_80 (by decide) rfl rfl (Nat.le_of_ble_eq_true rfl) dX5_askRowByRow_98 ?_
      refine v_aload_n C 0 dX5_askRowByRow_101 rfl ?_
      refine v_aload_n C 1 dX5_askRowByRow_102 rfl ?_
      refine g_Question_inner C kk3 fl_X5_83 dX5_askRowByRow_103 ?_
      obtain ⟨q8, hq8, h⟩ := Option.bind_eq_some_iff.mp h
      refine cv5v C [] ho (m_Run_readInner C.inj o 7 ho kk7 q7 q8 hq8) ci_Run_readInner rfl lk_X5_86 (by decide) rfl rfl (Nat.le_of_ble_eq_true rfl) dX5_askRowByRow_106 ?_
      refine v_aload_n C 0 dX5_askRowByRow_109 rfl ?_
      obtain ⟨q9, hq9, h⟩ := Option.bind_eq_some_iff.mp h
      refine cv5v C [] ho (m_Run_handOnKept C.inj o ho q8 q9 hq9) ci_Run_handOnKept rfl lk_X5_90 (by decide) rfl rfl (Nat.le_of_ble_eq_true rfl) dX5_askRowByRow_110 ?_
      refine v_aload_n C 0 dX5_askRowByRow_113 rfl ?_
      refine g_Run_report C ho fl_X5_28 dX5_askRowByRow_114 ?_
      refine v_iload C 4 dX5_askRowByRow_117 rfl ?_
      refine v_aload_n C 0 dX5_askRowByRow_119 rfl ?_
      refine g_Run_kept C ho fl_X5_40 dX5_askRowByRow_120 ?_
      refine g_Kept_tallies C kk27 fl_X5_93 dX5_askRowByRow_123 ?_
      refine v_iconst C 0 dX5_askRowByRow_126 rfl ?_
      refine v_aaldL C (by decide) dX5_askRowByRow_127 ?_
      refine v_iload_n C 2 dX5_askRowByRow_128 rfl ?_
      refine v_aload C 3 dX5_askRowByRow_129 rfl ?_
      refine g_Table_values C kk4 fl_X5_73 dX5_askRowByRow_131 ?_
      refine v_iload C 4 dX5_askRowByRow_134 rfl ?_
      obtain ⟨g10, h⟩ := gd_h h
      refine v_iald C kk6 ll6 g10 dX5_askRowByRow_136 ?_
      obtain ⟨q11, hq11, h⟩ := Option.bind_eq_some_iff.mp h
      refine cv4v C [] (kd_Run_report ho) (m_Report_settle C.inj (o + 8) (45 + (0 : Int32).toNatClampNeg) (kd_Run_report ho) (kd_L (i := 0) (by decide)) q9 a5 a2 (q9 6 a5.toNatClampNeg) q11 hq11) ci_Report_settle rfl lk_X5_99 (by decide) rfl rfl (Nat.le_of_ble_eq_true rfl) dX5_askRowByRow_137 ?_
      refine v_aload_n C 0 dX5_askRowByRow_140 rfl ?_
      refine g_Run_report C ho fl_X5_28 dX5_askRowByRow_141 ?_
      refine v_aload_n C 0 dX5_askRowByRow_144 rfl ?_
      refine g_Run_course C ho fl_X5_12 dX5_askRowByRow_145 ?_
      obtain ⟨q12, hq12, h⟩ := Option.bind_eq_some_iff.mp h
      refine cv4v C [] (kd_Run_report ho) (m_Report_shutAll C.inj (o + 8) (o + 1) (kd_Run_report ho) (kd_Run_course ho) q11 q12 hq12) ci_Report_shutAll rfl lk_X5_103 (by decide) rfl rfl (Nat.le_of_ble_eq_true rfl) dX5_askRowByRow_148 ?_
      refine v_iinc C [(5, .int (a5 + 1)), (0, .ref (S.2.1 o)), (1, .ref (S.2.1 3)), (2, .int a2), (4, .ref (S.2.1 4))] 4 (a5 + 1) dX5_askRowByRow_151 rfl rfl (by decide) rfl ?_
      refine v_goto C 53 dX5_askRowByRow_154 (by decide) ?_
      refine v_sub [1, 2, 3, 4, 0] rfl ?_
      exact hk53 _ _ _ h
def f_Run_askRowByRow_l53 (o : Nat) : Nat → Int32 → Int32 → Mem → Option Mem
  | 0, _, _, _ => none
  | n + 1, a2, a5, M => f_Run_askRowByRow_l53B o (f_Run_askRowByRow_l53 o n) a2 a5 M
theorem v_Run_askRowByRow_l53 {S : SE} {X : MX} {q : Mem} {o : Nat} (C : CX S X cX5_askRowByRow 6 RX5 5) (K : RT S X none none q) (ho : kd o = 5) : ∀ (n : Nat) (a2 : Int32) (a5 : Int32) (M : Mem), f_Run_askRowByRow_l53 o n a2 a5 M = some q → V S X 6 M 53 [(0, .ref (S.2.1 o)), (1, .ref (S.2.1 3)), (2, .int a2), (4, .ref (S.2.1 4)), (5, .int a5)] [] := by
  intro n
  induction n with
  | zero => intro a2 a5 M h; cases h
  | succ n ih => intro a2 a5 M h; exact v_Run_askRowByRow_l53B C K ho ih h
def f_Run_askRowByRow_b47 (o : Nat) (a2 : Int32) (s0 : Int32) (M : Mem) : Option Mem :=
  bnd (mset M o 4 s0) fun M3 =>
  f_Run_askRowByRow_l53 o FU a2 0 M3
set_option maxRecDepth 20000 in
theorem v_Run_askRowByRow_b47 {S : SE} {X : MX} {q : Mem} {o : Nat} {a2 : Int32} {s0 : Int32} {M : Mem} (C : CX S X cX5_askRowByRow 6 RX5 5) (K : RT S X none none q) (ho : kd o = 5) (h : f_Run_askRowByRow_b47 o a2 s0 M = some q) : V S X 6 M 47 [(0, .ref (S.2.1 o)), (1, .ref (S.2.1 3)), (2, .int a2), (4, .ref (S.2.1 4))] [.int s0, .ref (S.2.1 o)] := by
  unfold f_Run_askRowByRow_b47 at h
  refine p_Run_wanted C ho fl_X5_33 dX5_askRowByRow_47 ?_
  refine v_nmm h (fun M3 h => ?_)
  refine v_iconst C 0 dX5_askRowByRow_50 rfl ?_
  refine v_istore C [(5, .int 0), (0, .ref (S.2.1 o)), (1, .ref (S.2.1 3)), (2, .int a2), (4, .ref (S.2.1 4))] dX5_askRowByRow_51 (by decide) rfl ?_
  refine v_sub [1, 2, 3, 4, 0] rfl ?_
  exact v_Run_askRowByRow_l53 C K ho FU _ _ _ h
def f_Run_askRowByRow (o : Nat) (M : Mem) (a2 : Int32) (a3 : Int32) : Option Mem :=
  (f_Course_layRowByRow (o + 1) M a3).bind fun q1 =>
  bnd (f_Report_clear (o + 8) q1) fun q2 =>
  if a2 = 5 then
    f_Run_askRowByRow_b47 o a2 2 q2
  else
    if a2 = 6 then
      f_Run_askRowByRow_b47 o a2 1 q2
    else
      f_Run_askRowByRow_b47 o a2 1000000 q2
set_option maxRecDepth 20000 in
theorem v_Run_askRowByRow {S : SE} {X : MX} {q : Mem} {o : Nat} {M : Mem} {a2 : Int32} {a3 : Int32} (C : CX S X cX5_askRowByRow 6 RX5 5) (K : RT S X none none q) (ho : kd o = 5) (h : f_Run_askRowByRow o M a2 a3 = some q) : V S X 6 M 0 [(0, .ref (S.2.1 o)), (1, .ref (S.2.1 3)), (2, .int a2), (3, .int a3)] [] := by
  unfold f_Run_askRowByRow at h
  refine v_aload_n C 1 dX5_askRowByRow_0 rfl ?_
  refine g_Question_outer C kk3 fl_X5_44 dX5_askRowByRow_1 ?_
  refine v_astore C [(4, .ref (S.2.1 4)), (0, .ref (S.2.1 o)), (1, .ref (S.2.1 3)), (2, .int a2), (3, .int a3)] dX5_askRowByRow_4 (by decide) rfl ?_
  refine v_aload_n C 1 dX5_askRowByRow_6 rfl ?_
  refine g_Run_course C ho fl_X5_12 dX5_askRowByRow_7 ?_
  refine v_aload_n C 2 dX5_askRowByRow_10 rfl ?_
  refine g_Question_steps C kk3 fl_X5_50 dX5_askRowByRow_11 ?_
  refine v_iload_n C 4 dX5_askRowByRow_14 rfl ?_
  obtain ⟨q1, hq1, h⟩ := Option.bind_eq_some_iff.mp h
  refine cv0v C [] (kd_Run_course ho) (m_Course_layRowByRow C.inj (o + 1) (kd_Run_course ho) M a3 q1 hq1) ci_Course_layRowByRow rfl lk_X5_54 (by decide) rfl rfl (Nat.le_of_ble_eq_true rfl) dX5_askRowByRow_15 ?_
  refine v_aload_n C 1 dX5_askRowByRow_18 rfl ?_
  refine g_Run_report C ho fl_X5_28 dX5_askRowByRow_19 ?_
  obtain ⟨q2, hq2, h⟩ := bnd_ex h
  refine cv4v C [] (kd_Run_report ho) (m_Report_clear C.inj (o + 8) (kd_Run_report ho) q1 q2 hq2) ci_Report_clear rfl lk_X5_58 (by decide) rfl rfl (Nat.le_of_ble_eq_true rfl) dX5_askRowByRow_22 ?_
  refine v_aload_n C 1 dX5_askRowByRow_25 rfl ?_
  refine v_iload_n C 3 dX5_askRowByRow_26 rfl ?_
  refine v_iconst C 5 dX5_askRowByRow_27 rfl ?_
  refine v_icmp_ne C 35 dX5_askRowByRow_28 (by decide) (fun c16 => ?_) (fun c16 => ?_)
  · replace h := (ite_h h).2 c16
    refine v_iload_n C 3 dX5_askRowByRow_35 rfl ?_
    refine v_bipush C 6 dX5_askRowByRow_36 rfl ?_
    refine v_icmp_ne C 45 dX5_askRowByRow_38 (by decide) (fun c15 => ?_) (fun c15 => ?_)
    · replace h := (ite_h h).2 c15
      refine v_ldc C kc_X5_32 dX5_askRowByRow_45 ?_
      refine v_sub [1, 2, 3, 0] rfl ?_
      exact v_Run_askRowByRow_b47 C K ho h
    · replace h := (ite_h h).1 c15
      refine v_iconst C 1 dX5_askRowByRow_41 rfl ?_
      refine v_goto C 47 dX5_askRowByRow_42 (by decide) ?_
      refine v_sub [1, 2, 3, 0] rfl ?_
      exact v_Run_askRowByRow_b47 C K ho h
  · replace h := (ite_h h).1 c16
    refine v_iconst C 2 dX5_askRowByRow_31 rfl ?_
    refine v_goto C 47 dX5_askRowByRow_32 (by decide) ?_
    refine v_sub [1, 2, 3, 0] rfl ?_
    exact v_Run_askRowByRow_b47 C K ho h
theorem m_Run_askRowByRow {S : SE} (hI : Inj S) (o : Nat) (ho : kd o = 5) (M : Mem) (a2 : Int32) (a3 : Int32) (q : Mem) (h : f_Run_askRowByRow o M a2 a3 = some q) : CM S yX5_askRowByRow cX5_askRowByRow 6 none 5 [.ref (S.2.1 o), .ref (S.2.1 3), .int a2, .int a3] M none q :=
  CM.of [(0, .ref (S.2.1 o)), (1, .ref (S.2.1 3)), (2, .int a2), (3, .int a3)] hI (by decide) rfl (Nat.le_of_ble_eq_true rfl) (fun X C K => v_Run_askRowByRow C K ho h)
def f_Run_askFree_b161 (o : Nat) (M : Mem) : Option Mem :=
  (f_Report_shutAll (o + 8) (o + 1) M).bind fun q8 =>
  some q8
set_option maxRecDepth 20000 in
theorem v_Run_askFree_b161 {S : SE} {X : MX} {q : Mem} {o : Nat} {M : Mem} (C : CX S X cX5_askFree 5 RX5 5) (K : RT S X none none q) (ho : kd o = 5) (h : f_Run_askFree_b161 o M = some q) : V S X 5 M 161 [(0, .ref (S.2.1 o))] [] := by
  unfold f_Run_askFree_b161 at h
  refine v_aload_n C 0 dX5_askFree_161 rfl ?_
  refine g_Run_report C ho fl_X5_28 dX5_askFree_162 ?_
  refine v_aload_n C 0 dX5_askFree_165 rfl ?_
  refine g_Run_course C ho fl_X5_12 dX5_askFree_166 ?_
  obtain ⟨q8, hq8, h⟩ := Option.bind_eq_some_iff.mp h
  refine cv4v C [] (kd_Run_report ho) (m_Report_shutAll C.inj (o + 8) (o + 1) (kd_Run_report ho) (kd_Run_course ho) M q8 hq8) ci_Report_shutAll rfl lk_X5_103 (by decide) rfl rfl (Nat.le_of_ble_eq_true rfl) dX5_askFree_169 ?_
  obtain rfl := Option.some.inj h
  exact v_vret C K dX5_askFree_172
def f_Run_askFree_l100B (o : Nat) (k100 : Int32 → Int32 → Mem → Option Mem) (a2 : Int32) (a4 : Int32) (M : Mem) : Option Mem :=
  if (M 4 2) ≤ a4 then
    f_Run_askFree_b161 o M
  else
    if (M (o + 8) 4) = (-1) then
      if gin a4 10 then
        if gin (M ((o + 4) + 3) a4.toNatClampNeg) 10 then
          if gin a4 10 then
            (f_Report_settle (o + 8) (45 + (M ((o + 4) + 3) a4.toNatClampNeg).toNatClampNeg) M a4 a2 (M 6 a4.toNatClampNeg)).bind fun q12 =>
            k100 a2 (a4 + 1) q12
          else none
        else none
      else none
    else
      f_Run_askFree_b161 o M
set_option maxRecDepth 20000 in
theorem v_Run_askFree_l100B {S : SE} {X : MX} {q : Mem} {o : Nat} {k100 : Int32 → Int32 → Mem → Option Mem} {a2 : Int32} {a4 : Int32} {M : Mem} (C : CX S X cX5_askFree 5 RX5 5) (K : RT S X none none q) (ho : kd o = 5) (hk100 : ∀ (a2 : Int32) (a4 : Int32) (M : Mem), k100 a2 a4 M = some q → V S X 5 M 100 [(0, .ref (S.2.1 o)), (2, .int a2), (3, .ref (S.2.1 4)), (4, .int a4)] []) (h : f_Run_askFree_l100B o k100 a2 a4 M = some q) : V S X 5 M 100 [(0, .ref (S.2.1 o)), (2, .int a2), (3, .ref (S.2.1 4)), (4, .int a4)] [] := by
  unfold f_Run_askFree_l100B at h
  refine v_iload C 3 dX5_askFree_100 rfl ?_
  refine v_aload_n C 2 dX5_askFree_102 rfl ?_
  refine g_Table_size C kk4 fl_X5_61 dX5_askFree_103 ?_
  refine v_icmp_ge C 161 dX5_askFree_106 (by decide) (fun c14 => ?_) (fun c14 => ?_)
  · replace h := (ite_h h).1 c14
    refine v_sub [0] rfl ?_
    exact v_Run_askFree_b161 C K ho h
  · replace h := (ite_h h).2 c14
    refine v_aload_n C 0 dX5_askFree_109 rfl ?_
    refine g_Run_report C ho fl_X5_28 dX5_askFree_110 ?_
    refine g_Report_error C (kd_Run_report ho) fl_X5_66 dX5_askFree_113 ?_
    refine v_iconst C (-1) dX5_askFree_116 rfl ?_
    refine v_icmp_ne C 161 dX5_askFree_117 (by decide) (fun c13 => ?_) (fun c13 => ?_)
    · replace h := (ite_h h).2 c13
      refine v_sub [0] rfl ?_
      exact v_Run_askFree_b161 C K ho h
    · replace h := (ite_h h).1 c13
      refine v_aload_n C 0 dX5_askFree_120 rfl ?_
      refine g_Run_report C ho fl_X5_28 dX5_askFree_121 ?_
      refine v_iload C 3 dX5_askFree_124 rfl ?_
      refine v_aload_n C 0 dX5_askFree_126 rfl ?_
      refine g_Run_kept C ho fl_X5_40 dX5_askFree_127 ?_
      refine g_Kept_tallies C kk27 fl_X5_93 dX5_askFree_130 ?_
      refine v_aload_n C 0 dX5_askFree_133 rfl ?_
      refine g_Run_pairs C ho fl_X5_21 dX5_askFree_134 ?_
      refine g_Pairs_places C (kd_Run_pairs ho) fl_X5_130 dX5_askFree_137 ?_
      refine v_iload C 3 dX5_askFree_140 rfl ?_
      obtain ⟨g9, h⟩ := gd_h h
      refine v_iald C (kd_Pairs_places (kd_Run_pairs ho)) (ln_Pairs_places (kd_Run_pairs ho)) g9 dX5_askFree_142 ?_
      obtain ⟨g10, h⟩ := gd_h h
      refine v_aaldL C g10 dX5_askFree_143 ?_
      refine v_iload_n C 1 dX5_askFree_144 rfl ?_
      refine v_aload_n C 2 dX5_askFree_145 rfl ?_
      refine g_Table_values C kk4 fl_X5_73 dX5_askFree_146 ?_
      refine v_iload C 3 dX5_askFree_149 rfl ?_
      obtain ⟨g11, h⟩ := gd_h h
      refine v_iald C kk6 ll6 g11 dX5_askFree_151 ?_
      obtain ⟨q12, hq12, h⟩ := Option.bind_eq_some_iff.mp h
      refine cv4v C [] (kd_Run_report ho) (m_Report_settle C.inj (o + 8) (45 + (M ((o + 4) + 3) a4.toNatClampNeg).toNatClampNeg) (kd_Run_report ho) (kd_L (i := (M ((o + 4) + 3) a4.toNatClampNeg)) g10) M a4 a2 (M 6 a4.toNatClampNeg) q12 hq12) ci_Report_settle rfl lk_X5_99 (by decide) rfl rfl (Nat.le_of_ble_eq_true rfl) dX5_askFree_152 ?_
      refine v_iinc C [(4, .int (a4 + 1)), (0, .ref (S.2.1 o)), (2, .int a2), (3, .ref (S.2.1 4))] 3 (a4 + 1) dX5_askFree_155 rfl rfl (by decide) rfl ?_
      refine v_goto C 100 dX5_askFree_158 (by decide) ?_
      refine v_sub [1, 2, 3, 0] rfl ?_
      exact hk100 _ _ _ h
def f_Run_askFree_l100 (o : Nat) : Nat → Int32 → Int32 → Mem → Option Mem
  | 0, _, _, _ => none
  | n + 1, a2, a4, M => f_Run_askFree_l100B o (f_Run_askFree_l100 o n) a2 a4 M
theorem v_Run_askFree_l100 {S : SE} {X : MX} {q : Mem} {o : Nat} (C : CX S X cX5_askFree 5 RX5 5) (K : RT S X none none q) (ho : kd o = 5) : ∀ (n : Nat) (a2 : Int32) (a4 : Int32) (M : Mem), f_Run_askFree_l100 o n a2 a4 M = some q → V S X 5 M 100 [(0, .ref (S.2.1 o)), (2, .int a2), (3, .ref (S.2.1 4)), (4, .int a4)] [] := by
  intro n
  induction n with
  | zero => intro a2 a4 M h; cases h
  | succ n ih => intro a2 a4 M h; exact v_Run_askFree_l100B C K ho ih h
def f_Run_askFree_b81 (o : Nat) (a2 : Int32) (M : Mem) : Option Mem :=
  (f_Run_begin o M).bind fun q5 =>
  (f_Run_readInner o 7 q5).bind fun q6 =>
  (f_Run_handOnKept o q6).bind fun q7 =>
  f_Run_askFree_l100 o FU a2 0 q7
set_option maxRecDepth 20000 in
theorem v_Run_askFree_b81 {S : SE} {X : MX} {q : Mem} {o : Nat} {a2 : Int32} {M : Mem} (C : CX S X cX5_askFree 5 RX5 5) (K : RT S X none none q) (ho : kd o = 5) (h : f_Run_askFree_b81 o a2 M = some q) : V S X 5 M 81 [(0, .ref (S.2.1 o)), (1, .ref (S.2.1 3)), (2, .int a2), (3, .ref (S.2.1 4))] [] := by
  unfold f_Run_askFree_b81 at h
  refine v_aload_n C 0 dX5_askFree_81 rfl ?_
  obtain ⟨q5, hq5, h⟩ := Option.bind_eq_some_iff.mp h
  refine cv5v C [] ho (m_Run_begin C.inj o ho M q5 hq5) ci_Run_begin rfl lk_X5_80 (by decide) rfl rfl (Nat.le_of_ble_eq_true rfl) dX5_askFree_82 ?_
  refine v_aload_n C 0 dX5_askFree_85 rfl ?_
  refine v_aload_n C 1 dX5_askFree_86 rfl ?_
  refine g_Question_inner C kk3 fl_X5_83 dX5_askFree_87 ?_
  obtain ⟨q6, hq6, h⟩ := Option.bind_eq_some_iff.mp h
  refine cv5v C [] ho (m_Run_readInner C.inj o 7 ho kk7 q5 q6 hq6) ci_Run_readInner rfl lk_X5_86 (by decide) rfl rfl (Nat.le_of_ble_eq_true rfl) dX5_askFree_90 ?_
  refine v_aload_n C 0 dX5_askFree_93 rfl ?_
  obtain ⟨q7, hq7, h⟩ := Option.bind_eq_some_iff.mp h
  refine cv5v C [] ho (m_Run_handOnKept C.inj o ho q6 q7 hq7) ci_Run_handOnKept rfl lk_X5_90 (by decide) rfl rfl (Nat.le_of_ble_eq_true rfl) dX5_askFree_94 ?_
  refine v_iconst C 0 dX5_askFree_97 rfl ?_
  refine v_istore C [(4, .int 0), (0, .ref (S.2.1 o)), (1, .ref (S.2.1 3)), (2, .int a2), (3, .ref (S.2.1 4))] dX5_askFree_98 (by decide) rfl ?_
  refine v_sub [1, 3, 4, 0] rfl ?_
  exact v_Run_askFree_l100 C K ho FU _ _ _ h
def f_Run_askFree_b78 (o : Nat) (a2 : Int32) (s0 : Int32) (M : Mem) : Option Mem :=
  (f_Pairs_gather (o + 4) 4 M s0).bind fun q4 =>
  f_Run_askFree_b81 o a2 q4
set_option maxRecDepth 20000 in
theorem v_Run_askFree_b78 {S : SE} {X : MX} {q : Mem} {o : Nat} {a2 : Int32} {s0 : Int32} {M : Mem} (C : CX S X cX5_askFree 5 RX5 5) (K : RT S X none none q) (ho : kd o = 5) (h : f_Run_askFree_b78 o a2 s0 M = some q) : V S X 5 M 78 [(0, .ref (S.2.1 o)), (1, .ref (S.2.1 3)), (2, .int a2), (3, .ref (S.2.1 4))] [.int s0, .ref (S.2.1 4), .ref (S.2.1 (o + 4))] := by
  unfold f_Run_askFree_b78 at h
  obtain ⟨q4, hq4, h⟩ := Option.bind_eq_some_iff.mp h
  refine cv2v C [] (kd_Run_pairs ho) (m_Pairs_gather C.inj (o + 4) 4 (kd_Run_pairs ho) kk4 M s0 q4 hq4) ci_Pairs_gather rfl lk_X5_126 (by decide) rfl rfl (Nat.le_of_ble_eq_true rfl) dX5_askFree_78 ?_
  exact v_Run_askFree_b81 C K ho h
def f_Run_askFree_b73 (o : Nat) (a2 : Int32) (M : Mem) : Option Mem :=
  f_Run_askFree_b78 o a2 1 M
set_option maxRecDepth 20000 in
theorem v_Run_askFree_b73 {S : SE} {X : MX} {q : Mem} {o : Nat} {a2 : Int32} {M : Mem} (C : CX S X cX5_askFree 5 RX5 5) (K : RT S X none none q) (ho : kd o = 5) (h : f_Run_askFree_b73 o a2 M = some q) : V S X 5 M 73 [(0, .ref (S.2.1 o)), (1, .ref (S.2.1 3)), (2, .int a2), (3, .ref (S.2.1 4))] [.ref (S.2.1 4), .ref (S.2.1 (o + 4))] := by
  unfold f_Run_askFree_b73 at h
  refine v_iconst C 1 dX5_askFree_73 rfl ?_
  refine v_goto C 78 dX5_askFree_74 (by decide) ?_
  exact v_Run_askFree_b78 C K ho h
def f_Run_askFree (o : Nat) (M : Mem) (a2 : Int32) : Option Mem :=
  (f_Course_layFree (o + 1) M a2).bind fun q1 =>
  bnd (f_Report_clear (o + 8) q1) fun q2 =>
  bnd (mset q2 o 4 1000000) fun M3 =>
  if (M3 (o + 1) 3) = (-1) then
    (f_Pairs_setNone (o + 4) M3).bind fun q18 =>
    f_Run_askFree_b81 o a2 q18
  else
    if (f_U_endSpeaks a2) = 0 then
      (f_Steps_hasUnion M3).bind fun q15 =>
      if q15 = 0 then
        f_Run_askFree_b78 o a2 0 M3
      else
        f_Run_askFree_b73 o a2 M3
    else
      f_Run_askFree_b73 o a2 M3
set_option maxRecDepth 20000 in
theorem v_Run_askFree {S : SE} {X : MX} {q : Mem} {o : Nat} {M : Mem} {a2 : Int32} (C : CX S X cX5_askFree 5 RX5 5) (K : RT S X none none q) (ho : kd o = 5) (h : f_Run_askFree o M a2 = some q) : V S X 5 M 0 [(0, .ref (S.2.1 o)), (1, .ref (S.2.1 3)), (2, .int a2)] [] := by
  unfold f_Run_askFree at h
  refine v_aload_n C 1 dX5_askFree_0 rfl ?_
  refine g_Question_outer C kk3 fl_X5_44 dX5_askFree_1 ?_
  refine v_astore_n C [(3, .ref (S.2.1 4)), (0, .ref (S.2.1 o)), (1, .ref (S.2.1 3)), (2, .int a2)] dX5_askFree_4 (by decide) rfl ?_
  refine v_aload_n C 1 dX5_askFree_5 rfl ?_
  refine g_Run_course C ho fl_X5_12 dX5_askFree_6 ?_
  refine v_aload_n C 2 dX5_askFree_9 rfl ?_
  refine g_Question_steps C kk3 fl_X5_50 dX5_askFree_10 ?_
  refine v_iload_n C 3 dX5_askFree_13 rfl ?_
  obtain ⟨q1, hq1, h⟩ := Option.bind_eq_some_iff.mp h
  refine cv0v C [] (kd_Run_course ho) (m_Course_layFree C.inj (o + 1) (kd_Run_course ho) M a2 q1 hq1) ci_Course_layFree rfl lk_X5_107 (by decide) rfl rfl (Nat.le_of_ble_eq_true rfl) dX5_askFree_14 ?_
  refine v_aload_n C 1 dX5_askFree_17 rfl ?_
  refine g_Run_report C ho fl_X5_28 dX5_askFree_18 ?_
  obtain ⟨q2, hq2, h⟩ := bnd_ex h
  refine cv4v C [] (kd_Run_report ho) (m_Report_clear C.inj (o + 8) (kd_Run_report ho) q1 q2 hq2) ci_Report_clear rfl lk_X5_58 (by decide) rfl rfl (Nat.le_of_ble_eq_true rfl) dX5_askFree_21 ?_
  refine v_aload_n C 1 dX5_askFree_24 rfl ?_
  refine v_ldc C kc_X5_32 dX5_askFree_25 ?_
  refine p_Run_wanted C ho fl_X5_33 dX5_askFree_27 ?_
  refine v_nmm h (fun M3 h => ?_)
  refine v_aload_n C 1 dX5_askFree_30 rfl ?_
  refine g_Run_course C ho fl_X5_12 dX5_askFree_31 ?_
  refine g_Course_joinAt C (kd_Run_course ho) fl_X5_110 dX5_askFree_34 ?_
  refine v_iconst C (-1) dX5_askFree_37 rfl ?_
  refine v_icmp_ne C 51 dX5_askFree_38 (by decide) (fun c19 => ?_) (fun c19 => ?_)
  · replace h := (ite_h h).2 c19
    refine v_aload_n C 1 dX5_askFree_51 rfl ?_
    refine g_Run_pairs C ho fl_X5_21 dX5_askFree_52 ?_
    refine v_aload_n C 0 dX5_askFree_55 rfl ?_
    refine v_iload_n C 3 dX5_askFree_56 rfl ?_
    refine csN C [.ref (S.2.1 4), .ref (S.2.1 (o + 4))] (m_U_endSpeaks C.inj M3 a2 _ rfl) ci_U_endSpeaks lk_X5_116 (by decide) rfl rfl (Nat.le_of_ble_eq_true rfl) dX5_askFree_57 ?_
    refine v_if_ne C 73 dX5_askFree_60 (by decide) (fun c17 => ?_) (fun c17 => ?_)
    · replace h := (ite_h h).2 c17
      refine v_sub [1, 2, 3, 0] rfl ?_
      exact v_Run_askFree_b73 C K ho h
    · replace h := (ite_h h).1 c17
      refine v_aload_n C 2 dX5_askFree_63 rfl ?_
      refine g_Question_steps C kk3 fl_X5_50 dX5_askFree_64 ?_
      obtain ⟨q15, hq15, h⟩ := Option.bind_eq_some_iff.mp h
      refine cv7 C [.ref (S.2.1 4), .ref (S.2.1 (o + 4))] kk10 (m_Steps_hasUnion C.inj M3 q15 hq15) ci_Steps_hasUnion rfl lk_X5_120 (by decide) rfl rfl (Nat.le_of_ble_eq_true rfl) dX5_askFree_67 ?_
      refine v_if_eq C 77 dX5_askFree_70 (by decide) (fun c16 => ?_) (fun c16 => ?_)
      · replace h := (ite_h h).1 c16
        refine v_iconst C 0 dX5_askFree_77 rfl ?_
        refine v_sub [1, 2, 3, 0] rfl ?_
        exact v_Run_askFree_b78 C K ho h
      · replace h := (ite_h h).2 c16
        refine v_sub [1, 2, 3, 0] rfl ?_
        exact v_Run_askFree_b73 C K ho h
  · replace h := (ite_h h).1 c19
    refine v_aload_n C 1 dX5_askFree_41 rfl ?_
    refine g_Run_pairs C ho fl_X5_21 dX5_askFree_42 ?_
    obtain ⟨q18, hq18, h⟩ := Option.bind_eq_some_iff.mp h
    refine cv2v C [] (kd_Run_pairs ho) (m_Pairs_setNone C.inj (o + 4) (kd_Run_pairs ho) M3 q18 hq18) ci_Pairs_setNone rfl lk_X5_113 (by decide) rfl rfl (Nat.le_of_ble_eq_true rfl) dX5_askFree_45 ?_
    refine v_goto C 81 dX5_askFree_48 (by decide) ?_
    refine v_sub [1, 2, 3, 0] rfl ?_
    exact v_Run_askFree_b81 C K ho h
theorem m_Run_askFree {S : SE} (hI : Inj S) (o : Nat) (ho : kd o = 5) (M : Mem) (a2 : Int32) (q : Mem) (h : f_Run_askFree o M a2 = some q) : CM S yX5_askFree cX5_askFree 5 none 5 [.ref (S.2.1 o), .ref (S.2.1 3), .int a2] M none q :=
  CM.of [(0, .ref (S.2.1 o)), (1, .ref (S.2.1 3)), (2, .int a2)] hI (by decide) rfl (Nat.le_of_ble_eq_true rfl) (fun X C K => v_Run_askFree C K ho h)
