/-- the law's own script: the cell b holds the L ints xs, and isn't of the world -/
def SC (S : SE) (X : MX) (b L : Nat) (xs : Nat → Int32) : Prop := va_X b L xs X.2.2.2.2.1 X.2.2.2.2.1.heap ∧ b < X.2.2.2.2.1.heap.size ∧ ¬ AA S b
/-- the law's end with 1 -/
def LK (S : SE) (X : MX) : Prop := ∀ (M : Mem) (pc : Nat) (lv : List (Nat × Value)), decode cL_law pc = .ok (.ireturn, 1) → V S X 4 M pc lv [.int 1]
section SCR
variable {S : SE} {X : MX} {cc : ByteArray} {nL : Nat} {own : String} {d : Nat} {M : Mem} {pc : Nat} {lv : List (Nat × Value)} {st : List Value} {b L : Nat} {xs : Nat → Int32}
theorem v_sld (C : CX S X cc nL own d) (hs : SC S X b L xs) {i : Int32} (hg : gin i L) (dd : decode cc pc = .ok (.iaload, 1)) (k : V S X nL M (pc + 1) lv (.int (xs i.toNatClampNeg) :: st)) : V S X nL M pc lv (.int i :: .ref b :: st) := fun H locs ls hP hS hl => va_sld C.1 C.2.1 hs.1 hs.2.1 hs.2.2 hS hg dd (k H locs ls hP hS hl)
theorem v_slen (C : CX S X cc nL own d) (hs : SC S X b L xs) (dd : decode cc pc = .ok (.arraylength, 1)) (k : V S X nL M (pc + 1) lv (.int (Int32.ofNat L) :: st)) : V S X nL M pc lv (.ref b :: st) := fun H locs ls hP hS hl => va_slen C.1 C.2.1 hs.1 hs.2.1 hs.2.2 hS dd (k H locs ls hP hS hl)
end SCR
theorem lk_L_13 : Cond.methodLink RL 13 yX11_type ∈ tw := tw_in 422 (by decide +kernel) (by decide +kernel)
theorem lk_L_17 : Cond.methodLink RL 17 yX12_type ∈ tw := tw_in 1020 (by decide +kernel) (by decide +kernel)
theorem lk_L_18 : Cond.methodLink RL 18 yX11_wipe ∈ tw := tw_in 469 (by decide +kernel) (by decide +kernel)
theorem lk_L_22 : Cond.methodLink RL 22 yX12_wipe ∈ tw := tw_in 1033 (by decide +kernel) (by decide +kernel)
theorem lk_L_23 : Cond.methodLink RL 23 yX11_undo ∈ tw := tw_in 473 (by decide +kernel) (by decide +kernel)
theorem lk_L_26 : Cond.methodLink RL 26 yX12_undo ∈ tw := tw_in 1037 (by decide +kernel) (by decide +kernel)
theorem lk_L_27 : Cond.methodLink RL 27 yX11_fault ∈ tw := tw_in 477 (by decide +kernel) (by decide +kernel)
theorem lk_L_30 : Cond.methodLink RL 30 yX12_fault ∈ tw := tw_in 1053 (by decide +kernel) (by decide +kernel)
theorem lk_L_31 : Cond.methodLink RL 31 yX11_row ∈ tw := tw_in 481 (by decide +kernel) (by decide +kernel)
theorem lk_L_35 : Cond.methodLink RL 35 yX12_row ∈ tw := tw_in 1084 (by decide +kernel) (by decide +kernel)
theorem lk_L_36 : Cond.methodLink RL 36 yX11_step ∈ tw := tw_in 485 (by decide +kernel) (by decide +kernel)
theorem lk_L_39 : Cond.methodLink RL 39 yX12_step ∈ tw := tw_in 1095 (by decide +kernel) (by decide +kernel)
theorem lk_L_40 : Cond.methodLink RL 40 yX11_end ∈ tw := tw_in 489 (by decide +kernel) (by decide +kernel)
theorem lk_L_43 : Cond.methodLink RL 43 yX12_end ∈ tw := tw_in 1103 (by decide +kernel) (by decide +kernel)
theorem lk_L_44 : Cond.methodLink RL 44 yX11_error ∈ tw := tw_in 493 (by decide +kernel) (by decide +kernel)
theorem lk_L_47 : Cond.methodLink RL 47 yX12_error ∈ tw := tw_in 1107 (by decide +kernel) (by decide +kernel)
theorem lk_L_48 : Cond.methodLink RL 48 yX11_answer ∈ tw := tw_in 687 (by decide +kernel) (by decide +kernel)
theorem lk_L_51 : Cond.methodLink RL 51 yX12_answer ∈ tw := tw_in 1226 (by decide +kernel) (by decide +kernel)
theorem lk_L_52 : Cond.methodLink RL 52 yX11_same ∈ tw := tw_in 699 (by decide +kernel) (by decide +kernel)
theorem lk_L_56 : Cond.methodLink RL 56 yX12_same ∈ tw := tw_in 1238 (by decide +kernel) (by decide +kernel)
theorem lk_L_57 : Cond.methodLink RL 57 yX11_total ∈ tw := tw_in 711 (by decide +kernel) (by decide +kernel)
theorem lk_L_60 : Cond.methodLink RL 60 yX12_total ∈ tw := tw_in 1246 (by decide +kernel) (by decide +kernel)
theorem lk_L_61 : Cond.methodLink RL 61 yX11_speaks ∈ tw := tw_in 720 (by decide +kernel) (by decide +kernel)
theorem lk_L_64 : Cond.methodLink RL 64 yX12_speaks ∈ tw := tw_in 1258 (by decide +kernel) (by decide +kernel)
theorem lk_L_65 : Cond.methodLink RL 65 yX11_domain ∈ tw := tw_in 729 (by decide +kernel) (by decide +kernel)
theorem lk_L_68 : Cond.methodLink RL 68 yX12_domain ∈ tw := tw_in 1266 (by decide +kernel) (by decide +kernel)
theorem lk_L_69 : Cond.methodLink RL 69 yX11_plan ∈ tw := tw_in 737 (by decide +kernel) (by decide +kernel)
theorem lk_L_72 : Cond.methodLink RL 72 yX12_plan ∈ tw := tw_in 1274 (by decide +kernel) (by decide +kernel)
theorem lk_L_73 : Cond.methodLink RL 73 yX11_cost ∈ tw := tw_in 746 (by decide +kernel) (by decide +kernel)
theorem lk_L_76 : Cond.methodLink RL 76 yX12_cost ∈ tw := tw_in 1282 (by decide +kernel) (by decide +kernel)
theorem lk_L_77 : Cond.methodLink RL 77 yX11_log ∈ tw := tw_in 754 (by decide +kernel) (by decide +kernel)
theorem lk_L_80 : Cond.methodLink RL 80 yX12_log ∈ tw := tw_in 1290 (by decide +kernel) (by decide +kernel)
theorem lk_L_81 : Cond.methodLink RL 81 yX11_spare ∈ tw := tw_in 763 (by decide +kernel) (by decide +kernel)
theorem lk_L_84 : Cond.methodLink RL 84 yX12_spare ∈ tw := tw_in 1298 (by decide +kernel) (by decide +kernel)
theorem lk_L_85 : Cond.methodLink RL 85 yX11_sheet ∈ tw := tw_in 771 (by decide +kernel) (by decide +kernel)
theorem lk_L_88 : Cond.methodLink RL 88 yX12_sheet ∈ tw := tw_in 1306 (by decide +kernel) (by decide +kernel)
theorem lk_L_89 : Cond.methodLink RL 89 yX11_lose ∈ tw := tw_in 784 (by decide +kernel) (by decide +kernel)
theorem lk_L_92 : Cond.methodLink RL 92 yX12_lose ∈ tw := tw_in 1310 (by decide +kernel) (by decide +kernel)
theorem lk_L_93 : Cond.methodLink RL 93 yX11_put ∈ tw := tw_in 796 (by decide +kernel) (by decide +kernel)
theorem lk_L_97 : Cond.methodLink RL 97 yX12_put ∈ tw := tw_in 1314 (by decide +kernel) (by decide +kernel)
theorem lk_L_98 : Cond.methodLink RL 98 yX11_get ∈ tw := tw_in 810 (by decide +kernel) (by decide +kernel)
theorem lk_L_101 : Cond.methodLink RL 101 yX12_get ∈ tw := tw_in 1326 (by decide +kernel) (by decide +kernel)
theorem lk_L_102 : Cond.methodLink RL 102 yX11_copy ∈ tw := tw_in 815 (by decide +kernel) (by decide +kernel)
theorem lk_L_106 : Cond.methodLink RL 106 yX12_copy ∈ tw := tw_in 1331 (by decide +kernel) (by decide +kernel)
theorem lk_L_107 : Cond.methodLink RL 107 yX11_write ∈ tw := tw_in 826 (by decide +kernel) (by decide +kernel)
theorem lk_L_110 : Cond.methodLink RL 110 yX12_write ∈ tw := tw_in 1335 (by decide +kernel) (by decide +kernel)
theorem lk_L_111 : Cond.methodLink RL 111 yX11_read ∈ tw := tw_in 833 (by decide +kernel) (by decide +kernel)
theorem lk_L_114 : Cond.methodLink RL 114 yX12_read ∈ tw := tw_in 1041 (by decide +kernel) (by decide +kernel)
theorem lk_L_115 : Cond.methodLink RL 115 yX11_count ∈ tw := tw_in 843 (by decide +kernel) (by decide +kernel)
theorem lk_L_118 : Cond.methodLink RL 118 yX12_count ∈ tw := tw_in 1339 (by decide +kernel) (by decide +kernel)
theorem lk_L_119 : Cond.methodLink RL 119 yX11_digest ∈ tw := tw_in 851 (by decide +kernel) (by decide +kernel)
theorem lk_L_123 : Cond.methodLink RL 123 yX12_digest ∈ tw := tw_in 1347 (by decide +kernel) (by decide +kernel)
def f_L_b911 (L : Nat) (xs : Nat → Int32) (k18 : Int32 → Mem → Option (Int32 × Mem)) (a3 : Int32) (M : Mem) : Option (Int32 × Mem) :=
  k18 (a3 + 6) M
set_option maxRecDepth 20000 in
theorem v_L_b911 {S : SE} {X : MX} {q : (Int32 × Mem)} {b L : Nat} {xs : Nat → Int32} {k18 : Int32 → Mem → Option (Int32 × Mem)} {a3 : Int32} {M : Mem} (C : CX S X cL_law 4 RL 10) (K : LK S X) (hs : SC S X b L xs) (hq : q.1 = 1) (hk18 : ∀ (a3 : Int32) (M : Mem), k18 a3 M = some q → V S X 4 M 18 [(0, .ref b), (1, .ref (S.2.1 0)), (2, .ref (S.2.1 91)), (3, .int a3)] []) (h : f_L_b911 L xs k18 a3 M = some q) : V S X 4 M 911 [(0, .ref b), (1, .ref (S.2.1 0)), (2, .ref (S.2.1 91)), (3, .int a3)] [] := by
  unfold f_L_b911 at h
  refine v_iinc C [(3, .int (a3 + 6)), (0, .ref b), (1, .ref (S.2.1 0)), (2, .ref (S.2.1 91))] 3 (a3 + 6) dL_law_911 rfl rfl (by decide) rfl ?_
  refine v_goto C 18 dL_law_914 (by decide) ?_
  refine v_sub [1, 2, 3, 0] rfl ?_
  exact hk18 _ _ h
def f_L_l18B (L : Nat) (xs : Nat → Int32) (k18 : Int32 → Mem → Option (Int32 × Mem)) (a3 : Int32) (M : Mem) : Option (Int32 × Mem) :=
  if ((Int32.ofNat L) - 6) < a3 then
    some (1, M)
  else
    if gin a3 L then
      if ((xs a3.toNatClampNeg) &&& 31) = 0 then
        if gin (a3 + 1) L then
          if gin (a3 + 2) L then
            (f_U_type M (xs (a3 + 1).toNatClampNeg) (xs (a3 + 2).toNatClampNeg)).bind fun q5 =>
            if gin (a3 + 1) L then
              if gin (a3 + 2) L then
                (f_Mo_type q5.2 (xs (a3 + 1).toNatClampNeg) (xs (a3 + 2).toNatClampNeg)).bind fun q8 =>
                if q5.1 = q8.1 then
                  f_L_b911 L xs k18 a3 q8.2
                else
                  some (0, q8.2)
              else none
            else none
          else none
        else none
      else
      if ((xs a3.toNatClampNeg) &&& 31) = 1 then
        if gin (a3 + 1) L then
          (f_U_wipe M (xs (a3 + 1).toNatClampNeg)).bind fun q12 =>
          if gin (a3 + 1) L then
            (f_Mo_wipe q12.2 (xs (a3 + 1).toNatClampNeg)).bind fun q14 =>
            if q12.1 = q14.1 then
              f_L_b911 L xs k18 a3 q14.2
            else
              some (0, q14.2)
          else none
        else none
      else
      if ((xs a3.toNatClampNeg) &&& 31) = 2 then
        if gin (a3 + 1) L then
          (f_U_undo M (xs (a3 + 1).toNatClampNeg)).bind fun q18 =>
          if gin (a3 + 1) L then
            (f_Mo_undo q18.2 (xs (a3 + 1).toNatClampNeg)).bind fun q20 =>
            if q18.1 = q20.1 then
              f_L_b911 L xs k18 a3 q20.2
            else
              some (0, q20.2)
          else none
        else none
      else
      if ((xs a3.toNatClampNeg) &&& 31) = 3 then
        if gin (a3 + 1) L then
          if gin (a3 + 1) L then
            (f_Mo_fault M (xs (a3 + 1).toNatClampNeg)).bind fun q25 =>
            if (f_U_fault M (xs (a3 + 1).toNatClampNeg)) = q25.1 then
              f_L_b911 L xs k18 a3 q25.2
            else
              some (0, q25.2)
          else none
        else none
      else
      if ((xs a3.toNatClampNeg) &&& 31) = 4 then
        if gin (a3 + 1) L then
          if gin (a3 + 2) L then
            if gin (a3 + 3) L then
              (f_U_row M (xs (a3 + 1).toNatClampNeg) (xs (a3 + 2).toNatClampNeg) (xs (a3 + 3).toNatClampNeg)).bind fun q31 =>
              if gin (a3 + 1) L then
                if gin (a3 + 2) L then
                  if gin (a3 + 3) L then
                    (f_Mo_row M (xs (a3 + 1).toNatClampNeg) (xs (a3 + 2).toNatClampNeg) (xs (a3 + 3).toNatClampNeg)).bind fun q35 =>
                    if q31 = q35.1 then
                      f_L_b911 L xs k18 a3 q35.2
                    else
                      some (0, q35.2)
                  else none
                else none
              else none
            else none
          else none
        else none
      else
      if ((xs a3.toNatClampNeg) &&& 31) = 5 then
        if gin (a3 + 1) L then
          if gin (a3 + 2) L then
            (f_U_step M (xs (a3 + 1).toNatClampNeg) (xs (a3 + 2).toNatClampNeg)).bind fun q40 =>
            if gin (a3 + 1) L then
              if gin (a3 + 2) L then
                (f_Mo_step M (xs (a3 + 1).toNatClampNeg) (xs (a3 + 2).toNatClampNeg)).bind fun q43 =>
                if q40 = q43.1 then
                  f_L_b911 L xs k18 a3 q43.2
                else
                  some (0, q43.2)
              else none
            else none
          else none
        else none
      else
      if ((xs a3.toNatClampNeg) &&& 31) = 6 then
        if gin (a3 + 1) L then
          bnd (f_U_end M (xs (a3 + 1).toNatClampNeg)) fun q47 =>
          if gin (a3 + 1) L then
            bnd (f_Mo_end q47.2 (xs (a3 + 1).toNatClampNeg)) fun q49 =>
            if q47.1 = q49.1 then
              f_L_b911 L xs k18 a3 q49.2
            else
              some (0, q49.2)
          else none
        else none
      else
      if ((xs a3.toNatClampNeg) &&& 31) = 7 then
        if gin (a3 + 1) L then
          (f_U_error M (xs (a3 + 1).toNatClampNeg)).bind fun q53 =>
          if gin (a3 + 1) L then
            (f_Mo_error q53.2 (xs (a3 + 1).toNatClampNeg)).bind fun q55 =>
            if q53.1 = q55.1 then
              f_L_b911 L xs k18 a3 q55.2
            else
              some (0, q55.2)
          else none
        else none
      else
      if ((xs a3.toNatClampNeg) &&& 31) = 8 then
        if gin (a3 + 1) L then
          if gin (a3 + 2) L then
            (f_U_answer M (xs (a3 + 1).toNatClampNeg) (xs (a3 + 2).toNatClampNeg)).bind fun q60 =>
            if gin (a3 + 1) L then
              if gin (a3 + 2) L then
                (f_Mo_answer q60.2 (xs (a3 + 1).toNatClampNeg) (xs (a3 + 2).toNatClampNeg)).bind fun q63 =>
                if q60.1 = q63.1 then
                  f_L_b911 L xs k18 a3 q63.2
                else
                  some (0, q63.2)
              else none
            else none
          else none
        else none
      else
      if ((xs a3.toNatClampNeg) &&& 31) = 9 then
        (f_U_same M).bind fun q66 =>
        (f_Mo_same q66.2).bind fun q67 =>
        if q66.1 = q67.1 then
          f_L_b911 L xs k18 a3 q67.2
        else
          some (0, q67.2)
      else
      if ((xs a3.toNatClampNeg) &&& 31) = 10 then
        (f_U_total M).bind fun q70 =>
        (f_Mo_total q70.2).bind fun q71 =>
        if q70.1 = q71.1 then
          f_L_b911 L xs k18 a3 q71.2
        else
          some (0, q71.2)
      else
      if ((xs a3.toNatClampNeg) &&& 31) = 11 then
        (f_U_speaks M).bind fun q74 =>
        (f_Mo_speaks M).bind fun q75 =>
        if q74 = q75.1 then
          f_L_b911 L xs k18 a3 q75.2
        else
          some (0, q75.2)
      else
      if ((xs a3.toNatClampNeg) &&& 31) = 12 then
        if gin (a3 + 1) L then
          if gin (a3 + 2) L then
            (f_U_domain M (xs (a3 + 1).toNatClampNeg) (xs (a3 + 2).toNatClampNeg)).bind fun q80 =>
            if gin (a3 + 1) L then
              if gin (a3 + 2) L then
                (f_Mo_domain q80.2 (xs (a3 + 1).toNatClampNeg) (xs (a3 + 2).toNatClampNeg)).bind fun q83 =>
                if q80.1 = q83.1 then
                  f_L_b911 L xs k18 a3 q83.2
                else
                  some (0, q83.2)
              else none
            else none
          else none
        else none
      else
      if ((xs a3.toNatClampNeg) &&& 31) = 13 then
        if gin (a3 + 1) L then
          (f_U_plan M (xs (a3 + 1).toNatClampNeg)).bind fun q87 =>
          if gin (a3 + 1) L then
            (f_Mo_plan q87.2 (xs (a3 + 1).toNatClampNeg)).bind fun q89 =>
            if q87.1 = q89.1 then
              f_L_b911 L xs k18 a3 q89.2
            else
              some (0, q89.2)
          else none
        else none
      else
      if ((xs a3.toNatClampNeg) &&& 31) = 14 then
        if gin (a3 + 1) L then
          if gin (a3 + 2) L then
            (f_U_cost M (xs (a3 + 1).toNatClampNeg) (xs (a3 + 2).toNatClampNeg)).bind fun q94 =>
            if gin (a3 + 1) L then
              if gin (a3 + 2) L then
                (f_Mo_cost q94.2 (xs (a3 + 1).toNatClampNeg) (xs (a3 + 2).toNatClampNeg)).bind fun q97 =>
                if q94.1 = q97.1 then
                  f_L_b911 L xs k18 a3 q97.2
                else
                  some (0, q97.2)
              else none
            else none
          else none
        else none
      else
      if ((xs a3.toNatClampNeg) &&& 31) = 15 then
        if gin (a3 + 1) L then
          if gin (a3 + 2) L then
            (f_U_log M (xs (a3 + 1).toNatClampNeg) (xs (a3 + 2).toNatClampNeg)).bind fun q102 =>
            if gin (a3 + 1) L then
              if gin (a3 + 2) L then
                (f_Mo_log q102.2 (xs (a3 + 1).toNatClampNeg) (xs (a3 + 2).toNatClampNeg)).bind fun q105 =>
                if q102.1 = q105.1 then
                  f_L_b911 L xs k18 a3 q105.2
                else
                  some (0, q105.2)
              else none
            else none
          else none
        else none
      else
      if ((xs a3.toNatClampNeg) &&& 31) = 16 then
        (f_U_spare M).bind fun q108 =>
        (f_Mo_spare q108.2).bind fun q109 =>
        if q108.1 = q109.1 then
          f_L_b911 L xs k18 a3 q109.2
        else
          some (0, q109.2)
      else
      if ((xs a3.toNatClampNeg) &&& 31) = 17 then
        if gin (a3 + 1) L then
          if gin (a3 + 2) L then
            if gin (a3 + 3) L then
              (f_U_sheet M (xs (a3 + 1).toNatClampNeg) (xs (a3 + 2).toNatClampNeg) (xs (a3 + 3).toNatClampNeg)).bind fun q115 =>
              if gin (a3 + 1) L then
                if gin (a3 + 2) L then
                  if gin (a3 + 3) L then
                    (f_Mo_sheet q115.2 (xs (a3 + 1).toNatClampNeg) (xs (a3 + 2).toNatClampNeg) (xs (a3 + 3).toNatClampNeg)).bind fun q119 =>
                    if q115.1 = q119.1 then
                      f_L_b911 L xs k18 a3 q119.2
                    else
                      some (0, q119.2)
                  else none
                else none
              else none
            else none
          else none
        else none
      else
      if ((xs a3.toNatClampNeg) &&& 31) = 18 then
        if gin (a3 + 1) L then
          (f_U_lose M (xs (a3 + 1).toNatClampNeg)).bind fun q123 =>
          if gin (a3 + 1) L then
            (f_Mo_lose q123.2 (xs (a3 + 1).toNatClampNeg)).bind fun q125 =>
            if q123.1 = q125.1 then
              f_L_b911 L xs k18 a3 q125.2
            else
              some (0, q125.2)
          else none
        else none
      else
      if ((xs a3.toNatClampNeg) &&& 31) = 19 then
        if gin (a3 + 1) L then
          if gin (a3 + 2) L then
            if gin (a3 + 3) L then
              if gin (a3 + 4) L then
                (f_U_put M (xs (a3 + 1).toNatClampNeg) (xs (a3 + 2).toNatClampNeg) (xs (a3 + 3).toNatClampNeg) (xs (a3 + 4).toNatClampNeg)).bind fun q132 =>
                if gin (a3 + 1) L then
                  if gin (a3 + 2) L then
                    if gin (a3 + 3) L then
                      if gin (a3 + 4) L then
                        (f_Mo_put q132.2 (xs (a3 + 1).toNatClampNeg) (xs (a3 + 2).toNatClampNeg) (xs (a3 + 3).toNatClampNeg) (xs (a3 + 4).toNatClampNeg)).bind fun q137 =>
                        if q132.1 = q137.1 then
                          f_L_b911 L xs k18 a3 q137.2
                        else
                          some (0, q137.2)
                      else none
                    else none
                  else none
                else none
              else none
            else none
          else none
        else none
      else
      if ((xs a3.toNatClampNeg) &&& 31) = 20 then
        if gin (a3 + 1) L then
          if gin (a3 + 2) L then
            if gin (a3 + 3) L then
              (f_U_get M (xs (a3 + 1).toNatClampNeg) (xs (a3 + 2).toNatClampNeg) (xs (a3 + 3).toNatClampNeg)).bind fun q143 =>
              if gin (a3 + 1) L then
                if gin (a3 + 2) L then
                  if gin (a3 + 3) L then
                    (f_Mo_get q143.2 (xs (a3 + 1).toNatClampNeg) (xs (a3 + 2).toNatClampNeg) (xs (a3 + 3).toNatClampNeg)).bind fun q147 =>
                    if q143.1 = q147.1 then
                      f_L_b911 L xs k18 a3 q147.2
                    else
                      some (0, q147.2)
                  else none
                else none
              else none
            else none
          else none
        else none
      else
      if ((xs a3.toNatClampNeg) &&& 31) = 21 then
        if gin (a3 + 1) L then
          if gin (a3 + 2) L then
            if gin (a3 + 3) L then
              if gin (a3 + 4) L then
                if gin (a3 + 5) L then
                  (f_U_copy M (xs (a3 + 1).toNatClampNeg) (xs (a3 + 2).toNatClampNeg) (xs (a3 + 3).toNatClampNeg) (xs (a3 + 4).toNatClampNeg) (xs (a3 + 5).toNatClampNeg)).bind fun q155 =>
                  if gin (a3 + 1) L then
                    if gin (a3 + 2) L then
                      if gin (a3 + 3) L then
                        if gin (a3 + 4) L then
                          if gin (a3 + 5) L then
                            (f_Mo_copy q155.2 (xs (a3 + 1).toNatClampNeg) (xs (a3 + 2).toNatClampNeg) (xs (a3 + 3).toNatClampNeg) (xs (a3 + 4).toNatClampNeg) (xs (a3 + 5).toNatClampNeg)).bind fun q161 =>
                            if q155.1 = q161.1 then
                              f_L_b911 L xs k18 a3 q161.2
                            else
                              some (0, q161.2)
                          else none
                        else none
                      else none
                    else none
                  else none
                else none
              else none
            else none
          else none
        else none
      else
      if ((xs a3.toNatClampNeg) &&& 31) = 22 then
        if gin (a3 + 1) L then
          if gin (a3 + 2) L then
            (f_U_write M (xs (a3 + 1).toNatClampNeg) (xs (a3 + 2).toNatClampNeg)).bind fun q166 =>
            if gin (a3 + 1) L then
              if gin (a3 + 2) L then
                (f_Mo_write q166.2 (xs (a3 + 1).toNatClampNeg) (xs (a3 + 2).toNatClampNeg)).bind fun q169 =>
                if q166.1 = q169.1 then
                  f_L_b911 L xs k18 a3 q169.2
                else
                  some (0, q169.2)
              else none
            else none
          else none
        else none
      else
      if ((xs a3.toNatClampNeg) &&& 31) = 23 then
        if gin (a3 + 1) L then
          if gin (a3 + 2) L then
            (f_U_read M (xs (a3 + 1).toNatClampNeg) (xs (a3 + 2).toNatClampNeg)).bind fun q174 =>
            if gin (a3 + 1) L then
              if gin (a3 + 2) L then
                (f_Mo_read q174.2 (xs (a3 + 1).toNatClampNeg) (xs (a3 + 2).toNatClampNeg)).bind fun q177 =>
                if q174.1 = q177.1 then
                  f_L_b911 L xs k18 a3 q177.2
                else
                  some (0, q177.2)
              else none
            else none
          else none
        else none
      else
      if ((xs a3.toNatClampNeg) &&& 31) = 24 then
        if gin (a3 + 1) L then
          (f_U_count M (xs (a3 + 1).toNatClampNeg)).bind fun q181 =>
          if gin (a3 + 1) L then
            (f_Mo_count q181.2 (xs (a3 + 1).toNatClampNeg)).bind fun q183 =>
            if q181.1 = q183.1 then
              f_L_b911 L xs k18 a3 q183.2
            else
              some (0, q183.2)
          else none
        else none
      else
      if ((xs a3.toNatClampNeg) &&& 31) = 25 then
        (f_U_digest M).bind fun q186 =>
        (f_Mo_digest q186.2).bind fun q187 =>
        if (lg_cmp q186.1 q187.1) = 0 then
          f_L_b911 L xs k18 a3 q187.2
        else
          some (0, q187.2)
      else
      f_L_b911 L xs k18 a3 M
    else none
set_option maxRecDepth 20000 in
theorem v_L_l18B {S : SE} {X : MX} {q : (Int32 × Mem)} {b L : Nat} {xs : Nat → Int32} {k18 : Int32 → Mem → Option (Int32 × Mem)} {a3 : Int32} {M : Mem} (C : CX S X cL_law 4 RL 10) (K : LK S X) (hs : SC S X b L xs) (hq : q.1 = 1) (hk18 : ∀ (a3 : Int32) (M : Mem), k18 a3 M = some q → V S X 4 M 18 [(0, .ref b), (1, .ref (S.2.1 0)), (2, .ref (S.2.1 91)), (3, .int a3)] []) (h : f_L_l18B L xs k18 a3 M = some q) : V S X 4 M 18 [(0, .ref b), (1, .ref (S.2.1 0)), (2, .ref (S.2.1 91)), (3, .int a3)] [] := by
  unfold f_L_l18B at h
  refine v_iload_n C 3 dL_law_18 rfl ?_
  refine v_aload_n C 0 dL_law_19 rfl ?_
  refine v_slen C hs dL_law_20 ?_
  refine v_bipush C 6 dL_law_21 rfl ?_
  refine v_isub C dL_law_23 ?_
  refine v_icmp_gt C 917 dL_law_24 (by decide) (fun c189 => ?_) (fun c189 => ?_)
  · replace h := (ite_h h).1 c189
    refine v_iconst C 1 dL_law_917 rfl ?_
    exact K _ _ _ dL_law_918
  · replace h := (ite_h h).2 c189
    refine v_aload_n C 0 dL_law_27 rfl ?_
    refine v_iload_n C 3 dL_law_28 rfl ?_
    obtain ⟨g1, h⟩ := gd_h h
    refine v_sld C hs g1 dL_law_29 ?_
    refine v_bipush C 31 dL_law_30 rfl ?_
    refine v_iand C dL_law_32 ?_
    by_cases c2 : ((xs a3.toNatClampNeg) &&& 31) = 0
    · replace h := (ite_h h).1 c2
      refine v_tableIn C 152 dL_law_33 (by rw [c2]; decide) (by rw [c2]; decide) (by rw [c2]; rfl) (by decide) ?_
      refine v_aload_n C 1 dL_law_152 rfl ?_
      refine v_aload_n C 0 dL_law_153 rfl ?_
      refine v_iload_n C 3 dL_law_154 rfl ?_
      refine v_iconst C 1 dL_law_155 rfl ?_
      refine v_iadd C dL_law_156 ?_
      obtain ⟨g3, h⟩ := gd_h h
      refine v_sld C hs g3 dL_law_157 ?_
      refine v_aload_n C 0 dL_law_158 rfl ?_
      refine v_iload_n C 3 dL_law_159 rfl ?_
      refine v_iconst C 2 dL_law_160 rfl ?_
      refine v_iadd C dL_law_161 ?_
      obtain ⟨g4, h⟩ := gd_h h
      refine v_sld C hs g4 dL_law_162 ?_
      obtain ⟨q5, hq5, h⟩ := Option.bind_eq_some_iff.mp h
      refine cv11 C [] kk0 (m_U_type C.inj M (xs (a3 + 1).toNatClampNeg) (xs (a3 + 2).toNatClampNeg) q5 hq5) ci_U_type rfl lk_L_13 (by decide) rfl rfl (Nat.le_of_ble_eq_true rfl) dL_law_163 ?_
      refine v_aload_n C 2 dL_law_166 rfl ?_
      refine v_aload_n C 0 dL_law_167 rfl ?_
      refine v_iload_n C 3 dL_law_168 rfl ?_
      refine v_iconst C 1 dL_law_169 rfl ?_
      refine v_iadd C dL_law_170 ?_
      obtain ⟨g6, h⟩ := gd_h h
      refine v_sld C hs g6 dL_law_171 ?_
      refine v_aload_n C 0 dL_law_172 rfl ?_
      refine v_iload_n C 3 dL_law_173 rfl ?_
      refine v_iconst C 2 dL_law_174 rfl ?_
      refine v_iadd C dL_law_175 ?_
      obtain ⟨g7, h⟩ := gd_h h
      refine v_sld C hs g7 dL_law_176 ?_
      obtain ⟨q8, hq8, h⟩ := Option.bind_eq_some_iff.mp h
      refine cv12 C [.int q5.1] kk91 (m_Mo_type C.inj q5.2 (xs (a3 + 1).toNatClampNeg) (xs (a3 + 2).toNatClampNeg) q8 hq8) ci_Mo_type rfl lk_L_17 (by decide) rfl rfl (Nat.le_of_ble_eq_true rfl) dL_law_177 ?_
      refine v_icmp_eq C 911 dL_law_180 (by decide) (fun c9 => ?_) (fun c9 => ?_)
      · replace h := (ite_h h).1 c9
        exact v_L_b911 C K hs hq hk18 h
      · replace h := (ite_h h).2 c9
        refine v_iconst C 0 dL_law_183 rfl ?_
        exact absurd (show (0 : Int32) = 1 from (congrArg Prod.fst (Option.some.inj h)).trans hq) (by decide)
    replace h := (ite_h h).2 c2
    by_cases c10 : ((xs a3.toNatClampNeg) &&& 31) = 1
    · replace h := (ite_h h).1 c10
      refine v_tableIn C 185 dL_law_33 (by rw [c10]; decide) (by rw [c10]; decide) (by rw [c10]; rfl) (by decide) ?_
      refine v_aload_n C 1 dL_law_185 rfl ?_
      refine v_aload_n C 0 dL_law_186 rfl ?_
      refine v_iload_n C 3 dL_law_187 rfl ?_
      refine v_iconst C 1 dL_law_188 rfl ?_
      refine v_iadd C dL_law_189 ?_
      obtain ⟨g11, h⟩ := gd_h h
      refine v_sld C hs g11 dL_law_190 ?_
      obtain ⟨q12, hq12, h⟩ := Option.bind_eq_some_iff.mp h
      refine cv11 C [] kk0 (m_U_wipe C.inj M (xs (a3 + 1).toNatClampNeg) q12 hq12) ci_U_wipe rfl lk_L_18 (by decide) rfl rfl (Nat.le_of_ble_eq_true rfl) dL_law_191 ?_
      refine v_aload_n C 2 dL_law_194 rfl ?_
      refine v_aload_n C 0 dL_law_195 rfl ?_
      refine v_iload_n C 3 dL_law_196 rfl ?_
      refine v_iconst C 1 dL_law_197 rfl ?_
      refine v_iadd C dL_law_198 ?_
      obtain ⟨g13, h⟩ := gd_h h
      refine v_sld C hs g13 dL_law_199 ?_
      obtain ⟨q14, hq14, h⟩ := Option.bind_eq_some_iff.mp h
      refine cv12 C [.int q12.1] kk91 (m_Mo_wipe C.inj q12.2 (xs (a3 + 1).toNatClampNeg) q14 hq14) ci_Mo_wipe rfl lk_L_22 (by decide) rfl rfl (Nat.le_of_ble_eq_true rfl) dL_law_200 ?_
      refine v_icmp_eq C 911 dL_law_203 (by decide) (fun c15 => ?_) (fun c15 => ?_)
      · replace h := (ite_h h).1 c15
        exact v_L_b911 C K hs hq hk18 h
      · replace h := (ite_h h).2 c15
        refine v_iconst C 0 dL_law_206 rfl ?_
        exact absurd (show (0 : Int32) = 1 from (congrArg Prod.fst (Option.some.inj h)).trans hq) (by decide)
    replace h := (ite_h h).2 c10
    by_cases c16 : ((xs a3.toNatClampNeg) &&& 31) = 2
    · replace h := (ite_h h).1 c16
      refine v_tableIn C 208 dL_law_33 (by rw [c16]; decide) (by rw [c16]; decide) (by rw [c16]; rfl) (by decide) ?_
      refine v_aload_n C 1 dL_law_208 rfl ?_
      refine v_aload_n C 0 dL_law_209 rfl ?_
      refine v_iload_n C 3 dL_law_210 rfl ?_
      refine v_iconst C 1 dL_law_211 rfl ?_
      refine v_iadd C dL_law_212 ?_
      obtain ⟨g17, h⟩ := gd_h h
      refine v_sld C hs g17 dL_law_213 ?_
      obtain ⟨q18, hq18, h⟩ := Option.bind_eq_some_iff.mp h
      refine cv11 C [] kk0 (m_U_undo C.inj M (xs (a3 + 1).toNatClampNeg) q18 hq18) ci_U_undo rfl lk_L_23 (by decide) rfl rfl (Nat.le_of_ble_eq_true rfl) dL_law_214 ?_
      refine v_aload_n C 2 dL_law_217 rfl ?_
      refine v_aload_n C 0 dL_law_218 rfl ?_
      refine v_iload_n C 3 dL_law_219 rfl ?_
      refine v_iconst C 1 dL_law_220 rfl ?_
      refine v_iadd C dL_law_221 ?_
      obtain ⟨g19, h⟩ := gd_h h
      refine v_sld C hs g19 dL_law_222 ?_
      obtain ⟨q20, hq20, h⟩ := Option.bind_eq_some_iff.mp h
      refine cv12 C [.int q18.1] kk91 (m_Mo_undo C.inj q18.2 (xs (a3 + 1).toNatClampNeg) q20 hq20) ci_Mo_undo rfl lk_L_26 (by decide) rfl rfl (Nat.le_of_ble_eq_true rfl) dL_law_223 ?_
      refine v_icmp_eq C 911 dL_law_226 (by decide) (fun c21 => ?_) (fun c21 => ?_)
      · replace h := (ite_h h).1 c21
        exact v_L_b911 C K hs hq hk18 h
      · replace h := (ite_h h).2 c21
        refine v_iconst C 0 dL_law_229 rfl ?_
        exact absurd (show (0 : Int32) = 1 from (congrArg Prod.fst (Option.some.inj h)).trans hq) (by decide)
    replace h := (ite_h h).2 c16
    by_cases c22 : ((xs a3.toNatClampNeg) &&& 31) = 3
    · replace h := (ite_h h).1 c22
      refine v_tableIn C 231 dL_law_33 (by rw [c22]; decide) (by rw [c22]; decide) (by rw [c22]; rfl) (by decide) ?_
      refine v_aload_n C 1 dL_law_231 rfl ?_
      refine v_aload_n C 0 dL_law_232 rfl ?_
      refine v_iload_n C 3 dL_law_233 rfl ?_
      refine v_iconst C 1 dL_law_234 rfl ?_
      refine v_iadd C dL_law_235 ?_
      obtain ⟨g23, h⟩ := gd_h h
      refine v_sld C hs g23 dL_law_236 ?_
      refine cv11 C [] kk0 (m_U_fault C.inj M (xs (a3 + 1).toNatClampNeg) _ rfl) ci_U_fault rfl lk_L_27 (by decide) rfl rfl (Nat.le_of_ble_eq_true rfl) dL_law_237 ?_
      refine v_aload_n C 2 dL_law_240 rfl ?_
      refine v_aload_n C 0 dL_law_241 rfl ?_
      refine v_iload_n C 3 dL_law_242 rfl ?_
      refine v_iconst C 1 dL_law_243 rfl ?_
      refine v_iadd C dL_law_244 ?_
      obtain ⟨g24, h⟩ := gd_h h
      refine v_sld C hs g24 dL_law_245 ?_
      obtain ⟨q25, hq25, h⟩ := Option.bind_eq_some_iff.mp h
      refine cv12 C [.int (f_U_fault M (xs (a3 + 1).toNatClampNeg))] kk91 (m_Mo_fault C.inj M (xs (a3 + 1).toNatClampNeg) q25 hq25) ci_Mo_fault rfl lk_L_30 (by decide) rfl rfl (Nat.le_of_ble_eq_true rfl) dL_law_246 ?_
      refine v_icmp_eq C 911 dL_law_249 (by decide) (fun c26 => ?_) (fun c26 => ?_)
      · replace h := (ite_h h).1 c26
        exact v_L_b911 C K hs hq hk18 h
      · replace h := (ite_h h).2 c26
        refine v_iconst C 0 dL_law_252 rfl ?_
        exact absurd (show (0 : Int32) = 1 from (congrArg Prod.fst (Option.some.inj h)).trans hq) (by decide)
    replace h := (ite_h h).2 c22
    by_cases c27 : ((xs a3.toNatClampNeg) &&& 31) = 4
    · replace h := (ite_h h).1 c27
      refine v_tableIn C 254 dL_law_33 (by rw [c27]; decide) (by rw [c27]; decide) (by rw [c27]; rfl) (by decide) ?_
      refine v_aload_n C 1 dL_law_254 rfl ?_
      refine v_aload_n C 0 dL_law_255 rfl ?_
      refine v_iload_n C 3 dL_law_256 rfl ?_
      refine v_iconst C 1 dL_law_257 rfl ?_
      refine v_iadd C dL_law_258 ?_
      obtain ⟨g28, h⟩ := gd_h h
      refine v_sld C hs g28 dL_law_259 ?_
      refine v_aload_n C 0 dL_law_260 rfl ?_
      refine v_iload_n C 3 dL_law_261 rfl ?_
      refine v_iconst C 2 dL_law_262 rfl ?_
      refine v_iadd C dL_law_263 ?_
      obtain ⟨g29, h⟩ := gd_h h
      refine v_sld C hs g29 dL_law_264 ?_
      refine v_aload_n C 0 dL_law_265 rfl ?_
      refine v_iload_n C 3 dL_law_266 rfl ?_
      refine v_iconst C 3 dL_law_267 rfl ?_
      refine v_iadd C dL_law_268 ?_
      obtain ⟨g30, h⟩ := gd_h h
      refine v_sld C hs g30 dL_law_269 ?_
      obtain ⟨q31, hq31, h⟩ := Option.bind_eq_some_iff.mp h
      refine cv11 C [] kk0 (m_U_row C.inj M (xs (a3 + 1).toNatClampNeg) (xs (a3 + 2).toNatClampNeg) (xs (a3 + 3).toNatClampNeg) q31 hq31) ci_U_row rfl lk_L_31 (by decide) rfl rfl (Nat.le_of_ble_eq_true rfl) dL_law_270 ?_
      refine v_aload_n C 2 dL_law_273 rfl ?_
      refine v_aload_n C 0 dL_law_274 rfl ?_
      refine v_iload_n C 3 dL_law_275 rfl ?_
      refine v_iconst C 1 dL_law_276 rfl ?_
      refine v_iadd C dL_law_277 ?_
      obtain ⟨g32, h⟩ := gd_h h
      refine v_sld C hs g32 dL_law_278 ?_
      refine v_aload_n C 0 dL_law_279 rfl ?_
      refine v_iload_n C 3 dL_law_280 rfl ?_
      refine v_iconst C 2 dL_law_281 rfl ?_
      refine v_iadd C dL_law_282 ?_
      obtain ⟨g33, h⟩ := gd_h h
      refine v_sld C hs g33 dL_law_283 ?_
      refine v_aload_n C 0 dL_law_284 rfl ?_
      refine v_iload_n C 3 dL_law_285 rfl ?_
      refine v_iconst C 3 dL_law_286 rfl ?_
      refine v_iadd C dL_law_287 ?_
      obtain ⟨g34, h⟩ := gd_h h
      refine v_sld C hs g34 dL_law_288 ?_
      obtain ⟨q35, hq35, h⟩ := Option.bind_eq_some_iff.mp h
      refine cv12 C [.int q31] kk91 (m_Mo_row C.inj M (xs (a3 + 1).toNatClampNeg) (xs (a3 + 2).toNatClampNeg) (xs (a3 + 3).toNatClampNeg) q35 hq35) ci_Mo_row rfl lk_L_35 (by decide) rfl rfl (Nat.le_of_ble_eq_true rfl) dL_law_289 ?_
      refine v_icmp_eq C 911 dL_law_292 (by decide) (fun c36 => ?_) (fun c36 => ?_)
      · replace h := (ite_h h).1 c36
        exact v_L_b911 C K hs hq hk18 h
      · replace h := (ite_h h).2 c36
        refine v_iconst C 0 dL_law_295 rfl ?_
        exact absurd (show (0 : Int32) = 1 from (congrArg Prod.fst (Option.some.inj h)).trans hq) (by decide)
    replace h := (ite_h h).2 c27
    by_cases c37 : ((xs a3.toNatClampNeg) &&& 31) = 5
    · replace h := (ite_h h).1 c37
      refine v_tableIn C 297 dL_law_33 (by rw [c37]; decide) (by rw [c37]; decide) (by rw [c37]; rfl) (by decide) ?_
      refine v_aload_n C 1 dL_law_297 rfl ?_
      refine v_aload_n C 0 dL_law_298 rfl ?_
      refine v_iload_n C 3 dL_law_299 rfl ?_
      refine v_iconst C 1 dL_law_300 rfl ?_
      refine v_iadd C dL_law_301 ?_
      obtain ⟨g38, h⟩ := gd_h h
      refine v_sld C hs g38 dL_law_302 ?_
      refine v_aload_n C 0 dL_law_303 rfl ?_
      refine v_iload_n C 3 dL_law_304 rfl ?_
      refine v_iconst C 2 dL_law_305 rfl ?_
      refine v_iadd C dL_law_306 ?_
      obtain ⟨g39, h⟩ := gd_h h
      refine v_sld C hs g39 dL_law_307 ?_
      obtain ⟨q40, hq40, h⟩ := Option.bind_eq_some_iff.mp h
      refine cv11 C [] kk0 (m_U_step C.inj M (xs (a3 + 1).toNatClampNeg) (xs (a3 + 2).toNatClampNeg) q40 hq40) ci_U_step rfl lk_L_36 (by decide) rfl rfl (Nat.le_of_ble_eq_true rfl) dL_law_308 ?_
      refine v_aload_n C 2 dL_law_311 rfl ?_
      refine v_aload_n C 0 dL_law_312 rfl ?_
      refine v_iload_n C 3 dL_law_313 rfl ?_
      refine v_iconst C 1 dL_law_314 rfl ?_
      refine v_iadd C dL_law_315 ?_
      obtain ⟨g41, h⟩ := gd_h h
      refine v_sld C hs g41 dL_law_316 ?_
      refine v_aload_n C 0 dL_law_317 rfl ?_
      refine v_iload_n C 3 dL_law_318 rfl ?_
      refine v_iconst C 2 dL_law_319 rfl ?_
      refine v_iadd C dL_law_320 ?_
      obtain ⟨g42, h⟩ := gd_h h
      refine v_sld C hs g42 dL_law_321 ?_
      obtain ⟨q43, hq43, h⟩ := Option.bind_eq_some_iff.mp h
      refine cv12 C [.int q40] kk91 (m_Mo_step C.inj M (xs (a3 + 1).toNatClampNeg) (xs (a3 + 2).toNatClampNeg) q43 hq43) ci_Mo_step rfl lk_L_39 (by decide) rfl rfl (Nat.le_of_ble_eq_true rfl) dL_law_322 ?_
      refine v_icmp_eq C 911 dL_law_325 (by decide) (fun c44 => ?_) (fun c44 => ?_)
      · replace h := (ite_h h).1 c44
        exact v_L_b911 C K hs hq hk18 h
      · replace h := (ite_h h).2 c44
        refine v_iconst C 0 dL_law_328 rfl ?_
        exact absurd (show (0 : Int32) = 1 from (congrArg Prod.fst (Option.some.inj h)).trans hq) (by decide)
    replace h := (ite_h h).2 c37
    by_cases c45 : ((xs a3.toNatClampNeg) &&& 31) = 6
    · replace h := (ite_h h).1 c45
      refine v_tableIn C 330 dL_law_33 (by rw [c45]; decide) (by rw [c45]; decide) (by rw [c45]; rfl) (by decide) ?_
      refine v_aload_n C 1 dL_law_330 rfl ?_
      refine v_aload_n C 0 dL_law_331 rfl ?_
      refine v_iload_n C 3 dL_law_332 rfl ?_
      refine v_iconst C 1 dL_law_333 rfl ?_
      refine v_iadd C dL_law_334 ?_
      obtain ⟨g46, h⟩ := gd_h h
      refine v_sld C hs g46 dL_law_335 ?_
      obtain ⟨q47, hq47, h⟩ := bnd_ex h
      refine cv11 C [] kk0 (m_U_end C.inj M (xs (a3 + 1).toNatClampNeg) q47 hq47) ci_U_end rfl lk_L_40 (by decide) rfl rfl (Nat.le_of_ble_eq_true rfl) dL_law_336 ?_
      refine v_aload_n C 2 dL_law_339 rfl ?_
      refine v_aload_n C 0 dL_law_340 rfl ?_
      refine v_iload_n C 3 dL_law_341 rfl ?_
      refine v_iconst C 1 dL_law_342 rfl ?_
      refine v_iadd C dL_law_343 ?_
      obtain ⟨g48, h⟩ := gd_h h
      refine v_sld C hs g48 dL_law_344 ?_
      obtain ⟨q49, hq49, h⟩ := bnd_ex h
      refine cv12 C [.int q47.1] kk91 (m_Mo_end C.inj q47.2 (xs (a3 + 1).toNatClampNeg) q49 hq49) ci_Mo_end rfl lk_L_43 (by decide) rfl rfl (Nat.le_of_ble_eq_true rfl) dL_law_345 ?_
      refine v_icmp_eq C 911 dL_law_348 (by decide) (fun c50 => ?_) (fun c50 => ?_)
      · replace h := (ite_h h).1 c50
        exact v_L_b911 C K hs hq hk18 h
      · replace h := (ite_h h).2 c50
        refine v_iconst C 0 dL_law_351 rfl ?_
        exact absurd (show (0 : Int32) = 1 from (congrArg Prod.fst (Option.some.inj h)).trans hq) (by decide)
    replace h := (ite_h h).2 c45
    by_cases c51 : ((xs a3.toNatClampNeg) &&& 31) = 7
    · replace h := (ite_h h).1 c51
      refine v_tableIn C 353 dL_law_33 (by rw [c51]; decide) (by rw [c51]; decide) (by rw [c51]; rfl) (by decide) ?_
      refine v_aload_n C 1 dL_law_353 rfl ?_
      refine v_aload_n C 0 dL_law_354 rfl ?_
      refine v_iload_n C 3 dL_law_355 rfl ?_
      refine v_iconst C 1 dL_law_356 rfl ?_
      refine v_iadd C dL_law_357 ?_
      obtain ⟨g52, h⟩ := gd_h h
      refine v_sld C hs g52 dL_law_358 ?_
      obtain ⟨q53, hq53, h⟩ := Option.bind_eq_some_iff.mp h
      refine cv11 C [] kk0 (m_U_error C.inj M (xs (a3 + 1).toNatClampNeg) q53 hq53) ci_U_error rfl lk_L_44 (by decide) rfl rfl (Nat.le_of_ble_eq_true rfl) dL_law_359 ?_
      refine v_aload_n C 2 dL_law_362 rfl ?_
      refine v_aload_n C 0 dL_law_363 rfl ?_
      refine v_iload_n C 3 dL_law_364 rfl ?_
      refine v_iconst C 1 dL_law_365 rfl ?_
      refine v_iadd C dL_law_366 ?_
      obtain ⟨g54, h⟩ := gd_h h
      refine v_sld C hs g54 dL_law_367 ?_
      obtain ⟨q55, hq55, h⟩ := Option.bind_eq_some_iff.mp h
      refine cv12 C [.int q53.1] kk91 (m_Mo_error C.inj q53.2 (xs (a3 + 1).toNatClampNeg) q55 hq55) ci_Mo_error rfl lk_L_47 (by decide) rfl rfl (Nat.le_of_ble_eq_true rfl) dL_law_368 ?_
      refine v_icmp_eq C 911 dL_law_371 (by decide) (fun c56 => ?_) (fun c56 => ?_)
      · replace h := (ite_h h).1 c56
        exact v_L_b911 C K hs hq hk18 h
      · replace h := (ite_h h).2 c56
        refine v_iconst C 0 dL_law_374 rfl ?_
        exact absurd (show (0 : Int32) = 1 from (congrArg Prod.fst (Option.some.inj h)).trans hq) (by decide)
    replace h := (ite_h h).2 c51
    by_cases c57 : ((xs a3.toNatClampNeg) &&& 31) = 8
    · replace h := (ite_h h).1 c57
      refine v_tableIn C 376 dL_law_33 (by rw [c57]; decide) (by rw [c57]; decide) (by rw [c57]; rfl) (by decide) ?_
      refine v_aload_n C 1 dL_law_376 rfl ?_
      refine v_aload_n C 0 dL_law_377 rfl ?_
      refine v_iload_n C 3 dL_law_378 rfl ?_
      refine v_iconst C 1 dL_law_379 rfl ?_
      refine v_iadd C dL_law_380 ?_
      obtain ⟨g58, h⟩ := gd_h h
      refine v_sld C hs g58 dL_law_381 ?_
      refine v_aload_n C 0 dL_law_382 rfl ?_
      refine v_iload_n C 3 dL_law_383 rfl ?_
      refine v_iconst C 2 dL_law_384 rfl ?_
      refine v_iadd C dL_law_385 ?_
      obtain ⟨g59, h⟩ := gd_h h
      refine v_sld C hs g59 dL_law_386 ?_
      obtain ⟨q60, hq60, h⟩ := Option.bind_eq_some_iff.mp h
      refine cv11 C [] kk0 (m_U_answer C.inj M (xs (a3 + 1).toNatClampNeg) (xs (a3 + 2).toNatClampNeg) q60 hq60) ci_U_answer rfl lk_L_48 (by decide) rfl rfl (Nat.le_of_ble_eq_true rfl) dL_law_387 ?_
      refine v_aload_n C 2 dL_law_390 rfl ?_
      refine v_aload_n C 0 dL_law_391 rfl ?_
      refine v_iload_n C 3 dL_law_392 rfl ?_
      refine v_iconst C 1 dL_law_393 rfl ?_
      refine v_iadd C dL_law_394 ?_
      obtain ⟨g61, h⟩ := gd_h h
      refine v_sld C hs g61 dL_law_395 ?_
      refine v_aload_n C 0 dL_law_396 rfl ?_
      refine v_iload_n C 3 dL_law_397 rfl ?_
      refine v_iconst C 2 dL_law_398 rfl ?_
      refine v_iadd C dL_law_399 ?_
      obtain ⟨g62, h⟩ := gd_h h
      refine v_sld C hs g62 dL_law_400 ?_
      obtain ⟨q63, hq63, h⟩ := Option.bind_eq_some_iff.mp h
      refine cv12 C [.int q60.1] kk91 (m_Mo_answer C.inj q60.2 (xs (a3 + 1).toNatClampNeg) (xs (a3 + 2).toNatClampNeg) q63 hq63) ci_Mo_answer rfl lk_L_51 (by decide) rfl rfl (Nat.le_of_ble_eq_true rfl) dL_law_401 ?_
      refine v_icmp_eq C 911 dL_law_404 (by decide) (fun c64 => ?_) (fun c64 => ?_)
      · replace h := (ite_h h).1 c64
        exact v_L_b911 C K hs hq hk18 h
      · replace h := (ite_h h).2 c64
        refine v_iconst C 0 dL_law_407 rfl ?_
        exact absurd (show (0 : Int32) = 1 from (congrArg Prod.fst (Option.some.inj h)).trans hq) (by decide)
    replace h := (ite_h h).2 c57
    by_cases c65 : ((xs a3.toNatClampNeg) &&& 31) = 9
    · replace h := (ite_h h).1 c65
      refine v_tableIn C 409 dL_law_33 (by rw [c65]; decide) (by rw [c65]; decide) (by rw [c65]; rfl) (by decide) ?_
      refine v_aload_n C 1 dL_law_409 rfl ?_
      obtain ⟨q66, hq66, h⟩ := Option.bind_eq_some_iff.mp h
      refine cv11 C [] kk0 (m_U_same C.inj M q66 hq66) ci_U_same rfl lk_L_52 (by decide) rfl rfl (Nat.le_of_ble_eq_true rfl) dL_law_410 ?_
      refine v_aload_n C 2 dL_law_413 rfl ?_
      obtain ⟨q67, hq67, h⟩ := Option.bind_eq_some_iff.mp h
      refine cv12 C [.int q66.1] kk91 (m_Mo_same C.inj q66.2 q67 hq67) ci_Mo_same rfl lk_L_56 (by decide) rfl rfl (Nat.le_of_ble_eq_true rfl) dL_law_414 ?_
      refine v_icmp_eq C 911 dL_law_417 (by decide) (fun c68 => ?_) (fun c68 => ?_)
      · replace h := (ite_h h).1 c68
        exact v_L_b911 C K hs hq hk18 h
      · replace h := (ite_h h).2 c68
        refine v_iconst C 0 dL_law_420 rfl ?_
        exact absurd (show (0 : Int32) = 1 from (congrArg Prod.fst (Option.some.inj h)).trans hq) (by decide)
    replace h := (ite_h h).2 c65
    by_cases c69 : ((xs a3.toNatClampNeg) &&& 31) = 10
    · replace h := (ite_h h).1 c69
      refine v_tableIn C 422 dL_law_33 (by rw [c69]; decide) (by rw [c69]; decide) (by rw [c69]; rfl) (by decide) ?_
      refine v_aload_n C 1 dL_law_422 rfl ?_
      obtain ⟨q70, hq70, h⟩ := Option.bind_eq_some_iff.mp h
      refine cv11 C [] kk0 (m_U_total C.inj M q70 hq70) ci_U_total rfl lk_L_57 (by decide) rfl rfl (Nat.le_of_ble_eq_true rfl) dL_law_423 ?_
      refine v_aload_n C 2 dL_law_426 rfl ?_
      obtain ⟨q71, hq71, h⟩ := Option.bind_eq_some_iff.mp h
      refine cv12 C [.int q70.1] kk91 (m_Mo_total C.inj q70.2 q71 hq71) ci_Mo_total rfl lk_L_60 (by decide) rfl rfl (Nat.le_of_ble_eq_true rfl) dL_law_427 ?_
      refine v_icmp_eq C 911 dL_law_430 (by decide) (fun c72 => ?_) (fun c72 => ?_)
      · replace h := (ite_h h).1 c72
        exact v_L_b911 C K hs hq hk18 h
      · replace h := (ite_h h).2 c72
        refine v_iconst C 0 dL_law_433 rfl ?_
        exact absurd (show (0 : Int32) = 1 from (congrArg Prod.fst (Option.some.inj h)).trans hq) (by decide)
    replace h := (ite_h h).2 c69
    by_cases c73 : ((xs a3.toNatClampNeg) &&& 31) = 11
    · replace h := (ite_h h).1 c73
      refine v_tableIn C 435 dL_law_33 (by rw [c73]; decide) (by rw [c73]; decide) (by rw [c73]; rfl) (by decide) ?_
      refine v_aload_n C 1 dL_law_435 rfl ?_
      obtain ⟨q74, hq74, h⟩ := Option.bind_eq_some_iff.mp h
      refine cv11 C [] kk0 (m_U_speaks C.inj M q74 hq74) ci_U_speaks rfl lk_L_61 (by decide) rfl rfl (Nat.le_of_ble_eq_true rfl) dL_law_436 ?_
      refine v_aload_n C 2 dL_law_439 rfl ?_
      obtain ⟨q75, hq75, h⟩ := Option.bind_eq_some_iff.mp h
      refine cv12 C [.int q74] kk91 (m_Mo_speaks C.inj M q75 hq75) ci_Mo_speaks rfl lk_L_64 (by decide) rfl rfl (Nat.le_of_ble_eq_true rfl) dL_law_440 ?_
      refine v_icmp_eq C 911 dL_law_443 (by decide) (fun c76 => ?_) (fun c76 => ?_)
      · replace h := (ite_h h).1 c76
        exact v_L_b911 C K hs hq hk18 h
      · replace h := (ite_h h).2 c76
        refine v_iconst C 0 dL_law_446 rfl ?_
        exact absurd (show (0 : Int32) = 1 from (congrArg Prod.fst (Option.some.inj h)).trans hq) (by decide)
    replace h := (ite_h h).2 c73
    by_cases c77 : ((xs a3.toNatClampNeg) &&& 31) = 12
    · replace h := (ite_h h).1 c77
      refine v_tableIn C 448 dL_law_33 (by rw [c77]; decide) (by rw [c77]; decide) (by rw [c77]; rfl) (by decide) ?_
      refine v_aload_n C 1 dL_law_448 rfl ?_
      refine v_aload_n C 0 dL_law_449 rfl ?_
      refine v_iload_n C 3 dL_law_450 rfl ?_
      refine v_iconst C 1 dL_law_451 rfl ?_
      refine v_iadd C dL_law_452 ?_
      obtain ⟨g78, h⟩ := gd_h h
      refine v_sld C hs g78 dL_law_453 ?_
      refine v_aload_n C 0 dL_law_454 rfl ?_
      refine v_iload_n C 3 dL_law_455 rfl ?_
      refine v_iconst C 2 dL_law_456 rfl ?_
      refine v_iadd C dL_law_457 ?_
      obtain ⟨g79, h⟩ := gd_h h
      refine v_sld C hs g79 dL_law_458 ?_
      obtain ⟨q80, hq80, h⟩ := Option.bind_eq_some_iff.mp h
      refine cv11 C [] kk0 (m_U_domain C.inj M (xs (a3 + 1).toNatClampNeg) (xs (a3 + 2).toNatClampNeg) q80 hq80) ci_U_domain rfl lk_L_65 (by decide) rfl rfl (Nat.le_of_ble_eq_true rfl) dL_law_459 ?_
      refine v_aload_n C 2 dL_law_462 rfl ?_
      refine v_aload_n C 0 dL_law_463 rfl ?_
      refine v_iload_n C 3 dL_law_464 rfl ?_
      refine v_iconst C 1 dL_law_465 rfl ?_
      refine v_iadd C dL_law_466 ?_
      obtain ⟨g81, h⟩ := gd_h h
      refine v_sld C hs g81 dL_law_467 ?_
      refine v_aload_n C 0 dL_law_468 rfl ?_
      refine v_iload_n C 3 dL_law_469 rfl ?_
      refine v_iconst C 2 dL_law_470 rfl ?_
      refine v_iadd C dL_law_471 ?_
      obtain ⟨g82, h⟩ := gd_h h
      refine v_sld C hs g82 dL_law_472 ?_
      obtain ⟨q83, hq83, h⟩ := Option.bind_eq_some_iff.mp h
      refine cv12 C [.int q80.1] kk91 (m_Mo_domain C.inj q80.2 (xs (a3 + 1).toNatClampNeg) (xs (a3 + 2).toNatClampNeg) q83 hq83) ci_Mo_domain rfl lk_L_68 (by decide) rfl rfl (Nat.le_of_ble_eq_true rfl) dL_law_473 ?_
      refine v_icmp_eq C 911 dL_law_476 (by decide) (fun c84 => ?_) (fun c84 => ?_)
      · replace h := (ite_h h).1 c84
        exact v_L_b911 C K hs hq hk18 h
      · replace h := (ite_h h).2 c84
        refine v_iconst C 0 dL_law_479 rfl ?_
        exact absurd (show (0 : Int32) = 1 from (congrArg Prod.fst (Option.some.inj h)).trans hq) (by decide)
    replace h := (ite_h h).2 c77
    by_cases c85 : ((xs a3.toNatClampNeg) &&& 31) = 13
    · replace h := (ite_h h).1 c85
      refine v_tableIn C 481 dL_law_33 (by rw [c85]; decide) (by rw [c85]; decide) (by rw [c85]; rfl) (by decide) ?_
      refine v_aload_n C 1 dL_law_481 rfl ?_
      refine v_aload_n C 0 dL_law_482 rfl ?_
      refine v_iload_n C 3 dL_law_483 rfl ?_
      refine v_iconst C 1 dL_law_484 rfl ?_
      refine v_iadd C dL_law_485 ?_
      obtain ⟨g86, h⟩ := gd_h h
      refine v_sld C hs g86 dL_law_486 ?_
      obtain ⟨q87, hq87, h⟩ := Option.bind_eq_some_iff.mp h
      refine cv11 C [] kk0 (m_U_plan C.inj M (xs (a3 + 1).toNatClampNeg) q87 hq87) ci_U_plan rfl lk_L_69 (by decide) rfl rfl (Nat.le_of_ble_eq_true rfl) dL_law_487 ?_
      refine v_aload_n C 2 dL_law_490 rfl ?_
      refine v_aload_n C 0 dL_law_491 rfl ?_
      refine v_iload_n C 3 dL_law_492 rfl ?_
      refine v_iconst C 1 dL_law_493 rfl ?_
      refine v_iadd C dL_law_494 ?_
      obtain ⟨g88, h⟩ := gd_h h
      refine v_sld C hs g88 dL_law_495 ?_
      obtain ⟨q89, hq89, h⟩ := Option.bind_eq_some_iff.mp h
      refine cv12 C [.int q87.1] kk91 (m_Mo_plan C.inj q87.2 (xs (a3 + 1).toNatClampNeg) q89 hq89) ci_Mo_plan rfl lk_L_72 (by decide) rfl rfl (Nat.le_of_ble_eq_true rfl) dL_law_496 ?_
      refine v_icmp_eq C 911 dL_law_499 (by decide) (fun c90 => ?_) (fun c90 => ?_)
      · replace h := (ite_h h).1 c90
        exact v_L_b911 C K hs hq hk18 h
      · replace h := (ite_h h).2 c90
        refine v_iconst C 0 dL_law_502 rfl ?_
        exact absurd (show (0 : Int32) = 1 from (congrArg Prod.fst (Option.some.inj h)).trans hq) (by decide)
    replace h := (ite_h h).2 c85
    by_cases c91 : ((xs a3.toNatClampNeg) &&& 31) = 14
    · replace h := (ite_h h).1 c91
      refine v_tableIn C 504 dL_law_33 (by rw [c91]; decide) (by rw [c91]; decide) (by rw [c91]; rfl) (by decide) ?_
      refine v_aload_n C 1 dL_law_504 rfl ?_
      refine v_aload_n C 0 dL_law_505 rfl ?_
      refine v_iload_n C 3 dL_law_506 rfl ?_
      refine v_iconst C 1 dL_law_507 rfl ?_
      refine v_iadd C dL_law_508 ?_
      obtain ⟨g92, h⟩ := gd_h h
      refine v_sld C hs g92 dL_law_509 ?_
      refine v_aload_n C 0 dL_law_510 rfl ?_
      refine v_iload_n C 3 dL_law_511 rfl ?_
      refine v_iconst C 2 dL_law_512 rfl ?_
      refine v_iadd C dL_law_513 ?_
      obtain ⟨g93, h⟩ := gd_h h
      refine v_sld C hs g93 dL_law_514 ?_
      obtain ⟨q94, hq94, h⟩ := Option.bind_eq_some_iff.mp h
      refine cv11 C [] kk0 (m_U_cost C.inj M (xs (a3 + 1).toNatClampNeg) (xs (a3 + 2).toNatClampNeg) q94 hq94) ci_U_cost rfl lk_L_73 (by decide) rfl rfl (Nat.le_of_ble_eq_true rfl) dL_law_515 ?_
      refine v_aload_n C 2 dL_law_518 rfl ?_
      refine v_aload_n C 0 dL_law_519 rfl ?_
      refine v_iload_n C 3 dL_law_520 rfl ?_
      refine v_iconst C 1 dL_law_521 rfl ?_
      refine v_iadd C dL_law_522 ?_
      obtain ⟨g95, h⟩ := gd_h h
      refine v_sld C hs g95 dL_law_523 ?_
      refine v_aload_n C 0 dL_law_524 rfl ?_
      refine v_iload_n C 3 dL_law_525 rfl ?_
      refine v_iconst C 2 dL_law_526 rfl ?_
      refine v_iadd C dL_law_527 ?_
      obtain ⟨g96, h⟩ := gd_h h
      refine v_sld C hs g96 dL_law_528 ?_
      obtain ⟨q97, hq97, h⟩ := Option.bind_eq_some_iff.mp h
      refine cv12 C [.int q94.1] kk91 (m_Mo_cost C.inj q94.2 (xs (a3 + 1).toNatClampNeg) (xs (a3 + 2).toNatClampNeg) q97 hq97) ci_Mo_cost rfl lk_L_76 (by decide) rfl rfl (Nat.le_of_ble_eq_true rfl) dL_law_529 ?_
      refine v_icmp_eq C 911 dL_law_532 (by decide) (fun c98 => ?_) (fun c98 => ?_)
      · replace h := (ite_h h).1 c98
        exact v_L_b911 C K hs hq hk18 h
      · replace h := (ite_h h).2 c98
        refine v_iconst C 0 dL_law_535 rfl ?_
        exact absurd (show (0 : Int32) = 1 from (congrArg Prod.fst (Option.some.inj h)).trans hq) (by decide)
    replace h := (ite_h h).2 c91
    by_cases c99 : ((xs a3.toNatClampNeg) &&& 31) = 15
    · replace h := (ite_h h).1 c99
      refine v_tableIn C 537 dL_law_33 (by rw [c99]; decide) (by rw [c99]; decide) (by rw [c99]; rfl) (by decide) ?_
      refine v_aload_n C 1 dL_law_537 rfl ?_
      refine v_aload_n C 0 dL_law_538 rfl ?_
      refine v_iload_n C 3 dL_law_539 rfl ?_
      refine v_iconst C 1 dL_law_540 rfl ?_
      refine v_iadd C dL_law_541 ?_
      obtain ⟨g100, h⟩ := gd_h h
      refine v_sld C hs g100 dL_law_542 ?_
      refine v_aload_n C 0 dL_law_543 rfl ?_
      refine v_iload_n C 3 dL_law_544 rfl ?_
      refine v_iconst C 2 dL_law_545 rfl ?_
      refine v_iadd C dL_law_546 ?_
      obtain ⟨g101, h⟩ := gd_h h
      refine v_sld C hs g101 dL_law_547 ?_
      obtain ⟨q102, hq102, h⟩ := Option.bind_eq_some_iff.mp h
      refine cv11 C [] kk0 (m_U_log C.inj M (xs (a3 + 1).toNatClampNeg) (xs (a3 + 2).toNatClampNeg) q102 hq102) ci_U_log rfl lk_L_77 (by decide) rfl rfl (Nat.le_of_ble_eq_true rfl) dL_law_548 ?_
      refine v_aload_n C 2 dL_law_551 rfl ?_
      refine v_aload_n C 0 dL_law_552 rfl ?_
      refine v_iload_n C 3 dL_law_553 rfl ?_
      refine v_iconst C 1 dL_law_554 rfl ?_
      refine v_iadd C dL_law_555 ?_
      obtain ⟨g103, h⟩ := gd_h h
      refine v_sld C hs g103 dL_law_556 ?_
      refine v_aload_n C 0 dL_law_557 rfl ?_
      refine v_iload_n C 3 dL_law_558 rfl ?_
      refine v_iconst C 2 dL_law_559 rfl ?_
      refine v_iadd C dL_law_560 ?_
      obtain ⟨g104, h⟩ := gd_h h
      refine v_sld C hs g104 dL_law_561 ?_
      obtain ⟨q105, hq105, h⟩ := Option.bind_eq_some_iff.mp h
      refine cv12 C [.int q102.1] kk91 (m_Mo_log C.inj q102.2 (xs (a3 + 1).toNatClampNeg) (xs (a3 + 2).toNatClampNeg) q105 hq105) ci_Mo_log rfl lk_L_80 (by decide) rfl rfl (Nat.le_of_ble_eq_true rfl) dL_law_562 ?_
      refine v_icmp_eq C 911 dL_law_565 (by decide) (fun c106 => ?_) (fun c106 => ?_)
      · replace h := (ite_h h).1 c106
        exact v_L_b911 C K hs hq hk18 h
      · replace h := (ite_h h).2 c106
        refine v_iconst C 0 dL_law_568 rfl ?_
        exact absurd (show (0 : Int32) = 1 from (congrArg Prod.fst (Option.some.inj h)).trans hq) (by decide)
    replace h := (ite_h h).2 c99
    by_cases c107 : ((xs a3.toNatClampNeg) &&& 31) = 16
    · replace h := (ite_h h).1 c107
      refine v_tableIn C 570 dL_law_33 (by rw [c107]; decide) (by rw [c107]; decide) (by rw [c107]; rfl) (by decide) ?_
      refine v_aload_n C 1 dL_law_570 rfl ?_
      obtain ⟨q108, hq108, h⟩ := Option.bind_eq_some_iff.mp h
      refine cv11 C [] kk0 (m_U_spare C.inj M q108 hq108) ci_U_spare rfl lk_L_81 (by decide) rfl rfl (Nat.le_of_ble_eq_true rfl) dL_law_571 ?_
      refine v_aload_n C 2 dL_law_574 rfl ?_
      obtain ⟨q109, hq109, h⟩ := Option.bind_eq_some_iff.mp h
      refine cv12 C [.int q108.1] kk91 (m_Mo_spare C.inj q108.2 q109 hq109) ci_Mo_spare rfl lk_L_84 (by decide) rfl rfl (Nat.le_of_ble_eq_true rfl) dL_law_575 ?_
      refine v_icmp_eq C 911 dL_law_578 (by decide) (fun c110 => ?_) (fun c110 => ?_)
      · replace h := (ite_h h).1 c110
        exact v_L_b911 C K hs hq hk18 h
      · replace h := (ite_h h).2 c110
        refine v_iconst C 0 dL_law_581 rfl ?_
        exact absurd (show (0 : Int32) = 1 from (congrArg Prod.fst (Option.some.inj h)).trans hq) (by decide)
    replace h := (ite_h h).2 c107
    by_cases c111 : ((xs a3.toNatClampNeg) &&& 31) = 17
    · replace h := (ite_h h).1 c111
      refine v_tableIn C 583 dL_law_33 (by rw [c111]; decide) (by rw [c111]; decide) (by rw [c111]; rfl) (by decide) ?_
      refine v_aload_n C 1 dL_law_583 rfl ?_
      refine v_aload_n C 0 dL_law_584 rfl ?_
      refine v_iload_n C 3 dL_law_585 rfl ?_
      refine v_iconst C 1 dL_law_586 rfl ?_
      refine v_iadd C dL_law_587 ?_
      obtain ⟨g112, h⟩ := gd_h h
      refine v_sld C hs g112 dL_law_588 ?_
      refine v_aload_n C 0 dL_law_589 rfl ?_
      refine v_iload_n C 3 dL_law_590 rfl ?_
      refine v_iconst C 2 dL_law_591 rfl ?_
      refine v_iadd C dL_law_592 ?_
      obtain ⟨g113, h⟩ := gd_h h
      refine v_sld C hs g113 dL_law_593 ?_
      refine v_aload_n C 0 dL_law_594 rfl ?_
      refine v_iload_n C 3 dL_law_595 rfl ?_
      refine v_iconst C 3 dL_law_596 rfl ?_
      refine v_iadd C dL_law_597 ?_
      obtain ⟨g114, h⟩ := gd_h h
      refine v_sld C hs g114 dL_law_598 ?_
      obtain ⟨q115, hq115, h⟩ := Option.bind_eq_some_iff.mp h
      refine cv11 C [] kk0 (m_U_sheet C.inj M (xs (a3 + 1).toNatClampNeg) (xs (a3 + 2).toNatClampNeg) (xs (a3 + 3).toNatClampNeg) q115 hq115) ci_U_sheet rfl lk_L_85 (by decide) rfl rfl (Nat.le_of_ble_eq_true rfl) dL_law_599 ?_
      refine v_aload_n C 2 dL_law_602 rfl ?_
      refine v_aload_n C 0 dL_law_603 rfl ?_
      refine v_iload_n C 3 dL_law_604 rfl ?_
      refine v_iconst C 1 dL_law_605 rfl ?_
      refine v_iadd C dL_law_606 ?_
      obtain ⟨g116, h⟩ := gd_h h
      refine v_sld C hs g116 dL_law_607 ?_
      refine v_aload_n C 0 dL_law_608 rfl ?_
      refine v_iload_n C 3 dL_law_609 rfl ?_
      refine v_iconst C 2 dL_law_610 rfl ?_
      refine v_iadd C dL_law_611 ?_
      obtain ⟨g117, h⟩ := gd_h h
      refine v_sld C hs g117 dL_law_612 ?_
      refine v_aload_n C 0 dL_law_613 rfl ?_
      refine v_iload_n C 3 dL_law_614 rfl ?_
      refine v_iconst C 3 dL_law_615 rfl ?_
      refine v_iadd C dL_law_616 ?_
      obtain ⟨g118, h⟩ := gd_h h
      refine v_sld C hs g118 dL_law_617 ?_
      obtain ⟨q119, hq119, h⟩ := Option.bind_eq_some_iff.mp h
      refine cv12 C [.int q115.1] kk91 (m_Mo_sheet C.inj q115.2 (xs (a3 + 1).toNatClampNeg) (xs (a3 + 2).toNatClampNeg) (xs (a3 + 3).toNatClampNeg) q119 hq119) ci_Mo_sheet rfl lk_L_88 (by decide) rfl rfl (Nat.le_of_ble_eq_true rfl) dL_law_618 ?_
      refine v_icmp_eq C 911 dL_law_621 (by decide) (fun c120 => ?_) (fun c120 => ?_)
      · replace h := (ite_h h).1 c120
        exact v_L_b911 C K hs hq hk18 h
      · replace h := (ite_h h).2 c120
        refine v_iconst C 0 dL_law_624 rfl ?_
        exact absurd (show (0 : Int32) = 1 from (congrArg Prod.fst (Option.some.inj h)).trans hq) (by decide)
    replace h := (ite_h h).2 c111
    by_cases c121 : ((xs a3.toNatClampNeg) &&& 31) = 18
    · replace h := (ite_h h).1 c121
      refine v_tableIn C 626 dL_law_33 (by rw [c121]; decide) (by rw [c121]; decide) (by rw [c121]; rfl) (by decide) ?_
      refine v_aload_n C 1 dL_law_626 rfl ?_
      refine v_aload_n C 0 dL_law_627 rfl ?_
      refine v_iload_n C 3 dL_law_628 rfl ?_
      refine v_iconst C 1 dL_law_629 rfl ?_
      refine v_iadd C dL_law_630 ?_
      obtain ⟨g122, h⟩ := gd_h h
      refine v_sld C hs g122 dL_law_631 ?_
      obtain ⟨q123, hq123, h⟩ := Option.bind_eq_some_iff.mp h
      refine cv11 C [] kk0 (m_U_lose C.inj M (xs (a3 + 1).toNatClampNeg) q123 hq123) ci_U_lose rfl lk_L_89 (by decide) rfl rfl (Nat.le_of_ble_eq_true rfl) dL_law_632 ?_
      refine v_aload_n C 2 dL_law_635 rfl ?_
      refine v_aload_n C 0 dL_law_636 rfl ?_
      refine v_iload_n C 3 dL_law_637 rfl ?_
      refine v_iconst C 1 dL_law_638 rfl ?_
      refine v_iadd C dL_law_639 ?_
      obtain ⟨g124, h⟩ := gd_h h
      refine v_sld C hs g124 dL_law_640 ?_
      obtain ⟨q125, hq125, h⟩ := Option.bind_eq_some_iff.mp h
      refine cv12 C [.int q123.1] kk91 (m_Mo_lose C.inj q123.2 (xs (a3 + 1).toNatClampNeg) q125 hq125) ci_Mo_lose rfl lk_L_92 (by decide) rfl rfl (Nat.le_of_ble_eq_true rfl) dL_law_641 ?_
      refine v_icmp_eq C 911 dL_law_644 (by decide) (fun c126 => ?_) (fun c126 => ?_)
      · replace h := (ite_h h).1 c126
        exact v_L_b911 C K hs hq hk18 h
      · replace h := (ite_h h).2 c126
        refine v_iconst C 0 dL_law_647 rfl ?_
        exact absurd (show (0 : Int32) = 1 from (congrArg Prod.fst (Option.some.inj h)).trans hq) (by decide)
    replace h := (ite_h h).2 c121
    by_cases c127 : ((xs a3.toNatClampNeg) &&& 31) = 19
    · replace h := (ite_h h).1 c127
      refine v_tableIn C 649 dL_law_33 (by rw [c127]; decide) (by rw [c127]; decide) (by rw [c127]; rfl) (by decide) ?_
      refine v_aload_n C 1 dL_law_649 rfl ?_
      refine v_aload_n C 0 dL_law_650 rfl ?_
      refine v_iload_n C 3 dL_law_651 rfl ?_
      refine v_iconst C 1 dL_law_652 rfl ?_
      refine v_iadd C dL_law_653 ?_
      obtain ⟨g128, h⟩ := gd_h h
      refine v_sld C hs g128 dL_law_654 ?_
      refine v_aload_n C 0 dL_law_655 rfl ?_
      refine v_iload_n C 3 dL_law_656 rfl ?_
      refine v_iconst C 2 dL_law_657 rfl ?_
      refine v_iadd C dL_law_658 ?_
      obtain ⟨g129, h⟩ := gd_h h
      refine v_sld C hs g129 dL_law_659 ?_
      refine v_aload_n C 0 dL_law_660 rfl ?_
      refine v_iload_n C 3 dL_law_661 rfl ?_
      refine v_iconst C 3 dL_law_662 rfl ?_
      refine v_iadd C dL_law_663 ?_
      obtain ⟨g130, h⟩ := gd_h h
      refine v_sld C hs g130 dL_law_664 ?_
      refine v_aload_n C 0 dL_law_665 rfl ?_
      refine v_iload_n C 3 dL_law_666 rfl ?_
      refine v_iconst C 4 dL_law_667 rfl ?_
      refine v_iadd C dL_law_668 ?_
      obtain ⟨g131, h⟩ := gd_h h
      refine v_sld C hs g131 dL_law_669 ?_
      obtain ⟨q132, hq132, h⟩ := Option.bind_eq_some_iff.mp h
      refine cv11 C [] kk0 (m_U_put C.inj M (xs (a3 + 1).toNatClampNeg) (xs (a3 + 2).toNatClampNeg) (xs (a3 + 3).toNatClampNeg) (xs (a3 + 4).toNatClampNeg) q132 hq132) ci_U_put rfl lk_L_93 (by decide) rfl rfl (Nat.le_of_ble_eq_true rfl) dL_law_670 ?_
      refine v_aload_n C 2 dL_law_673 rfl ?_
      refine v_aload_n C 0 dL_law_674 rfl ?_
      refine v_iload_n C 3 dL_law_675 rfl ?_
      refine v_iconst C 1 dL_law_676 rfl ?_
      refine v_iadd C dL_law_677 ?_
      obtain ⟨g133, h⟩ := gd_h h
      refine v_sld C hs g133 dL_law_678 ?_
      refine v_aload_n C 0 dL_law_679 rfl ?_
      refine v_iload_n C 3 dL_law_680 rfl ?_
      refine v_iconst C 2 dL_law_681 rfl ?_
      refine v_iadd C dL_law_682 ?_
      obtain ⟨g134, h⟩ := gd_h h
      refine v_sld C hs g134 dL_law_683 ?_
      refine v_aload_n C 0 dL_law_684 rfl ?_
      refine v_iload_n C 3 dL_law_685 rfl ?_
      refine v_iconst C 3 dL_law_686 rfl ?_
      refine v_iadd C dL_law_687 ?_
      obtain ⟨g135, h⟩ := gd_h h
      refine v_sld C hs g135 dL_law_688 ?_
      refine v_aload_n C 0 dL_law_689 rfl ?_
      refine v_iload_n C 3 dL_law_690 rfl ?_
      refine v_iconst C 4 dL_law_691 rfl ?_
      refine v_iadd C dL_law_692 ?_
      obtain ⟨g136, h⟩ := gd_h h
      refine v_sld C hs g136 dL_law_693 ?_
      obtain ⟨q137, hq137, h⟩ := Option.bind_eq_some_iff.mp h
      refine cv12 C [.int q132.1] kk91 (m_Mo_put C.inj q132.2 (xs (a3 + 1).toNatClampNeg) (xs (a3 + 2).toNatClampNeg) (xs (a3 + 3).toNatClampNeg) (xs (a3 + 4).toNatClampNeg) q137 hq137) ci_Mo_put rfl lk_L_97 (by decide) rfl rfl (Nat.le_of_ble_eq_true rfl) dL_law_694 ?_
      refine v_icmp_eq C 911 dL_law_697 (by decide) (fun c138 => ?_) (fun c138 => ?_)
      · replace h := (ite_h h).1 c138
        exact v_L_b911 C K hs hq hk18 h
      · replace h := (ite_h h).2 c138
        refine v_iconst C 0 dL_law_700 rfl ?_
        exact absurd (show (0 : Int32) = 1 from (congrArg Prod.fst (Option.some.inj h)).trans hq) (by decide)
    replace h := (ite_h h).2 c127
    by_cases c139 : ((xs a3.toNatClampNeg) &&& 31) = 20
    · replace h := (ite_h h).1 c139
      refine v_tableIn C 702 dL_law_33 (by rw [c139]; decide) (by rw [c139]; decide) (by rw [c139]; rfl) (by decide) ?_
      refine v_aload_n C 1 dL_law_702 rfl ?_
      refine v_aload_n C 0 dL_law_703 rfl ?_
      refine v_iload_n C 3 dL_law_704 rfl ?_
      refine v_iconst C 1 dL_law_705 rfl ?_
      refine v_iadd C dL_law_706 ?_
      obtain ⟨g140, h⟩ := gd_h h
      refine v_sld C hs g140 dL_law_707 ?_
      refine v_aload_n C 0 dL_law_708 rfl ?_
      refine v_iload_n C 3 dL_law_709 rfl ?_
      refine v_iconst C 2 dL_law_710 rfl ?_
      refine v_iadd C dL_law_711 ?_
      obtain ⟨g141, h⟩ := gd_h h
      refine v_sld C hs g141 dL_law_712 ?_
      refine v_aload_n C 0 dL_law_713 rfl ?_
      refine v_iload_n C 3 dL_law_714 rfl ?_
      refine v_iconst C 3 dL_law_715 rfl ?_
      refine v_iadd C dL_law_716 ?_
      obtain ⟨g142, h⟩ := gd_h h
      refine v_sld C hs g142 dL_law_717 ?_
      obtain ⟨q143, hq143, h⟩ := Option.bind_eq_some_iff.mp h
      refine cv11 C [] kk0 (m_U_get C.inj M (xs (a3 + 1).toNatClampNeg) (xs (a3 + 2).toNatClampNeg) (xs (a3 + 3).toNatClampNeg) q143 hq143) ci_U_get rfl lk_L_98 (by decide) rfl rfl (Nat.le_of_ble_eq_true rfl) dL_law_718 ?_
      refine v_aload_n C 2 dL_law_721 rfl ?_
      refine v_aload_n C 0 dL_law_722 rfl ?_
      refine v_iload_n C 3 dL_law_723 rfl ?_
      refine v_iconst C 1 dL_law_724 rfl ?_
      refine v_iadd C dL_law_725 ?_
      obtain ⟨g144, h⟩ := gd_h h
      refine v_sld C hs g144 dL_law_726 ?_
      refine v_aload_n C 0 dL_law_727 rfl ?_
      refine v_iload_n C 3 dL_law_728 rfl ?_
      refine v_iconst C 2 dL_law_729 rfl ?_
      refine v_iadd C dL_law_730 ?_
      obtain ⟨g145, h⟩ := gd_h h
      refine v_sld C hs g145 dL_law_731 ?_
      refine v_aload_n C 0 dL_law_732 rfl ?_
      refine v_iload_n C 3 dL_law_733 rfl ?_
      refine v_iconst C 3 dL_law_734 rfl ?_
      refine v_iadd C dL_law_735 ?_
      obtain ⟨g146, h⟩ := gd_h h
      refine v_sld C hs g146 dL_law_736 ?_
      obtain ⟨q147, hq147, h⟩ := Option.bind_eq_some_iff.mp h
      refine cv12 C [.int q143.1] kk91 (m_Mo_get C.inj q143.2 (xs (a3 + 1).toNatClampNeg) (xs (a3 + 2).toNatClampNeg) (xs (a3 + 3).toNatClampNeg) q147 hq147) ci_Mo_get rfl lk_L_101 (by decide) rfl rfl (Nat.le_of_ble_eq_true rfl) dL_law_737 ?_
      refine v_icmp_eq C 911 dL_law_740 (by decide) (fun c148 => ?_) (fun c148 => ?_)
      · replace h := (ite_h h).1 c148
        exact v_L_b911 C K hs hq hk18 h
      · replace h := (ite_h h).2 c148
        refine v_iconst C 0 dL_law_743 rfl ?_
        exact absurd (show (0 : Int32) = 1 from (congrArg Prod.fst (Option.some.inj h)).trans hq) (by decide)
    replace h := (ite_h h).2 c139
    by_cases c149 : ((xs a3.toNatClampNeg) &&& 31) = 21
    · replace h := (ite_h h).1 c149
      refine v_tableIn C 745 dL_law_33 (by rw [c149]; decide) (by rw [c149]; decide) (by rw [c149]; rfl) (by decide) ?_
      refine v_aload_n C 1 dL_law_745 rfl ?_
      refine v_aload_n C 0 dL_law_746 rfl ?_
      refine v_iload_n C 3 dL_law_747 rfl ?_
      refine v_iconst C 1 dL_law_748 rfl ?_
      refine v_iadd C dL_law_749 ?_
      obtain ⟨g150, h⟩ := gd_h h
      refine v_sld C hs g150 dL_law_750 ?_
      refine v_aload_n C 0 dL_law_751 rfl ?_
      refine v_iload_n C 3 dL_law_752 rfl ?_
      refine v_iconst C 2 dL_law_753 rfl ?_
      refine v_iadd C dL_law_754 ?_
      obtain ⟨g151, h⟩ := gd_h h
      refine v_sld C hs g151 dL_law_755 ?_
      refine v_aload_n C 0 dL_law_756 rfl ?_
      refine v_iload_n C 3 dL_law_757 rfl ?_
      refine v_iconst C 3 dL_law_758 rfl ?_
      refine v_iadd C dL_law_759 ?_
      obtain ⟨g152, h⟩ := gd_h h
      refine v_sld C hs g152 dL_law_760 ?_
      refine v_aload_n C 0 dL_law_761 rfl ?_
      refine v_iload_n C 3 dL_law_762 rfl ?_
      refine v_iconst C 4 dL_law_763 rfl ?_
      refine v_iadd C dL_law_764 ?_
      obtain ⟨g153, h⟩ := gd_h h
      refine v_sld C hs g153 dL_law_765 ?_
      refine v_aload_n C 0 dL_law_766 rfl ?_
      refine v_iload_n C 3 dL_law_767 rfl ?_
      refine v_iconst C 5 dL_law_768 rfl ?_
      refine v_iadd C dL_law_769 ?_
      obtain ⟨g154, h⟩ := gd_h h
      refine v_sld C hs g154 dL_law_770 ?_
      obtain ⟨q155, hq155, h⟩ := Option.bind_eq_some_iff.mp h
      refine cv11 C [] kk0 (m_U_copy C.inj M (xs (a3 + 1).toNatClampNeg) (xs (a3 + 2).toNatClampNeg) (xs (a3 + 3).toNatClampNeg) (xs (a3 + 4).toNatClampNeg) (xs (a3 + 5).toNatClampNeg) q155 hq155) ci_U_copy rfl lk_L_102 (by decide) rfl rfl (Nat.le_of_ble_eq_true rfl) dL_law_771 ?_
      refine v_aload_n C 2 dL_law_774 rfl ?_
      refine v_aload_n C 0 dL_law_775 rfl ?_
      refine v_iload_n C 3 dL_law_776 rfl ?_
      refine v_iconst C 1 dL_law_777 rfl ?_
      refine v_iadd C dL_law_778 ?_
      obtain ⟨g156, h⟩ := gd_h h
      refine v_sld C hs g156 dL_law_779 ?_
      refine v_aload_n C 0 dL_law_780 rfl ?_
      refine v_iload_n C 3 dL_law_781 rfl ?_
      refine v_iconst C 2 dL_law_782 rfl ?_
      refine v_iadd C dL_law_783 ?_
      obtain ⟨g157, h⟩ := gd_h h
      refine v_sld C hs g157 dL_law_784 ?_
      refine v_aload_n C 0 dL_law_785 rfl ?_
      refine v_iload_n C 3 dL_law_786 rfl ?_
      refine v_iconst C 3 dL_law_787 rfl ?_
      refine v_iadd C dL_law_788 ?_
      obtain ⟨g158, h⟩ := gd_h h
      refine v_sld C hs g158 dL_law_789 ?_
      refine v_aload_n C 0 dL_law_790 rfl ?_
      refine v_iload_n C 3 dL_law_791 rfl ?_
      refine v_iconst C 4 dL_law_792 rfl ?_
      refine v_iadd C dL_law_793 ?_
      obtain ⟨g159, h⟩ := gd_h h
      refine v_sld C hs g159 dL_law_794 ?_
      refine v_aload_n C 0 dL_law_795 rfl ?_
      refine v_iload_n C 3 dL_law_796 rfl ?_
      refine v_iconst C 5 dL_law_797 rfl ?_
      refine v_iadd C dL_law_798 ?_
      obtain ⟨g160, h⟩ := gd_h h
      refine v_sld C hs g160 dL_law_799 ?_
      obtain ⟨q161, hq161, h⟩ := Option.bind_eq_some_iff.mp h
      refine cv12 C [.int q155.1] kk91 (m_Mo_copy C.inj q155.2 (xs (a3 + 1).toNatClampNeg) (xs (a3 + 2).toNatClampNeg) (xs (a3 + 3).toNatClampNeg) (xs (a3 + 4).toNatClampNeg) (xs (a3 + 5).toNatClampNeg) q161 hq161) ci_Mo_copy rfl lk_L_106 (by decide) rfl rfl (Nat.le_of_ble_eq_true rfl) dL_law_800 ?_
      refine v_icmp_eq C 911 dL_law_803 (by decide) (fun c162 => ?_) (fun c162 => ?_)
      · replace h := (ite_h h).1 c162
        exact v_L_b911 C K hs hq hk18 h
      · replace h := (ite_h h).2 c162
        refine v_iconst C 0 dL_law_806 rfl ?_
        exact absurd (show (0 : Int32) = 1 from (congrArg Prod.fst (Option.some.inj h)).trans hq) (by decide)
    replace h := (ite_h h).2 c149
    by_cases c163 : ((xs a3.toNatClampNeg) &&& 31) = 22
    · replace h := (ite_h h).1 c163
      refine v_tableIn C 808 dL_law_33 (by rw [c163]; decide) (by rw [c163]; decide) (by rw [c163]; rfl) (by decide) ?_
      refine v_aload_n C 1 dL_law_808 rfl ?_
      refine v_aload_n C 0 dL_law_809 rfl ?_
      refine v_iload_n C 3 dL_law_810 rfl ?_
      refine v_iconst C 1 dL_law_811 rfl ?_
      refine v_iadd C dL_law_812 ?_
      obtain ⟨g164, h⟩ := gd_h h
      refine v_sld C hs g164 dL_law_813 ?_
      refine v_aload_n C 0 dL_law_814 rfl ?_
      refine v_iload_n C 3 dL_law_815 rfl ?_
      refine v_iconst C 2 dL_law_816 rfl ?_
      refine v_iadd C dL_law_817 ?_
      obtain ⟨g165, h⟩ := gd_h h
      refine v_sld C hs g165 dL_law_818 ?_
      obtain ⟨q166, hq166, h⟩ := Option.bind_eq_some_iff.mp h
      refine cv11 C [] kk0 (m_U_write C.inj M (xs (a3 + 1).toNatClampNeg) (xs (a3 + 2).toNatClampNeg) q166 hq166) ci_U_write rfl lk_L_107 (by decide) rfl rfl (Nat.le_of_ble_eq_true rfl) dL_law_819 ?_
      refine v_aload_n C 2 dL_law_822 rfl ?_
      refine v_aload_n C 0 dL_law_823 rfl ?_
      refine v_iload_n C 3 dL_law_824 rfl ?_
      refine v_iconst C 1 dL_law_825 rfl ?_
      refine v_iadd C dL_law_826 ?_
      obtain ⟨g167, h⟩ := gd_h h
      refine v_sld C hs g167 dL_law_827 ?_
      refine v_aload_n C 0 dL_law_828 rfl ?_
      refine v_iload_n C 3 dL_law_829 rfl ?_
      refine v_iconst C 2 dL_law_830 rfl ?_
      refine v_iadd C dL_law_831 ?_
      obtain ⟨g168, h⟩ := gd_h h
      refine v_sld C hs g168 dL_law_832 ?_
      obtain ⟨q169, hq169, h⟩ := Option.bind_eq_some_iff.mp h
      refine cv12 C [.int q166.1] kk91 (m_Mo_write C.inj q166.2 (xs (a3 + 1).toNatClampNeg) (xs (a3 + 2).toNatClampNeg) q169 hq169) ci_Mo_write rfl lk_L_110 (by decide) rfl rfl (Nat.le_of_ble_eq_true rfl) dL_law_833 ?_
      refine v_icmp_eq C 911 dL_law_836 (by decide) (fun c170 => ?_) (fun c170 => ?_)
      · replace h := (ite_h h).1 c170
        exact v_L_b911 C K hs hq hk18 h
      · replace h := (ite_h h).2 c170
        refine v_iconst C 0 dL_law_839 rfl ?_
        exact absurd (show (0 : Int32) = 1 from (congrArg Prod.fst (Option.some.inj h)).trans hq) (by decide)
    replace h := (ite_h h).2 c163
    by_cases c171 : ((xs a3.toNatClampNeg) &&& 31) = 23
    · replace h := (ite_h h).1 c171
      refine v_tableIn C 841 dL_law_33 (by rw [c171]; decide) (by rw [c171]; decide) (by rw [c171]; rfl) (by decide) ?_
      refine v_aload_n C 1 dL_law_841 rfl ?_
      refine v_aload_n C 0 dL_law_842 rfl ?_
      refine v_iload_n C 3 dL_law_843 rfl ?_
      refine v_iconst C 1 dL_law_844 rfl ?_
      refine v_iadd C dL_law_845 ?_
      obtain ⟨g172, h⟩ := gd_h h
      refine v_sld C hs g172 dL_law_846 ?_
      refine v_aload_n C 0 dL_law_847 rfl ?_
      refine v_iload_n C 3 dL_law_848 rfl ?_
      refine v_iconst C 2 dL_law_849 rfl ?_
      refine v_iadd C dL_law_850 ?_
      obtain ⟨g173, h⟩ := gd_h h
      refine v_sld C hs g173 dL_law_851 ?_
      obtain ⟨q174, hq174, h⟩ := Option.bind_eq_some_iff.mp h
      refine cv11 C [] kk0 (m_U_read C.inj M (xs (a3 + 1).toNatClampNeg) (xs (a3 + 2).toNatClampNeg) q174 hq174) ci_U_read rfl lk_L_111 (by decide) rfl rfl (Nat.le_of_ble_eq_true rfl) dL_law_852 ?_
      refine v_aload_n C 2 dL_law_855 rfl ?_
      refine v_aload_n C 0 dL_law_856 rfl ?_
      refine v_iload_n C 3 dL_law_857 rfl ?_
      refine v_iconst C 1 dL_law_858 rfl ?_
      refine v_iadd C dL_law_859 ?_
      obtain ⟨g175, h⟩ := gd_h h
      refine v_sld C hs g175 dL_law_860 ?_
      refine v_aload_n C 0 dL_law_861 rfl ?_
      refine v_iload_n C 3 dL_law_862 rfl ?_
      refine v_iconst C 2 dL_law_863 rfl ?_
      refine v_iadd C dL_law_864 ?_
      obtain ⟨g176, h⟩ := gd_h h
      refine v_sld C hs g176 dL_law_865 ?_
      obtain ⟨q177, hq177, h⟩ := Option.bind_eq_some_iff.mp h
      refine cv12 C [.int q174.1] kk91 (m_Mo_read C.inj q174.2 (xs (a3 + 1).toNatClampNeg) (xs (a3 + 2).toNatClampNeg) q177 hq177) ci_Mo_read rfl lk_L_114 (by decide) rfl rfl (Nat.le_of_ble_eq_true rfl) dL_law_866 ?_
      refine v_icmp_eq C 911 dL_law_869 (by decide) (fun c178 => ?_) (fun c178 => ?_)
      · replace h := (ite_h h).1 c178
        exact v_L_b911 C K hs hq hk18 h
      · replace h := (ite_h h).2 c178
        refine v_iconst C 0 dL_law_872 rfl ?_
        exact absurd (show (0 : Int32) = 1 from (congrArg Prod.fst (Option.some.inj h)).trans hq) (by decide)
    replace h := (ite_h h).2 c171
    by_cases c179 : ((xs a3.toNatClampNeg) &&& 31) = 24
    · replace h := (ite_h h).1 c179
      refine v_tableIn C 874 dL_law_33 (by rw [c179]; decide) (by rw [c179]; decide) (by rw [c179]; rfl) (by decide) ?_
      refine v_aload_n C 1 dL_law_874 rfl ?_
      refine v_aload_n C 0 dL_law_875 rfl ?_
      refine v_iload_n C 3 dL_law_876 rfl ?_
      refine v_iconst C 1 dL_law_877 rfl ?_
      refine v_iadd C dL_law_878 ?_
      obtain ⟨g180, h⟩ := gd_h h
      refine v_sld C hs g180 dL_law_879 ?_
      obtain ⟨q181, hq181, h⟩ := Option.bind_eq_some_iff.mp h
      refine cv11 C [] kk0 (m_U_count C.inj M (xs (a3 + 1).toNatClampNeg) q181 hq181) ci_U_count rfl lk_L_115 (by decide) rfl rfl (Nat.le_of_ble_eq_true rfl) dL_law_880 ?_
      refine v_aload_n C 2 dL_law_883 rfl ?_
      refine v_aload_n C 0 dL_law_884 rfl ?_
      refine v_iload_n C 3 dL_law_885 rfl ?_
      refine v_iconst C 1 dL_law_886 rfl ?_
      refine v_iadd C dL_law_887 ?_
      obtain ⟨g182, h⟩ := gd_h h
      refine v_sld C hs g182 dL_law_888 ?_
      obtain ⟨q183, hq183, h⟩ := Option.bind_eq_some_iff.mp h
      refine cv12 C [.int q181.1] kk91 (m_Mo_count C.inj q181.2 (xs (a3 + 1).toNatClampNeg) q183 hq183) ci_Mo_count rfl lk_L_118 (by decide) rfl rfl (Nat.le_of_ble_eq_true rfl) dL_law_889 ?_
      refine v_icmp_eq C 911 dL_law_892 (by decide) (fun c184 => ?_) (fun c184 => ?_)
      · replace h := (ite_h h).1 c184
        exact v_L_b911 C K hs hq hk18 h
      · replace h := (ite_h h).2 c184
        refine v_iconst C 0 dL_law_895 rfl ?_
        exact absurd (show (0 : Int32) = 1 from (congrArg Prod.fst (Option.some.inj h)).trans hq) (by decide)
    replace h := (ite_h h).2 c179
    by_cases c185 : ((xs a3.toNatClampNeg) &&& 31) = 25
    · replace h := (ite_h h).1 c185
      refine v_tableIn C 897 dL_law_33 (by rw [c185]; decide) (by rw [c185]; decide) (by rw [c185]; rfl) (by decide) ?_
      refine v_aload_n C 1 dL_law_897 rfl ?_
      obtain ⟨q186, hq186, h⟩ := Option.bind_eq_some_iff.mp h
      refine cv11 C [] kk0 (m_U_digest C.inj M q186 hq186) ci_U_digest rfl lk_L_119 (by decide) rfl rfl (Nat.le_of_ble_eq_true rfl) dL_law_898 ?_
      refine v_aload_n C 2 dL_law_901 rfl ?_
      obtain ⟨q187, hq187, h⟩ := Option.bind_eq_some_iff.mp h
      refine cv12 C [.long q186.1] kk91 (m_Mo_digest C.inj q186.2 q187 hq187) ci_Mo_digest rfl lk_L_123 (by decide) rfl rfl (Nat.le_of_ble_eq_true rfl) dL_law_902 ?_
      refine v_lcmp C dL_law_905 ?_
      refine v_if_eq C 911 dL_law_906 (by decide) (fun c188 => ?_) (fun c188 => ?_)
      · replace h := (ite_h h).1 c188
        exact v_L_b911 C K hs hq hk18 h
      · replace h := (ite_h h).2 c188
        refine v_iconst C 0 dL_law_909 rfl ?_
        exact absurd (show (0 : Int32) = 1 from (congrArg Prod.fst (Option.some.inj h)).trans hq) (by decide)
    replace h := (ite_h h).2 c185
    refine v_tableOut C 911 dL_law_33 (by
        have := ne_toInt c2 (0 : Int) rfl
        have := ne_toInt c10 (1 : Int) rfl
        have := ne_toInt c16 (2 : Int) rfl
        have := ne_toInt c22 (3 : Int) rfl
        have := ne_toInt c27 (4 : Int) rfl
        have := ne_toInt c37 (5 : Int) rfl
        have := ne_toInt c45 (6 : Int) rfl
        have := ne_toInt c51 (7 : Int) rfl
        have := ne_toInt c57 (8 : Int) rfl
        have := ne_toInt c65 (9 : Int) rfl
        have := ne_toInt c69 (10 : Int) rfl
        have := ne_toInt c73 (11 : Int) rfl
        have := ne_toInt c77 (12 : Int) rfl
        have := ne_toInt c85 (13 : Int) rfl
        have := ne_toInt c91 (14 : Int) rfl
        have := ne_toInt c99 (15 : Int) rfl
        have := ne_toInt c107 (16 : Int) rfl
        have := ne_toInt c111 (17 : Int) rfl
        have := ne_toInt c121 (18 : Int) rfl
        have := ne_toInt c127 (19 : Int) rfl
        have := ne_toInt c139 (20 : Int) rfl
        have := ne_toInt c149 (21 : Int) rfl
        have := ne_toInt c163 (22 : Int) rfl
        have := ne_toInt c171 (23 : Int) rfl
        have := ne_toInt c179 (24 : Int) rfl
        have := ne_toInt c185 (25 : Int) rfl
        omega) (by decide) ?_
    exact v_L_b911 C K hs hq hk18 h
def f_L_l18 (L : Nat) (xs : Nat → Int32) : Nat → Int32 → Mem → Option (Int32 × Mem)
  | 0, _, _ => none
  | n + 1, a3, M => f_L_l18B L xs (f_L_l18 L xs n) a3 M
theorem v_L_l18 {S : SE} {X : MX} {q : (Int32 × Mem)} {b L : Nat} {xs : Nat → Int32} (C : CX S X cL_law 4 RL 10) (K : LK S X) (hs : SC S X b L xs) (hq : q.1 = 1) : ∀ (n : Nat) (a3 : Int32) (M : Mem), f_L_l18 L xs n a3 M = some q → V S X 4 M 18 [(0, .ref b), (1, .ref (S.2.1 0)), (2, .ref (S.2.1 91)), (3, .int a3)] [] := by
  intro n
  induction n with
  | zero => intro a3 M h; cases h
  | succ n ih => intro a3 M h; exact v_L_l18B C K hs hq ih h
