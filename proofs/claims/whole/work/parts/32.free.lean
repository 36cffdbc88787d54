-- ===== asked free =====
def fuv (en : Int32) (L : List (Int32 × Int32)) : Int32 := if f_U_endSpeaks en = 0 then (if hun L = 0 then 0 else 1) else 1
def fps (en : Int32) (L lo : List (Int32 × Int32)) : List (Int32 × Int32) := if (fco en L).2 = none then [] else gth (fuv en L) [] lo
def fpl (en : Int32) (L lo : List (Int32 × Int32)) : List Nat := if (fco en L).2 = none then lo.map (fun _ => 0) else gpl (fuv en L) [] lo
def frA (en : Int32) (tl : Nat → Nat → Int32) : List (Int32 × Int32) → List Nat → Int32 × List (Int32 × Int32) → Option (Int32 × List (Int32 × Int32))
  | [], _, s => some s
  | x :: lo, p, s => if s.1 = -1 then (stl en x.2 (tl (p.headD 0)) (nI s.2.length) s.1 s.2).bind (frA en tl lo p.tail) else some s
def frQ (en : Int32) (L lo li : List (Int32 × Int32)) : Option RS :=
  (frA en (crun (fco en L).1 (fco en L).2 (fps en L lo) 1000000 li 0 0).2.2.2.2 lo (fpl en L lo) (-1, [])).bind fun q =>
    some (q.1, (crun (fco en L).1 (fco en L).2 (fps en L lo) 1000000 li 0 0).1, (crun (fco en L).1 (fco en L).2 (fps en L lo) 1000000 li 0 0).2.2.1, q.2, tells (tells [] (cds (fs1 (fco en L).1) (fco en L).1.length 0)) (cdx (fs1 (fco en L).1) (fco en L).1.length), (fco en L).1.length, (fco en L).1.length)
theorem u_frL {o : Nat} (ho : isRun o) {co ps lo : List (Int32 × Int32)} {en jn : Int32} {tl : Nat → Nat → Int32} {P : List Nat} {lg : List Int32} {op cu mo : Nat} (hlo : lo.length ≤ 10) (hP : P.length = lo.length) (hP2 : ∀ p, p ∈ P → p < 10) (hcu : co.length ≤ cu) : ∀ (l : List (Int32 × Int32)) (i fuel : Nat) (M : Mem) (s s' : Int32 × List (Int32 × Int32)), l = lo.drop i → i ≤ lo.length → l.length < fuel → (s.1 = -1 → s.2.length = i) → CRel o M (fs1 co) (fs2 co) co.length jn ps.length (fs1 ps) (fs2 ps) → AnIs o M s.1 s.2 → RpIs o M lg op cu mo → TRel M tl → M 4 2 = nI lo.length → SH (M 5) (M 6) lo → NH (M (o + 7)) P 0 → frA en tl l (P.drop i) s = some s' →
    ∃ M', f_Run_askFree_l100 o fuel en (nI i) M = some M' ∧ AnIs o M' s'.1 s'.2 ∧ RpIs o M' (tells lg (cdx (fs1 co) co.length)) op (cu - co.length) mo ∧ Out (fun c k => AnP o c k ∨ RpP o c k) M M' := by
  intro l
  have o55 : 55 ≤ o := by unfold isRun at ho; omega
  have fin : ∀ (M : Mem) (s : Int32 × List (Int32 × Int32)), CRel o M (fs1 co) (fs2 co) co.length jn ps.length (fs1 ps) (fs2 ps) → AnIs o M s.1 s.2 → RpIs o M lg op cu mo → ∃ M', f_Run_askFree_b161 o M = some M' ∧ AnIs o M' s.1 s.2 ∧ RpIs o M' (tells lg (cdx (fs1 co) co.length)) op (cu - co.length) mo ∧ Out (fun c k => AnP o c k ∨ RpP o c k) M M' := fun M s hC hA hR => by
    obtain ⟨M1, a1, a2, a3⟩ := u_shut ho hC hR hcu
    refine ⟨M1, ?_, hA.out a3 (fun c k q => by unfold RpP at q; unfold AnP; omega), a2, a3.mono (fun c k q => Or.inr q)⟩
    unfold f_Run_askFree_b161
    rw [a1, Option.bind_some]
  induction l with
  | nil =>
    intro i fuel M s s' hl hi hf hlen hC hA hR hT hm4 hS4 hN hx
    have hf : 0 < fuel := hf
    obtain ⟨g, rfl⟩ : ∃ g, fuel = g + 1 := ⟨fuel - 1, by omega⟩
    have hi : lo.length ≤ i := by
      rcases Nat.lt_or_ge i lo.length with q | q
      · rw [List.drop_eq_getElem_cons q] at hl; cases hl
      · exact q
    have hx : some s = some s' := hx
    injection hx with hx
    subst hx
    obtain ⟨M', a1, a2, a3, a4⟩ := fin M s hC hA hR
    refine ⟨M', ?_, a2, a3, a4⟩
    show f_Run_askFree_l100B o (f_Run_askFree_l100 o g) en (nI i) M = _
    unfold f_Run_askFree_l100B
    rw [hm4, show i = lo.length by omega, if_pos (Int32.le_refl _)]
    exact a1
  | cons x l ih =>
    intro i fuel M s s' hl hi hf hlen hC hA hR hT hm4 hS4 hN hx
    have hf : l.length + 1 < fuel := hf
    obtain ⟨g, rfl⟩ : ∃ g, fuel = g + 1 := ⟨fuel - 1, by omega⟩
    obtain ⟨e1, e2, e3, e4⟩ := hS4.at hl
    have G : gin (nI i) 10 := gin_t (by omega) (by decide)
    have hci : (nI i).toNatClampNeg = i := nI_clamp (by omega)
    have hpi : M (o + 7) i = nI (P.getD i 0) := by have := hN i (by omega); rwa [Nat.zero_add] at this
    have hpd : (P.drop i).headD 0 = P.getD i 0 := by
      rw [List.drop_eq_getElem_cons (by omega), List.getD_eq_getElem?_getD, List.getElem?_eq_getElem (by omega)]
      rfl
    have hpt : (P.drop i).tail = P.drop (i + 1) := by rw [List.tail_drop]
    have hp10 : P.getD i 0 < 10 := by
      rw [List.getD_eq_getElem?_getD, List.getElem?_eq_getElem (by omega)]
      exact hP2 _ (List.getElem_mem _)
    show ∃ M', f_Run_askFree_l100B o (f_Run_askFree_l100 o g) en (nI i) M = _ ∧ _
    unfold f_Run_askFree_l100B
    rw [hm4, if_neg (fun q => by have := (nI_leI (by omega) (by omega)).mp q; omega), hA.1]
    unfold frA at hx
    rw [hpd, hpt] at hx
    by_cases e : s.1 = -1
    · rw [if_pos e] at hx
      have hle := hlen e
      have G2 : gin (nI (P.getD i 0)) 10 := gin_t hp10 (by decide)
      rw [if_pos e, if_pos G]
      simp only [hci]
      rw [show o + 4 + 3 = o + 7 by omega, hpi, if_pos G2, if_pos G, nI_clamp (by omega), e2]
      cases hst : stl en x.2 (tl (P.getD i 0)) (nI s.2.length) s.1 s.2 with
      | none => rw [hst] at hx; cases hx
      | some s1 =>
        rw [hst, Option.bind_some] at hx
        have hl2 := stl_len hst
        obtain ⟨M1, a1, a2, a3⟩ := u_settle ho (c := 45 + P.getD i 0) (by omega) (fun k hk => hT _ hp10 k hk) hA (by omega) hst
        rw [hle] at a1
        rw [a1, Option.bind_some, nI_1]
        have nS : ∀ (c k : Nat), c < o ∨ c = o + 7 → ¬ AnP o c k := fun c k h q => by unfold AnP at q; omega
        obtain ⟨M2, b1, b2, b3, b4⟩ := ih (i + 1) g M1 s1 s' e3 (by omega) (by omega) (fun q => by
          rcases hl2 with w | w
          · omega
          · rw [w.1] at q; exact absurd q (nI_nm1 (by omega))) (hC.out a3 (fun c k q => by unfold AnP at q; omega)) a2 (hR.out a3 (fun c k q => by unfold AnP at q; unfold RpP; omega)) (fun p hp k hk => by rw [a3 _ _ (nS _ _ (by omega))]; exact hT p hp k hk) (by rw [a3 _ _ (nS _ _ (by omega))]; exact hm4) ⟨hS4.1.same (fun j _ => a3 _ _ (nS _ _ (by omega))), hS4.2.same (fun j _ => a3 _ _ (nS _ _ (by omega)))⟩ (fun j hj => by rw [a3 _ _ (nS _ _ (by omega))]; exact hN j hj) hx
        exact ⟨M2, b1, b2, b3, (a3.mono (fun c k q => Or.inl q)).trans b4⟩
    · rw [if_neg e] at hx ⊢
      injection hx with hx
      subst hx
      exact fin M s hC hA hR
theorem gth_le (uv : Int32) : ∀ (l ps : List (Int32 × Int32)), (gth uv ps l).length ≤ ps.length + l.length := by
  intro l
  induction l with
  | nil => intro ps; exact Nat.le_refl _
  | cons x l ih =>
    intro ps
    have h1 := ih (plAd ps (prOf uv x))
    have h2 := plAd_len ps (prOf uv x)
    show (gth uv (plAd ps (prOf uv x)) l).length ≤ ps.length + (l.length + 1)
    omega
theorem gpl_len (uv : Int32) : ∀ (l ps : List (Int32 × Int32)), (gpl uv ps l).length = l.length := by
  intro l
  induction l with
  | nil => intro ps; rfl
  | cons x l ih => intro ps; show (gpl uv (plAd ps (prOf uv x)) l).length + 1 = l.length + 1; rw [ih]
theorem lyf_ge (en : Int32) (fs : Option Nat) : ∀ (l : List (Int32 × Int32)) (i : Nat) (c : List (Int32 × Int32)) (j : Option Nat), c.length ≤ (lyf en fs i l c j).1.length ∧ ((∀ k, j = some k → k < c.length) → ∀ k, (lyf en fs i l c j).2 = some k → k < (lyf en fs i l c j).1.length) := by
  intro l
  induction l with
  | nil =>
    intro i c j
    unfold lyf
    split
    · split
      · exact ⟨Nat.le_refl _, fun h => h⟩
      · refine ⟨by show c.length ≤ (c ++ [_]).length; rw [List.length_append]; omega, fun _ k hk => ?_⟩
        have hk : some c.length = some k := hk
        injection hk with hk
        subst hk
        show c.length < (c ++ [_]).length
        rw [List.length_append]
        exact Nat.lt_succ_self _
    · exact ⟨Nat.le_refl _, fun h => h⟩
  | cons x l ih =>
    intro i c j
    unfold lyf
    split
    · split
      · obtain ⟨a, b⟩ := ih (i + 1) (c ++ [(9, -1)]) (some c.length)
        rw [List.length_append] at a b
        exact ⟨Nat.le_trans (Nat.le_add_right _ _) a, fun _ => b (fun k hk => by injection hk with hk; subst hk; exact Nat.lt_succ_self _)⟩
      · obtain ⟨a, b⟩ := ih (i + 1) (c ++ [(8, -1)] ++ [x]) (some c.length)
        rw [List.length_append, List.length_append] at a b
        exact ⟨Nat.le_trans (Nat.le_trans (Nat.le_add_right _ _) (Nat.le_add_right _ _)) a, fun _ => b (fun k hk => by injection hk with hk; subst hk; exact Nat.lt_of_lt_of_le (Nat.lt_succ_self _) (Nat.le_add_right _ _))⟩
    · obtain ⟨a, b⟩ := ih (i + 1) (c ++ [x]) j
      rw [List.length_append] at a b
      exact ⟨Nat.le_trans (Nat.le_add_right _ _) a, fun h => b (fun k hk => Nat.lt_of_lt_of_le (h k hk) (Nat.le_add_right _ _))⟩
theorem fco_1 (en : Int32) (L : List (Int32 × Int32)) : 1 ≤ (fco en L).1.length := (lyf_ge en (fsp 0 L) L 0 [(0, -1)] none).1
theorem fco_j (en : Int32) (L : List (Int32 × Int32)) : ∀ k, (fco en L).2 = some k → k < (fco en L).1.length := (lyf_ge en (fsp 0 L) L 0 [(0, -1)] none).2 (fun k h => by cases h)
theorem u_askF {o : Nat} (ho : isRun o) {M : Mem} {L lo li : List (Int32 × Int32)} {en fl : Int32} {s : RS} (hL : L.length ≤ 12) (hSt : StpIs M fl L) (hlo : lo.length ≤ 10) (hli : li.length ≤ 10) (hm4 : M 4 2 = nI lo.length) (hS4 : SH (M 5) (M 6) lo) (hm : M 7 2 = nI li.length) (hS : SH (M 8) (M 9) li) (hx : frQ en L lo li = some s) :
    ∃ M', f_Run_askFree o M en = some M' ∧ RRel o M' s 0 ∧ CoIs (o + 1) M' (fco en L).1 (jnI (fco en L).2) ∧ PaIs (o + 4) M' (fps en L lo) ∧ Out (AkP o) M M' := by
  have o55 : 55 ≤ o := by unfold isRun at ho; omega
  obtain ⟨M1, a1, a2, a3⟩ := u_layF (c := o + 1) (by omega) (en := en) hL hSt
  obtain ⟨b1, b2⟩ := u_reportClear (o := o) (M := M1)
  have hR : RRel o (mset (f_Report_clear (o + 8) M1) o 4 1000000) rs0 0 := by
    have o1 : Out (fun c k => c = o) (f_Report_clear (o + 8) M1) (mset (f_Report_clear (o + 8) M1) o 4 1000000) := Out.set rfl
    refine ⟨b1.1.out o1 (fun c k q => by unfold AnP; omega), ?_, ?_, b1.2.2.2.out o1 (fun c k q => by unfold RpP; omega)⟩
    · rw [ms_c _ _ (by omega)]; exact b1.2.1
    · rw [ms_c _ _ (by omega)]; exact b1.2.2.1
  have o2 : Out (fun c k => c = o ∨ (o + 1 ≤ c ∧ c ≤ o + 3) ∨ c = o + 8) M (mset (f_Report_clear (o + 8) M1) o 4 1000000) := (a3.mono (fun c k q => by unfold CoP at q; omega)).trans ((b2.mono (fun c k q => by omega)).trans (Out.set (by omega)))
  have e13 : ∀ c k, o + 1 ≤ c ∧ c ≤ o + 3 → (mset (f_Report_clear (o + 8) M1) o 4 1000000) c k = M1 c k := fun c k h => by rw [ms_c _ _ (by omega), b2 _ _ (by omega)]
  have hco : CoIs (o + 1) (mset (f_Report_clear (o + 8) M1) o 4 1000000) (fco en L).1 (jnI (fco en L).2) := ⟨by rw [e13 _ _ (by omega)]; exact a2.1, a2.2.1, ⟨a2.2.2.1.1.same (fun j _ => e13 _ _ (by omega)), a2.2.2.1.2.same (fun j _ => e13 _ _ (by omega))⟩, by rw [e13 _ _ (by omega)]; exact a2.2.2.2⟩
  have hwt : (mset (f_Report_clear (o + 8) M1) o 4 1000000) o 4 = 1000000 := ms_s _ _ _ _
  have hb : f_Run_askFree o M en = (bnd (mset (f_Report_clear (o + 8) M1) o 4 1000000) fun M3 => if (M3 (o + 1) 3) = (-1) then (f_Pairs_setNone (o + 4) M3).bind fun q18 => f_Run_askFree_b81 o en q18 else if (f_U_endSpeaks en) = 0 then (f_Steps_hasUnion M3).bind fun q15 => if q15 = 0 then f_Run_askFree_b78 o en 0 M3 else f_Run_askFree_b73 o en M3 else f_Run_askFree_b73 o en M3) := by
    unfold f_Run_askFree
    rw [a1, Option.bind_some]
    rfl
  rw [hb, bn]
  generalize mset (f_Report_clear (o + 8) M1) o 4 1000000 = M2 at hR o2 hco hwt
  have nX : ∀ (c k : Nat), c < 13 → ¬ (c = o ∨ (o + 1 ≤ c ∧ c ≤ o + 3) ∨ c = o + 8) := fun c k h q => by omega
  have hSt2 := hSt.out o2 (fun c k q => by omega)
  have hm42 : M2 4 2 = nI lo.length := by rw [o2 _ _ (nX 4 2 (by decide))]; exact hm4
  have hS42 : SH (M2 5) (M2 6) lo := ⟨hS4.1.same (fun j _ => o2 _ _ (nX 5 j (by decide))), hS4.2.same (fun j _ => o2 _ _ (nX 6 j (by decide)))⟩
  have hm2 : M2 7 2 = nI li.length := by rw [o2 _ _ (nX 7 2 (by decide))]; exact hm
  have hS2 : SH (M2 8) (M2 9) li := ⟨hS.1.same (fun j _ => o2 _ _ (nX 8 j (by decide))), hS.2.same (fun j _ => o2 _ _ (nX 9 j (by decide)))⟩
  rw [hco.2.2.2]
  have hj31 : ∀ k, (fco en L).2 = some k → k < 2 ^ 31 := fun k h => by have := fco_j en L k h; have := hco.2.1; omega
  -- the pairs
  have pairs : ∃ M3, (if jnI (fco en L).2 = -1 then (f_Pairs_setNone (o + 4) M2).bind fun q18 => f_Run_askFree_b81 o en q18 else if (f_U_endSpeaks en) = 0 then (f_Steps_hasUnion M2).bind fun q15 => if q15 = 0 then f_Run_askFree_b78 o en 0 M2 else f_Run_askFree_b73 o en M2 else f_Run_askFree_b73 o en M2) = f_Run_askFree_b81 o en M3 ∧ PaIs (o + 4) M3 (fps en L lo) ∧ NH (M3 (o + 7)) (fpl en L lo) 0 ∧ Out (fun c k => PaP (o + 4) c k ∨ c = o + 7) M2 M3 := by
    unfold fps fpl
    by_cases e : (fco en L).2 = none
    · rw [if_pos e, if_pos e, e, if_pos (show jnI none = -1 from rfl)]
      obtain ⟨M3, c1, c2, c3, c4⟩ := u_setNone (c := o + 4) (M := M2) (by unfold isRun at ho; rcases ho with h | h | h <;> subst h <;> decide)
      refine ⟨M3, by rw [c1, Option.bind_some], c2, fun j hj => ?_, c4⟩
      rw [List.length_map] at hj
      rw [Nat.zero_add, show o + 7 = o + 4 + 3 by omega, c3 j (by omega), List.getD_eq_getElem?_getD, List.getElem?_map]
      cases lo[j]? <;> rfl
    · have e' : ¬ jnI (fco en L).2 = -1 := by
        cases h : (fco en L).2 with
        | none => exact absurd h e
        | some k => exact nI_nm1 (hj31 k h)
      rw [if_neg e, if_neg e, if_neg e']
      obtain ⟨M3, c1, c2, c3, c4⟩ := u_gather (c := o + 4) (by omega) (uv := fuv en L) hlo hm42 hS42
      refine ⟨M3, ?_, c2, c3, c4⟩
      have : f_Run_askFree_b78 o en (fuv en L) M2 = f_Run_askFree_b81 o en M3 := by
        unfold f_Run_askFree_b78
        rw [c1, Option.bind_some]
      rw [← this, u_union hL hSt2, Option.bind_some]
      unfold f_Run_askFree_b73 fuv
      by_cases e1 : f_U_endSpeaks en = 0
      · rw [if_pos e1, if_pos e1]
        by_cases e2 : hun L = 0
        · rw [if_pos e2, if_pos e2]
        · rw [if_neg e2, if_neg e2]
      · rw [if_neg e1, if_neg e1]
  obtain ⟨M3, c1, c2, c3, c4⟩ := pairs
  rw [c1]
  have nP : ∀ c k, PaP (o + 4) c k ∨ c = o + 7 → (o + 4 ≤ c ∧ c ≤ o + 7) := fun c k q => by unfold PaP at q; omega
  have c5 : ∀ c k, ¬ (o + 4 ≤ c ∧ c ≤ o + 7) → M3 c k = M2 c k := fun c k h => c4 c k (fun q => h (nP c k q))
  have hco3 : CoIs (o + 1) M3 (fco en L).1 (jnI (fco en L).2) := ⟨by rw [c5 _ _ (by omega)]; exact hco.1, hco.2.1, ⟨hco.2.2.1.1.same (fun j _ => c5 _ _ (by omega)), hco.2.2.1.2.same (fun j _ => c5 _ _ (by omega))⟩, by rw [c5 _ _ (by omega)]; exact hco.2.2.2⟩
  have hR3 := hR.2.2.2.out c4 (fun c k q => by have := nP c k q; unfold RpP; omega)
  have hA3 := hR.1.out c4 (fun c k q => by have := nP c k q; unfold AnP; omega)
  have y5 : M3 (o + 8) 5 = 0 := by rw [c5 _ _ (by omega)]; exact hR.2.1
  have y6 : M3 (o + 8) 6 = 0 := by rw [c5 _ _ (by omega)]; exact hR.2.2.1
  obtain ⟨M4, d1, d2, d3, d4, d5⟩ := u_run ho (jo := (fco en L).2) (w := 1000000) (fco_1 en L) hli (fco_j en L) (mk_CRel hco3 c2) hR3 (by decide) (by decide) (by decide) (by rw [c5 _ _ (by omega)]; exact hwt) (by rw [c5 _ _ (by omega)]; exact hm2) ⟨hS2.1.same (fun j _ => c5 _ _ (by omega)), hS2.2.same (fun j _ => c5 _ _ (by omega))⟩
  rw [y5, y6] at d2 d3
  have hb2 : f_Run_askFree_b81 o en M3 = f_Run_askFree_l100 o FU en 0 M4 := by
    unfold f_Run_askFree_b81
    cases f1 : f_Run_begin o M3 with
    | none => rw [f1] at d1; cases d1
    | some q7 =>
      rw [f1] at d1
      have d1 : ((f_Run_readInner o 7 q7).bind fun q8 => f_Run_handOnKept o q8) = some M4 := d1
      cases f2 : f_Run_readInner o 7 q7 with
      | none => rw [f2] at d1; cases d1
      | some q8 =>
        rw [f2] at d1
        have d1 : f_Run_handOnKept o q8 = some M4 := d1
        rw [Option.bind_some, f2, Option.bind_some, d1, Option.bind_some]
  rw [hb2]
  have nR : ∀ (c k : Nat), (c < 29 ∨ (o + 1 ≤ c ∧ c ≤ o + 7)) → ¬ RuP o c k := fun c k h q => by unfold RuP ReP FdP RpP KpP at q; omega
  have hco4 : CoIs (o + 1) M4 (fco en L).1 (jnI (fco en L).2) := ⟨by rw [d5 _ _ (nR _ _ (by omega))]; exact hco3.1, hco3.2.1, ⟨hco3.2.2.1.1.same (fun j _ => d5 _ _ (nR _ _ (by omega))), hco3.2.2.1.2.same (fun j _ => d5 _ _ (nR _ _ (by omega)))⟩, by rw [d5 _ _ (nR _ _ (by omega))]; exact hco3.2.2.2⟩
  have hpa4 : PaIs (o + 4) M4 (fps en L lo) := ⟨by rw [d5 _ _ (nR _ _ (by omega))]; exact c2.1, c2.2.1, c2.2.2.1.same (fun j _ => d5 _ _ (nR _ _ (by omega))), c2.2.2.2.same (fun j _ => d5 _ _ (nR _ _ (by omega)))⟩
  unfold frQ at hx
  cases hfr : frA en (crun (fco en L).1 (fco en L).2 (fps en L lo) 1000000 li 0 0).2.2.2.2 lo (fpl en L lo) (-1, []) with
  | none => rw [hfr] at hx; cases hx
  | some q =>
    rw [hfr, Option.bind_some] at hx
    injection hx with hx
    have hplen : (fpl en L lo).length = lo.length := by
      unfold fpl
      split
      · rw [List.length_map]
      · exact gpl_len _ _ _
    have hpl10 : ∀ p, p ∈ fpl en L lo → p < 10 := by
      intro p hp
      unfold fpl at hp
      split at hp
      · obtain ⟨_, _, rfl⟩ := List.mem_map.mp hp; decide
      · have h1 := gpl_lt _ _ _ _ hp
        have h2 := gth_le (fuv en L) lo []
        have h3 : ([] : List (Int32 × Int32)).length = 0 := rfl
        omega
    obtain ⟨M5, f1, f2, f3, f4⟩ := u_frL ho (co := (fco en L).1) (ps := fps en L lo) (P := fpl en L lo) (cu := 0 + (fco en L).1.length) hlo hplen hpl10 (by omega) lo 0 FU M4 (-1, []) q rfl (Nat.zero_le _) (Nat.lt_trans (by omega) fu_lt) (fun _ => rfl) (mk_CRel hco4 hpa4) (hA3.out d5 (fun c k q => by unfold RuP ReP FdP RpP KpP at q; unfold AnP; omega)) d4 d2.2.2.2 (by rw [d5 _ _ (nR _ _ (by omega)), c5 _ _ (by omega)]; exact hm42) ⟨hS42.1.same (fun j _ => by rw [d5 _ _ (nR _ _ (by omega)), c5 _ _ (by omega)]), hS42.2.same (fun j _ => by rw [d5 _ _ (nR _ _ (by omega)), c5 _ _ (by omega)])⟩ (fun j hj => by rw [d5 _ _ (nR _ _ (by omega))]; exact c3 j hj) hfr
    have nF : ∀ (c k : Nat), (o + 1 ≤ c ∧ c ≤ o + 7) → ¬ (AnP o c k ∨ RpP o c k) := fun c k h q => by unfold AnP RpP at q; omega
    have z : ∀ k, k = 5 ∨ k = 6 → M5 (o + 8) k = M4 (o + 8) k := fun k hk => f4 _ _ (by unfold AnP RpP; omega)
    rw [← hx]
    refine ⟨M5, f1, ⟨f2, ?_, ?_, ?_⟩, ?_, ?_, ?_⟩
    · rw [z 5 (by omega)]; exact d3
    · rw [z 6 (by omega)]; exact d2.2.1
    · have g3 := f3
      rw [show rs0.2.2.2.2.1 = [] from rfl, show rs0.2.2.2.2.2.1 = 0 from rfl, show rs0.2.2.2.2.2.2 = 0 from rfl, Nat.zero_add, Nat.sub_self, Nat.zero_max] at g3
      exact g3
    · exact ⟨by rw [f4 _ _ (nF _ _ (by omega))]; exact hco4.1, hco4.2.1, ⟨hco4.2.2.1.1.same (fun j _ => f4 _ _ (nF _ _ (by omega))), hco4.2.2.1.2.same (fun j _ => f4 _ _ (nF _ _ (by omega)))⟩, by rw [f4 _ _ (nF _ _ (by omega))]; exact hco4.2.2.2⟩
    · exact ⟨by rw [f4 _ _ (nF _ _ (by omega))]; exact hpa4.1, hpa4.2.1, hpa4.2.2.1.same (fun j _ => f4 _ _ (nF _ _ (by omega))), hpa4.2.2.2.same (fun j _ => f4 _ _ (nF _ _ (by omega)))⟩
    · refine (o2.mono (fun c k q => by unfold AkP; omega)).trans ((c4.mono (fun c k q => by have := nP c k q; unfold AkP; omega)).trans ((d5.mono (fun c k q => ?_)).trans (f4.mono (fun c k q => ?_))))
      · unfold RuP ReP FdP RpP at q; unfold AkP; unfold KpP at q ⊢; omega
      · unfold AnP RpP at q; unfold AkP; omega
