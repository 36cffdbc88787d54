-- ===== all outer rows =====
theorem stl_len {en hv : Int32} {t : Nat → Int32} {i er : Int32} {l : List (Int32 × Int32)} {q : Int32 × List (Int32 × Int32)} (h : stl en hv t i er l = some q) : (q.1 = er ∧ q.2.length = l.length + 1) ∨ (q.1 = i ∧ q.2 = l) := by
  unfold stl at h
  by_cases e : f_Tally_isError 0 (tmM t) en = 0
  · rw [if_pos e] at h
    cases ha : f_Tally_outcome 0 (tmM t) en hv with
    | none => rw [ha] at h; cases h
    | some a =>
      cases hm : f_Tally_mean 0 (tmM t) with
      | none => rw [ha, hm] at h; cases h
      | some m =>
        rw [ha, hm] at h
        have h : some (er, l ++ [(a, UInt32.toInt32 m)]) = some q := h
        injection h with h
        subst h
        refine Or.inl ⟨rfl, ?_⟩
        rw [List.length_append]; rfl
  · rw [if_neg e] at h
    injection h with h
    subst h
    exact Or.inr ⟨rfl, rfl⟩
theorem rb1_len {en w : Int32} {co li : List (Int32 × Int32)} {x : Int32 × Int32} {s s' : RS} (h : rb1 en w co li x s = some s') : ((s'.1 = s.1 ∧ s'.2.2.2.1.length = s.2.2.2.1.length + 1) ∨ (s'.1 = nI s.2.2.2.1.length ∧ s'.2.2.2.1 = s.2.2.2.1)) ∧ s'.2.2.2.2.2.1 = s.2.2.2.2.2.1 + co.length ∧ s'.2.2.2.2.2.2 = max s.2.2.2.2.2.2 co.length := by
  unfold rb1 at h
  cases hst : stl en x.2 ((crun co none [x] w li s.2.1 s.2.2.1).2.2.2.2 0) (nI s.2.2.2.1.length) s.1 s.2.2.2.1 with
  | none => rw [hst] at h; cases h
  | some q =>
    rw [hst, Option.bind_some] at h
    injection h with h
    subst h
    exact ⟨stl_len hst, rfl, rfl⟩
theorem u_rbA {o : Nat} (ho : isRun o) {co lo li : List (Int32 × Int32)} {en w : Int32} (hn1 : 1 ≤ co.length) (hli : li.length ≤ 10) (hlo : lo.length ≤ 10) : ∀ (l : List (Int32 × Int32)) (i fuel : Nat) (M : Mem) (s s' : RS), l = lo.drop i → i ≤ lo.length → l.length < fuel → (s.1 = -1 → s.2.2.2.1.length = i) → CoIs (o + 1) M co (-1) → RRel o M s 0 → s.2.2.2.2.2.1 ≤ 14 * i → s.2.2.2.2.2.2 ≤ 14 → M o 4 = w → M 4 2 = nI lo.length → SH (M 5) (M 6) lo → M 7 2 = nI li.length → SH (M 8) (M 9) li → rbA en w co li l s = some s' →
    ∃ M', f_Run_askRowByRow_l53 o fuel en (nI i) M = some M' ∧ RRel o M' s' 0 ∧ CoIs (o + 1) M' co (-1) ∧ Out (AkP o) M M' := by
  intro l
  have o55 : 55 ≤ o := by unfold isRun at ho; omega
  induction l with
  | nil =>
    intro i fuel M s s' hl hi hf hlen hco hs h1 h3 hw hm4 hS4 hm hS hx
    have hf : 0 < fuel := hf
    obtain ⟨g, rfl⟩ : ∃ g, fuel = g + 1 := ⟨fuel - 1, by omega⟩
    have hi : lo.length ≤ i := by
      rcases Nat.lt_or_ge i lo.length with q | q
      · rw [List.drop_eq_getElem_cons q] at hl; cases hl
      · exact q
    have hx : some s = some s' := hx
    injection hx with hx
    subst hx
    refine ⟨M, ?_, hs, hco, Out.rfl⟩
    show f_Run_askRowByRow_l53B o (f_Run_askRowByRow_l53 o g) en (nI i) M = _
    unfold f_Run_askRowByRow_l53B
    rw [hm4, show i = lo.length by omega, if_pos (Int32.le_refl _)]
  | cons x l ih =>
    intro i fuel M s s' hl hi hf hlen hco hs h1 h3 hw hm4 hS4 hm hS hx
    have hf : l.length + 1 < fuel := hf
    obtain ⟨g, rfl⟩ : ∃ g, fuel = g + 1 := ⟨fuel - 1, by omega⟩
    obtain ⟨e1, e2, e3, e4⟩ := hS4.at hl
    have G : gin (nI i) 10 := gin_t (by omega) (by decide)
    have hci : (nI i).toNatClampNeg = i := nI_clamp (by omega)
    show ∃ M', f_Run_askRowByRow_l53B o (f_Run_askRowByRow_l53 o g) en (nI i) M = _ ∧ _
    unfold f_Run_askRowByRow_l53B
    rw [hm4, if_neg (fun q => by have := (nI_leI (by omega) (by omega)).mp q; omega), hs.1.1]
    unfold rbA at hx
    by_cases e : s.1 = -1
    · rw [if_pos e] at hx
      have hle := hlen e
      rw [if_pos e, if_pos G, if_pos G]
      simp only [hci]
      rw [e1, e2]
      cases hr : rb1 en w co li x s with
      | none => rw [hr] at hx; cases hx
      | some s1 =>
        rw [hr, Option.bind_some] at hx
        have hl2 := rb1_len hr
        have hcl := hco.2.1
        have key := fun k => u_rb1 ho (lo := lo) hn1 hli (by omega) hco hs (by omega) (by omega) hw hm hS hr k
        -- the outer value is read again before the settling
        have conv : ∀ (k : Mem → Option Mem), (bnd (f_Pairs_setOne (o + 4) M x.1 x.2) fun q6 => (f_Run_begin o q6).bind fun q7 => (f_Run_readInner o 7 q7).bind fun q8 => (f_Run_handOnKept o q8).bind fun q9 => if gin (nI i) 10 then (f_Report_settle (o + 8) (45 + (0 : Int32).toNatClampNeg) q9 (nI i) en (q9 6 i)).bind fun q11 => (f_Report_shutAll (o + 8) (o + 1) q11).bind k else none) = (bnd (f_Pairs_setOne (o + 4) M x.1 x.2) fun q6 => (f_Run_begin o q6).bind fun q7 => (f_Run_readInner o 7 q7).bind fun q8 => (f_Run_handOnKept o q8).bind fun q9 => (f_Report_settle (o + 8) 45 q9 (nI s.2.2.2.1.length) en x.2).bind fun q11 => (f_Report_shutAll (o + 8) (o + 1) q11).bind k) := fun k => by
          rw [hle]
          simp only [if_pos G]
          rw [bn, bn]
          obtain ⟨p1, p2⟩ := u_setOne (c := o + 4) (M := M) (x := x.1) (y := x.2)
          have cow : CoIs (o + 1) (f_Pairs_setOne (o + 4) M x.1 x.2) co (-1) := ⟨by rw [p2 _ _ (by unfold PaP; omega)]; exact hco.1, hco.2.1, ⟨hco.2.2.1.1.same (fun j _ => p2 _ _ (by unfold PaP; omega)), hco.2.2.1.2.same (fun j _ => p2 _ _ (by unfold PaP; omega))⟩, by rw [p2 _ _ (by unfold PaP; omega)]; exact hco.2.2.2⟩
          have hR1 := hs.2.2.2.out p2 (fun c k q => by unfold PaP at q; unfold RpP; omega)
          have nQ : ∀ c k, c < o → ¬ PaP (o + 4) c k := fun c k h q => by unfold PaP at q; omega
          have y6 : (f_Pairs_setOne (o + 4) M x.1 x.2) 6 i = x.2 := by rw [p2 _ _ (nQ _ _ (by omega))]; exact e2
          obtain ⟨M2, a1, a2, a3, a4, a5⟩ := u_run ho (jo := none) (w := w) hn1 hli (fun j h => by cases h) (mk_CRel cow p1) hR1 (by omega) (Nat.zero_le _) (by omega) (by rw [p2 _ _ (by unfold PaP; omega)]; exact hw) (by rw [p2 _ _ (nQ _ _ (by omega))]; exact hm) ⟨hS.1.same (fun j _ => p2 _ _ (nQ _ _ (by omega))), hS.2.same (fun j _ => p2 _ _ (nQ _ _ (by omega)))⟩
          generalize f_Pairs_setOne (o + 4) M x.1 x.2 = M1 at *
          cases f1 : f_Run_begin o M1 with
          | none => rfl
          | some q7 =>
            rw [f1] at a1
            have a1 : ((f_Run_readInner o 7 q7).bind fun q8 => f_Run_handOnKept o q8) = some M2 := a1
            rw [Option.bind_some, Option.bind_some]
            cases f2 : f_Run_readInner o 7 q7 with
            | none => rfl
            | some q8 =>
              rw [f2] at a1
              have a1 : f_Run_handOnKept o q8 = some M2 := a1
              rw [Option.bind_some, Option.bind_some, a1, Option.bind_some, Option.bind_some]
              have : M2 6 i = x.2 := by rw [a5 _ _ (by unfold RuP ReP FdP RpP KpP; omega)]; exact y6
              rw [this]
              rfl
        obtain ⟨M1, a1, a2, a3, a4⟩ := key (fun q12 => f_Run_askRowByRow_l53 o g en (nI i + 1) q12)
        rw [conv (fun q12 => f_Run_askRowByRow_l53 o g en (nI i + 1) q12), a1]
        show ∃ M', f_Run_askRowByRow_l53 o g en (nI i + 1) M1 = _ ∧ _
        rw [nI_1]
        have nK : ∀ c k, (c < 10 ∨ (c = o ∧ k = 4)) → ¬ (AkP o c k ∧ ¬ (c = o ∧ k = 4)) := fun c k h q => by unfold AkP KpP at q; omega
        obtain ⟨M2, b1, b2, b3, b4⟩ := ih (i + 1) g M1 s1 s' e3 (by omega) (by omega) (fun q => by
          rcases hl2.1 with w | w
          · omega
          · rw [w.1] at q; exact absurd q (nI_nm1 (by omega))) a3 a2 (by omega) (by omega) (by rw [a4 _ _ (nK _ _ (by omega))]; exact hw) (by rw [a4 _ _ (nK _ _ (by omega))]; exact hm4) ⟨hS4.1.same (fun j _ => a4 _ _ (nK _ _ (by omega))), hS4.2.same (fun j _ => a4 _ _ (nK _ _ (by omega)))⟩ (by rw [a4 _ _ (nK _ _ (by omega))]; exact hm) ⟨hS.1.same (fun j _ => a4 _ _ (nK _ _ (by omega))), hS.2.same (fun j _ => a4 _ _ (nK _ _ (by omega)))⟩ hx
        exact ⟨M2, b1, b2, b3, (a4.mono (fun c k q => q.1)).trans b4⟩
    · rw [if_neg e] at hx ⊢
      injection hx with hx
      subst hx
      exact ⟨M, rfl, hs, hco, Out.rfl⟩
/-- how many rows an end waits for -/
def wnt (en : Int32) : Int32 := if en = 5 then 2 else if en = 6 then 1 else 1000000
/-- asked row by row, with a step left out or none -/
def rbQ (en sk : Int32) (L lo li : List (Int32 × Int32)) : Option RS := rbA en (wnt en) ((0, -1) :: skp sk 0 L) li lo rs0
theorem u_askR {o : Nat} (ho : isRun o) {M : Mem} {L lo li : List (Int32 × Int32)} {en sk fl : Int32} {s : RS} (hL : L.length ≤ 12) (hSt : StpIs M fl L) (hlo : lo.length ≤ 10) (hli : li.length ≤ 10) (hm4 : M 4 2 = nI lo.length) (hS4 : SH (M 5) (M 6) lo) (hm : M 7 2 = nI li.length) (hS : SH (M 8) (M 9) li) (hx : rbQ en sk L lo li = some s) :
    ∃ M', f_Run_askRowByRow o M en sk = some M' ∧ RRel o M' s 0 ∧ CoIs (o + 1) M' ((0, -1) :: skp sk 0 L) (-1) ∧ Out (AkP o) M M' := by
  have o55 : 55 ≤ o := by unfold isRun at ho; omega
  obtain ⟨M1, a1, a2, a3⟩ := u_layR (c := o + 1) (by omega) (sk := sk) hL hSt
  obtain ⟨b1, b2⟩ := u_reportClear (o := o) (M := M1)
  have hb : f_Run_askRowByRow o M en sk = f_Run_askRowByRow_l53 o FU en (nI 0) (mset (f_Report_clear (o + 8) M1) o 4 (wnt en)) := by
    unfold f_Run_askRowByRow wnt f_Run_askRowByRow_b47
    rw [a1, Option.bind_some, bn]
    by_cases e5 : en = 5
    · rw [if_pos e5, if_pos e5]; rfl
    · rw [if_neg e5, if_neg e5]
      by_cases e6 : en = 6
      · rw [if_pos e6, if_pos e6]; rfl
      · rw [if_neg e6, if_neg e6]; rfl
  have hR : RRel o (mset (f_Report_clear (o + 8) M1) o 4 (wnt en)) rs0 0 := by
    have o1 : Out (fun c k => c = o) (f_Report_clear (o + 8) M1) (mset (f_Report_clear (o + 8) M1) o 4 (wnt en)) := Out.set rfl
    refine ⟨b1.1.out o1 (fun c k q => by unfold AnP; omega), ?_, ?_, b1.2.2.2.out o1 (fun c k q => by unfold RpP; omega)⟩
    · rw [ms_c _ _ (by omega)]; exact b1.2.1
    · rw [ms_c _ _ (by omega)]; exact b1.2.2.1
  have o2 : Out (fun c k => c = o ∨ (o + 1 ≤ c ∧ c ≤ o + 3) ∨ c = o + 8) M (mset (f_Report_clear (o + 8) M1) o 4 (wnt en)) := (a3.mono (fun c k q => by unfold CoP at q; omega)).trans ((b2.mono (fun c k q => by omega)).trans (Out.set (by omega)))
  have e13 : ∀ c k, o + 1 ≤ c ∧ c ≤ o + 3 → (mset (f_Report_clear (o + 8) M1) o 4 (wnt en)) c k = M1 c k := fun c k h => by rw [ms_c _ _ (by omega), b2 _ _ (by omega)]
  have hco : CoIs (o + 1) (mset (f_Report_clear (o + 8) M1) o 4 (wnt en)) ((0, -1) :: skp sk 0 L) (-1) := ⟨by rw [e13 _ _ (by omega)]; exact a2.1, a2.2.1, ⟨a2.2.2.1.1.same (fun j _ => e13 _ _ (by omega)), a2.2.2.1.2.same (fun j _ => e13 _ _ (by omega))⟩, by rw [e13 _ _ (by omega)]; exact a2.2.2.2⟩
  have hwt : (mset (f_Report_clear (o + 8) M1) o 4 (wnt en)) o 4 = wnt en := ms_s _ _ _ _
  rw [hb]
  generalize mset (f_Report_clear (o + 8) M1) o 4 (wnt en) = M2 at hR o2 hco hwt
  have nX : ∀ (c k : Nat), c < 10 → ¬ (c = o ∨ (o + 1 ≤ c ∧ c ≤ o + 3) ∨ c = o + 8) := fun c k h q => by omega
  obtain ⟨M3, c1, c2, c3, c4⟩ := u_rbA ho (co := (0, -1) :: skp sk 0 L) (lo := lo) (Nat.succ_le_succ (Nat.zero_le (skp sk 0 L).length)) hli hlo lo 0 FU M2 rs0 s rfl (Nat.zero_le _) (Nat.lt_trans (by omega) fu_lt) (fun _ => rfl) hco hR (Nat.zero_le _) (Nat.zero_le _) hwt (by rw [o2 _ _ (nX 4 2 (by decide))]; exact hm4) ⟨hS4.1.same (fun j _ => o2 _ _ (nX 5 j (by decide))), hS4.2.same (fun j _ => o2 _ _ (nX 6 j (by decide)))⟩ (by rw [o2 _ _ (nX 7 2 (by decide))]; exact hm) ⟨hS.1.same (fun j _ => o2 _ _ (nX 8 j (by decide))), hS.2.same (fun j _ => o2 _ _ (nX 9 j (by decide)))⟩ hx
  exact ⟨M3, c1, c2, c3, (o2.mono (fun c k q => by unfold AkP; omega)).trans c4⟩
