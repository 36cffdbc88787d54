-- ===== rows of the reference =====
abbrev T3 : Type := Int32 × Int32 × Int32
def TH (f g h : Nat → Int32) (l : List T3) : Prop := AH f (l.map (fun x => x.1)) ∧ AH g (l.map (fun x => x.2.1)) ∧ AH h (l.map (fun x => x.2.2))
theorem TH.nil {f g h : Nat → Int32} : TH f g h [] := ⟨AH.nil, AH.nil, AH.nil⟩
theorem TH.same {f g h f' g' h' : Nat → Int32} {l : List T3} (H : TH f g h l) (h1 : ∀ j, j < l.length → f' j = f j) (h2 : ∀ j, j < l.length → g' j = g j) (h3 : ∀ j, j < l.length → h' j = h j) : TH f' g' h' l :=
  ⟨H.1.same (fun j hj => h1 j (by rwa [List.length_map] at hj)), H.2.1.same (fun j hj => h2 j (by rwa [List.length_map] at hj)), H.2.2.same (fun j hj => h3 j (by rwa [List.length_map] at hj))⟩
theorem TH.snoc {f g h f' g' h' : Nat → Int32} {l : List T3} {x : T3} (H : TH f g h l) (h1 : ∀ j, j < l.length → f' j = f j) (h2 : ∀ j, j < l.length → g' j = g j) (h3 : ∀ j, j < l.length → h' j = h j) (e1 : f' l.length = x.1) (e2 : g' l.length = x.2.1) (e3 : h' l.length = x.2.2) : TH f' g' h' (l ++ [x]) := by
  refine ⟨?_, ?_, ?_⟩
  · rw [List.map_append]
    exact H.1.snoc (fun j hj => h1 j (by rwa [List.length_map] at hj)) (by rw [List.length_map]; exact e1)
  · rw [List.map_append]
    exact H.2.1.snoc (fun j hj => h2 j (by rwa [List.length_map] at hj)) (by rw [List.length_map]; exact e2)
  · rw [List.map_append]
    exact H.2.2.snoc (fun j hj => h3 j (by rwa [List.length_map] at hj)) (by rw [List.length_map]; exact e3)
theorem TH.at {f g h : Nat → Int32} {l : List T3} (H : TH f g h l) {i : Nat} {x : T3} {r : List T3} (hr : x :: r = l.drop i) : f i = x.1 ∧ g i = x.2.1 ∧ h i = x.2.2 ∧ r = l.drop (i + 1) ∧ i < l.length := by
  have hi : i < l.length := by
    rcases Nat.lt_or_ge i l.length with q | q
    · exact q
    · rw [List.drop_eq_nil_of_le q] at hr; cases hr
  rw [List.drop_eq_getElem_cons hi] at hr
  injection hr with e1 e2
  refine ⟨?_, ?_, ?_, e2, hi⟩
  · rw [H.1 i (by rw [List.length_map]; exact hi), e1]
    simp [List.getD_eq_getElem?_getD, hi]
  · rw [H.2.1 i (by rw [List.length_map]; exact hi), e1]
    simp [List.getD_eq_getElem?_getD, hi]
  · rw [H.2.2 i (by rw [List.length_map]; exact hi), e1]
    simp [List.getD_eq_getElem?_getD, hi]
theorem dnil {α : Type} {L : List α} {i : Nat} (hl : [] = L.drop i) : L.length ≤ i := by
  rcases Nat.lt_or_ge i L.length with q | q
  · rw [List.drop_eq_getElem_cons q] at hl; cases hl
  · exact q
def OuIs (M : Mem) (l : List T3) : Prop := M 91 21 = nI l.length ∧ l.length ≤ 300 ∧ TH (M 108) (M 109) (M 110) l
def RoIs (M : Mem) (l : List T3) : Prop := M 91 17 = nI l.length ∧ l.length ≤ 300 ∧ TH (M 105) (M 106) (M 107) l
def OuP (c k : Nat) : Prop := c = 108 ∨ c = 109 ∨ c = 110 ∨ (c = 91 ∧ k = 21)
def RoP (c k : Nat) : Prop := c = 105 ∨ c = 106 ∨ c = 107 ∨ (c = 91 ∧ k = 17)
theorem OuIs.out {M M' : Mem} {l : List T3} {P : Nat → Nat → Prop} (h : OuIs M l) (o : Out P M M') (hp : ∀ c k, P c k → ¬ OuP c k) : OuIs M' l :=
  ⟨by rw [o _ _ (fun q => hp _ _ q (by unfold OuP; omega))]; exact h.1, h.2.1, h.2.2.same (fun j _ => o _ _ (fun q => hp _ _ q (by unfold OuP; omega))) (fun j _ => o _ _ (fun q => hp _ _ q (by unfold OuP; omega))) (fun j _ => o _ _ (fun q => hp _ _ q (by unfold OuP; omega)))⟩
theorem RoIs.out {M M' : Mem} {l : List T3} {P : Nat → Nat → Prop} (h : RoIs M l) (o : Out P M M') (hp : ∀ c k, P c k → ¬ RoP c k) : RoIs M' l :=
  ⟨by rw [o _ _ (fun q => hp _ _ q (by unfold RoP; omega))]; exact h.1, h.2.1, h.2.2.same (fun j _ => o _ _ (fun q => hp _ _ q (by unfold RoP; omega))) (fun j _ => o _ _ (fun q => hp _ _ q (by unfold RoP; omega))) (fun j _ => o _ _ (fun q => hp _ _ q (by unfold RoP; omega)))⟩
theorem m_puts {M : Mem} {l : List T3} {a b c : Int32} (h : OuIs M l) (hl : l.length < 300) : ∃ M', f_Mo_puts M a b c = some M' ∧ OuIs M' (l ++ [(a, b, c)]) ∧ Out OuP M M' := by
  have hc : (nI l.length).toNatClampNeg = l.length := nI_clamp (by omega)
  have G : gin (nI l.length) 300 := gin_t hl (by decide)
  refine ⟨mset (mset (mset (mset M 108 l.length a) 109 l.length b) 110 l.length c) 91 21 (nI (l.length + 1)), ?_, ⟨?_, ?_, ?_⟩, ?_⟩
  · unfold f_Mo_puts
    rw [h.1, if_pos G, hc, bn, ms_c _ _ (by decide), h.1, if_pos G, hc, bn, ms_c _ _ (by decide), ms_c _ _ (by decide), h.1, if_pos G, hc, bn, ms_c _ _ (by decide), ms_c _ _ (by decide), ms_c _ _ (by decide), h.1, nI_1, bn]
  · rw [ms_s, List.length_append]; rfl
  · rw [List.length_append]; show l.length + 1 ≤ 300; omega
  · refine h.2.2.snoc (fun j hj => ?_) (fun j hj => ?_) (fun j hj => ?_) ?_ ?_ ?_
    · rw [ms_c _ _ (by decide), ms_c _ _ (by decide), ms_c _ _ (by decide), ms_k _ _ (by omega)]
    · rw [ms_c _ _ (by decide), ms_c _ _ (by decide), ms_k _ _ (by omega), ms_c _ _ (by decide)]
    · rw [ms_c _ _ (by decide), ms_k _ _ (by omega), ms_c _ _ (by decide), ms_c _ _ (by decide)]
    · rw [ms_c _ _ (by decide), ms_c _ _ (by decide), ms_c _ _ (by decide), ms_s]
    · rw [ms_c _ _ (by decide), ms_c _ _ (by decide), ms_s]
    · rw [ms_c _ _ (by decide), ms_s]
  · have o0 : ∀ (M : Mem) (c k : Nat) (v : Int32), OuP c k → Out OuP M (mset M c k v) := fun M c k v h => Out.set h
    exact (o0 _ _ _ _ (by unfold OuP; omega)).trans ((o0 _ _ _ _ (by unfold OuP; omega)).trans ((o0 _ _ _ _ (by unfold OuP; omega)).trans (o0 _ _ _ _ (by unfold OuP; omega))))
/-- rows put at the place i of the three -/
theorem m_put3 {M : Mem} {i : Nat} {a b c : Int32} : (∀ k, k ≠ i → mset (mset (mset M 105 i a) 106 i b) 107 i c 105 k = M 105 k ∧ mset (mset (mset M 105 i a) 106 i b) 107 i c 106 k = M 106 k ∧ mset (mset (mset M 105 i a) 106 i b) 107 i c 107 k = M 107 k) ∧ mset (mset (mset M 105 i a) 106 i b) 107 i c 105 i = a ∧ mset (mset (mset M 105 i a) 106 i b) 107 i c 106 i = b ∧ mset (mset (mset M 105 i a) 106 i b) 107 i c 107 i = c ∧ Out (fun c k => c = 105 ∨ c = 106 ∨ c = 107) M (mset (mset (mset M 105 i a) 106 i b) 107 i c) := by
  refine ⟨fun k hk => ⟨?_, ?_, ?_⟩, ?_, ?_, ?_, ?_⟩
  · rw [ms_k _ _ hk, ms_k _ _ hk, ms_k _ _ hk]
  · rw [ms_k _ _ hk, ms_k _ _ hk, ms_k _ _ hk]
  · rw [ms_k _ _ hk, ms_k _ _ hk, ms_k _ _ hk]
  · rw [ms_c _ _ (by decide), ms_c _ _ (by decide), ms_s]
  · rw [ms_c _ _ (by decide), ms_s]
  · rw [ms_s]
  · have o0 : ∀ (M : Mem) (c k : Nat) (v : Int32), (c = 105 ∨ c = 106 ∨ c = 107) → Out (fun c k => c = 105 ∨ c = 106 ∨ c = 107) M (mset M c k v) := fun M c k v h => Out.set h
    exact (o0 _ _ _ _ (by omega)).trans ((o0 _ _ _ _ (by omega)).trans (o0 _ _ _ _ (by omega)))
theorem m_comesL {L : List T3} (hL : L.length ≤ 300) : ∀ (l : List T3) (i fuel : Nat) (M : Mem), l = L.drop i → i ≤ L.length → l.length < fuel → M 91 17 = nI L.length → TH (M 108) (M 109) (M 110) L → TH (M 105) (M 106) (M 107) (L.take i) →
    ∃ M', f_Mo_comesIn_l10 fuel (nI i) M = some M' ∧ RoIs M' L ∧ OuIs M' [] ∧ Out (fun c k => c = 105 ∨ c = 106 ∨ c = 107 ∨ (c = 91 ∧ k = 21)) M M' := by
  intro l
  induction l with
  | nil =>
    intro i fuel M hl hi hf h17 hO hR
    have hf : 0 < fuel := hf
    obtain ⟨g, rfl⟩ : ∃ g, fuel = g + 1 := ⟨fuel - 1, by omega⟩
    have hi2 := dnil hl
    refine ⟨mset M 91 21 0, ?_, ⟨?_, hL, ?_⟩, ⟨by rw [ms_s]; rfl, Nat.zero_le _, TH.nil⟩, Out.set (by omega)⟩
    · show f_Mo_comesIn_l10B (f_Mo_comesIn_l10 g) (nI i) M = _
      unfold f_Mo_comesIn_l10B
      rw [h17, show i = L.length by omega, if_pos (Int32.le_refl _), bn]
    · rw [ms_k _ _ (by decide)]; exact h17
    · rw [List.take_of_length_le hi2] at hR
      exact hR.same (fun j _ => by rw [ms_c _ _ (by decide)]) (fun j _ => by rw [ms_c _ _ (by decide)]) (fun j _ => by rw [ms_c _ _ (by decide)])
  | cons x l ih =>
    intro i fuel M hl hi hf h17 hO hR
    have hf : l.length + 1 < fuel := hf
    obtain ⟨g, rfl⟩ : ∃ g, fuel = g + 1 := ⟨fuel - 1, by omega⟩
    obtain ⟨e1, e2, e3, e4, e5⟩ := hO.at hl
    have G : gin (nI i) 300 := gin_t (by omega) (by decide)
    have hci : (nI i).toNatClampNeg = i := nI_clamp (by omega)
    obtain ⟨p1, p2, p3, p4, p5⟩ := m_put3 (M := M) (i := i) (a := x.1) (b := x.2.1) (c := x.2.2)
    have hb : f_Mo_comesIn_l10 (g + 1) (nI i) M = f_Mo_comesIn_l10 g (nI (i + 1)) (mset (mset (mset M 105 i x.1) 106 i x.2.1) 107 i x.2.2) := by
      show f_Mo_comesIn_l10B (f_Mo_comesIn_l10 g) (nI i) M = _
      unfold f_Mo_comesIn_l10B
      rw [h17, if_neg (fun q => by have := (nI_leI (by omega) (by omega)).mp q; omega), if_pos G, if_pos G]
      simp only [hci]
      rw [bn, if_pos G, if_pos G, bn, if_pos G, if_pos G, bn, nI_1, e1, ms_c _ _ (show 109 ≠ 105 by decide), e2, ms_c _ _ (show 110 ≠ 106 by decide), ms_c _ _ (show 110 ≠ 105 by decide), e3]
    generalize mset (mset (mset M 105 i x.1) 106 i x.2.1) 107 i x.2.2 = M1 at *
    have hlt : (L.take i).length = i := by rw [List.length_take]; omega
    obtain ⟨M', a1, a2, a3, a4⟩ := ih (i + 1) g M1 e4 (by omega) (by omega) (by rw [p5 _ _ (by omega)]; exact h17) (hO.same (fun j _ => p5 _ _ (by omega)) (fun j _ => p5 _ _ (by omega)) (fun j _ => p5 _ _ (by omega))) (by
      have hx : L.take (i + 1) = L.take i ++ [x] := by
        rw [List.take_add_one, List.getElem?_eq_getElem e5]
        rw [List.drop_eq_getElem_cons e5] at hl
        injection hl with w1 w2
        rw [w1]; rfl
      rw [hx]
      refine hR.snoc (fun j hj => (p1 j (by omega)).1) (fun j hj => (p1 j (by omega)).2.1) (fun j hj => (p1 j (by omega)).2.2) ?_ ?_ ?_
      · rw [hlt]; exact p2
      · rw [hlt]; exact p3
      · rw [hlt]; exact p4)
    exact ⟨M', by rw [hb]; exact a1, a2, a3, (p5.mono (fun c k q => by omega)).trans a4⟩
theorem m_comesIn {M : Mem} {l : List T3} (h : OuIs M l) : ∃ M', f_Mo_comesIn M = some M' ∧ RoIs M' l ∧ OuIs M' [] ∧ Out (fun c k => RoP c k ∨ (c = 91 ∧ k = 21)) M M' := by
  unfold f_Mo_comesIn
  rw [bn, h.1]
  obtain ⟨M', a1, a2, a3, a4⟩ := m_comesL h.2.1 l 0 FU (mset M 91 17 (nI l.length)) rfl (Nat.zero_le _) (Nat.lt_of_le_of_lt h.2.1 (Nat.lt_trans (by decide) fu_lt)) (ms_s _ _ _ _) (h.2.2.same (fun j _ => by rw [ms_c _ _ (by decide)]) (fun j _ => by rw [ms_c _ _ (by decide)]) (fun j _ => by rw [ms_c _ _ (by decide)])) (by rw [List.take_zero]; exact TH.nil)
  have o0 : Out (fun c k => RoP c k ∨ (c = 91 ∧ k = 21)) M (mset M 91 17 (nI l.length)) := Out.set (Or.inl (by unfold RoP; omega))
  exact ⟨M', a1, a2, a3, o0.trans (a4.mono (fun c k q => by unfold RoP; omega))⟩
/-- the inner rows, as rows of no pair -/
def inT (li : List (Int32 × Int32)) : List T3 := li.map (fun x => (x.1, x.2, -1))
theorem m_innerL {L : List (Int32 × Int32)} (hL : L.length ≤ 10) : ∀ (l : List (Int32 × Int32)) (i fuel : Nat) (M : Mem), l = L.drop i → i ≤ L.length → l.length < fuel → M 91 17 = nI L.length → SH (fun j => M 96 (10 + j)) (fun j => M 97 (10 + j)) L → TH (M 105) (M 106) (M 107) (inT (L.take i)) →
    ∃ M', f_Mo_comesOfInner_l17 fuel (nI i) M = some M' ∧ RoIs M' (inT L) ∧ Out (fun c k => c = 105 ∨ c = 106 ∨ c = 107) M M' := by
  intro l
  induction l with
  | nil =>
    intro i fuel M hl hi hf h17 hO hR
    have hf : 0 < fuel := hf
    obtain ⟨g, rfl⟩ : ∃ g, fuel = g + 1 := ⟨fuel - 1, by omega⟩
    have hi2 := dnil hl
    refine ⟨M, ?_, ⟨?_, ?_, ?_⟩, Out.rfl⟩
    · show f_Mo_comesOfInner_l17B (f_Mo_comesOfInner_l17 g) (nI i) M = _
      unfold f_Mo_comesOfInner_l17B
      rw [h17, show i = L.length by omega, if_pos (Int32.le_refl _)]
    · unfold inT; rw [List.length_map]; exact h17
    · unfold inT; rw [List.length_map]; omega
    · rw [List.take_of_length_le hi2] at hR
      exact hR
  | cons x l ih =>
    intro i fuel M hl hi hf h17 hO hR
    have hf : l.length + 1 < fuel := hf
    obtain ⟨g, rfl⟩ : ∃ g, fuel = g + 1 := ⟨fuel - 1, by omega⟩
    obtain ⟨e1, e2, e4, e5⟩ := hO.at hl
    have G : gin (nI i) 300 := gin_t (by omega) (by decide)
    have hci : (nI i).toNatClampNeg = i := nI_clamp (by omega)
    have h10 : (10 : Int32) + nI i = nI (10 + i) := nI_add 10 i
    have G2 : gin ((10 : Int32) + nI i) 20 := by rw [h10]; exact gin_t (by omega) (by decide)
    have hc10 : ((10 : Int32) + nI i).toNatClampNeg = 10 + i := by rw [h10]; exact nI_clamp (by omega)
    obtain ⟨p1, p2, p3, p4, p5⟩ := m_put3 (M := M) (i := i) (a := x.1) (b := x.2) (c := -1)
    have hb : f_Mo_comesOfInner_l17 (g + 1) (nI i) M = f_Mo_comesOfInner_l17 g (nI (i + 1)) (mset (mset (mset M 105 i x.1) 106 i x.2) 107 i (-1)) := by
      show f_Mo_comesOfInner_l17B (f_Mo_comesOfInner_l17 g) (nI i) M = _
      unfold f_Mo_comesOfInner_l17B
      rw [h17, if_neg (fun q => by have := (nI_leI (by omega) (by omega)).mp q; omega), if_pos G2, if_pos G]
      simp only [hci, hc10]
      rw [bn, if_pos G2, if_pos G, bn, if_pos G, bn, nI_1, ms_c _ _ (show 97 ≠ 105 by decide)]
      rw [show M 96 (10 + i) = x.1 from e1, show M 97 (10 + i) = x.2 from e2]
    generalize mset (mset (mset M 105 i x.1) 106 i x.2) 107 i (-1) = M1 at *
    have hlt : (inT (L.take i)).length = i := by unfold inT; rw [List.length_map, List.length_take]; omega
    obtain ⟨M', a1, a2, a4⟩ := ih (i + 1) g M1 e4 (by omega) (by omega) (by rw [p5 _ _ (by omega)]; exact h17) ⟨hO.1.same (fun j _ => p5 _ _ (by omega)), hO.2.same (fun j _ => p5 _ _ (by omega))⟩ (by
      have hx : inT (L.take (i + 1)) = inT (L.take i) ++ [(x.1, x.2, -1)] := by
        rw [List.take_add_one, List.getElem?_eq_getElem e5]
        rw [List.drop_eq_getElem_cons e5] at hl
        injection hl with w1 w2
        rw [w1]
        unfold inT
        rw [List.map_append]; rfl
      rw [hx]
      refine hR.snoc (fun j hj => (p1 j (by omega)).1) (fun j hj => (p1 j (by omega)).2.1) (fun j hj => (p1 j (by omega)).2.2) ?_ ?_ ?_
      · rw [hlt]; exact p2
      · rw [hlt]; exact p3
      · rw [hlt]; exact p4)
    exact ⟨M', by rw [hb]; exact a1, a2, p5.trans a4⟩
theorem m_inner {M : Mem} {li : List (Int32 × Int32)} (hl : li.length ≤ 10) (h1 : M 95 1 = nI li.length) (hS : SH (fun j => M 96 (10 + j)) (fun j => M 97 (10 + j)) li) : ∃ M', f_Mo_comesOfInner M = some M' ∧ RoIs M' (inT li) ∧ OuIs M' [] ∧ Out (fun c k => RoP c k ∨ (c = 91 ∧ k = 21)) M M' := by
  unfold f_Mo_comesOfInner
  rw [bn, bn, cl1, h1]
  obtain ⟨M', a1, a2, a4⟩ := m_innerL hl li 0 FU (mset (mset M 91 17 (nI li.length)) 91 21 0) rfl (Nat.zero_le _) (Nat.lt_trans (by omega) fu_lt) (by rw [ms_k _ _ (by decide), ms_s]) ⟨hS.1.same (fun j _ => by rw [ms_c _ _ (by decide), ms_c _ _ (by decide)]), hS.2.same (fun j _ => by rw [ms_c _ _ (by decide), ms_c _ _ (by decide)])⟩ (by rw [List.take_zero]; exact TH.nil)
  have o0 : Out (fun c k => RoP c k ∨ (c = 91 ∧ k = 21)) M (mset (mset M 91 17 (nI li.length)) 91 21 0) := (Out.set (Or.inl (by unfold RoP; omega))).trans (Out.set (Or.inr ⟨rfl, rfl⟩))
  exact ⟨M', a1, a2, ⟨by rw [a4 _ _ (by omega), ms_s]; rfl, Nat.zero_le _, TH.nil⟩, o0.trans (a4.mono (fun c k q => by unfold RoP; omega))⟩
