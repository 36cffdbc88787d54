-- ===== groups of the reference =====
def addG : List T3 → T3 → List T3
  | [], x => [(x.1, 1, x.2.2)]
  | y :: l, x => if y.1 = x.1 ∧ y.2.2 = x.2.2 then (y.1, y.2.1 + 1, y.2.2) :: l else y :: addG l x
def grp (l : List T3) : List T3 := l.foldl addG []
theorem addG_len : ∀ (l : List T3) (x : T3), (addG l x).length ≤ l.length + 1 := by
  intro l
  induction l with
  | nil => intro x; exact Nat.le_refl _
  | cons y l ih =>
    intro x
    unfold addG
    split
    · show l.length + 1 ≤ l.length + 1 + 1; omega
    · have := ih x; show (addG l x).length + 1 ≤ l.length + 1 + 1; omega
theorem addG_app : ∀ (pre suf : List T3) (x : T3), (∀ y, y ∈ pre → ¬ (y.1 = x.1 ∧ y.2.2 = x.2.2)) → addG (pre ++ suf) x = pre ++ addG suf x := by
  intro pre
  induction pre with
  | nil => intro suf x h; rfl
  | cons y pre ih =>
    intro suf x h
    show addG (y :: (pre ++ suf)) x = y :: (pre ++ addG suf x)
    unfold addG
    rw [if_neg (h y List.mem_cons_self), ih suf x (fun z hz => h z (List.mem_cons_of_mem _ hz))]
    cases suf <;> rfl
theorem TH.set2 {f g h g' : Nat → Int32} {pre suf : List T3} {y : T3} {v : Int32} (H : TH f g h (pre ++ y :: suf)) (hg : ∀ j, j ≠ pre.length → g' j = g j) (hv : g' pre.length = v) : TH f g' h (pre ++ (y.1, v, y.2.2) :: suf) := by
  refine ⟨?_, ?_, ?_⟩
  · have := H.1
    rw [List.map_append, List.map_cons] at this ⊢
    exact this
  · have := H.2.1
    rw [List.map_append, List.map_cons] at this ⊢
    exact AH_set this (fun j hj => hg j (by rw [List.length_map] at hj; exact hj)) (by rw [List.length_map]; exact hv)
  · have := H.2.2
    rw [List.map_append, List.map_cons] at this ⊢
    exact this
/-- one row given to its group -/
theorem m_group1 {x : T3} {i : Nat} (hi : i < 300) (k7 : Int32 → Mem → Option Mem) : ∀ (suf pre : List T3) (fuel : Nat) (M : Mem), (pre ++ suf).length < 300 → suf.length < fuel → RoIs M (pre ++ suf) → M 108 i = x.1 → M 110 i = x.2.2 → (∀ y, y ∈ pre → ¬ (y.1 = x.1 ∧ y.2.2 = x.2.2)) →
    ∃ M', f_Mo_groups_l17 k7 fuel (nI i) (nI pre.length) M = k7 (nI (i + 1)) M' ∧ RoIs M' (addG (pre ++ suf) x) ∧ Out RoP M M' := by
  have G : gin (nI i) 300 := gin_t hi (by decide)
  have hci : (nI i).toNatClampNeg = i := nI_clamp (by omega)
  intro suf
  induction suf with
  | nil =>
    intro pre fuel M hle hf hR h1 h2 hpre
    have hf : 0 < fuel := hf
    obtain ⟨g, rfl⟩ : ∃ g, fuel = g + 1 := ⟨fuel - 1, by omega⟩
    rw [List.append_nil] at hR hle ⊢
    have Gp : gin (nI pre.length) 300 := gin_t (by omega) (by decide)
    have hcp : (nI pre.length).toNatClampNeg = pre.length := nI_clamp (by omega)
    refine ⟨mset (mset (mset (mset (mset M 105 pre.length x.1) 107 pre.length x.2.2) 106 pre.length 0) 91 17 (nI (pre.length + 1))) 106 pre.length 1, ?_, ?_, ?_⟩
    · show f_Mo_groups_l17B k7 (f_Mo_groups_l17 k7 g) (nI i) (nI pre.length) M = _
      unfold f_Mo_groups_l17B f_Mo_groups_b61 f_Mo_groups_b110
      rw [hR.1, if_pos (Int32.le_refl _), if_pos rfl, if_pos G, if_pos Gp]
      simp only [hci, hcp]
      rw [bn, if_pos G, if_pos Gp, bn, if_pos Gp, bn, bn, if_pos Gp, if_pos Gp, bn, h1, ms_c _ _ (show 110 ≠ 105 by decide), h2, ms_c _ _ (show 91 ≠ 106 by decide), ms_c _ _ (show 91 ≠ 107 by decide), ms_c _ _ (show 91 ≠ 105 by decide), hR.1, nI_1, ms_c _ _ (show 106 ≠ 91 by decide), ms_s, nI_1]
      rfl
    · have hx : addG pre x = pre ++ [(x.1, 1, x.2.2)] := by
        have := addG_app pre [] x hpre
        rwa [List.append_nil] at this
      rw [hx]
      refine ⟨?_, ?_, ?_⟩
      · rw [ms_c _ _ (by decide), ms_s, List.length_append]; rfl
      · rw [List.length_append]; show pre.length + 1 ≤ 300; omega
      · refine hR.2.2.snoc (fun j hj => ?_) (fun j hj => ?_) (fun j hj => ?_) ?_ ?_ ?_
        · rw [ms_c _ _ (by decide), ms_c _ _ (by decide), ms_c _ _ (by decide), ms_c _ _ (by decide), ms_k _ _ (by omega)]
        · rw [ms_k _ _ (by omega), ms_c _ _ (by decide), ms_k _ _ (by omega), ms_c _ _ (by decide), ms_c _ _ (by decide)]
        · rw [ms_c _ _ (by decide), ms_c _ _ (by decide), ms_c _ _ (by decide), ms_k _ _ (by omega), ms_c _ _ (by decide)]
        · rw [ms_c _ _ (by decide), ms_c _ _ (by decide), ms_c _ _ (by decide), ms_c _ _ (by decide), ms_s]
        · rw [ms_s]
        · rw [ms_c _ _ (by decide), ms_c _ _ (by decide), ms_c _ _ (by decide), ms_s]
    · have o0 : ∀ (M : Mem) (c k : Nat) (v : Int32), RoP c k → Out RoP M (mset M c k v) := fun M c k v h => Out.set h
      exact (o0 _ _ _ _ (by unfold RoP; omega)).trans ((o0 _ _ _ _ (by unfold RoP; omega)).trans ((o0 _ _ _ _ (by unfold RoP; omega)).trans ((o0 _ _ _ _ (by unfold RoP; omega)).trans (o0 _ _ _ _ (by unfold RoP; omega)))))
  | cons y suf ih =>
    intro pre fuel M hle hf hR h1 h2 hpre
    have hf : suf.length + 1 < fuel := hf
    obtain ⟨g, rfl⟩ : ∃ g, fuel = g + 1 := ⟨fuel - 1, by omega⟩
    have hlen : (pre ++ y :: suf).length = pre.length + (suf.length + 1) := by rw [List.length_append]; rfl
    have Gp : gin (nI pre.length) 300 := gin_t (by omega) (by decide)
    have hcp : (nI pre.length).toNatClampNeg = pre.length := nI_clamp (by omega)
    obtain ⟨e1, e2, e3, _, _⟩ := hR.2.2.at (i := pre.length) (x := y) (r := suf) (by rw [List.drop_left])
    show ∃ M', f_Mo_groups_l17B k7 (f_Mo_groups_l17 k7 g) (nI i) (nI pre.length) M = _ ∧ _
    unfold f_Mo_groups_l17B f_Mo_groups_b55
    rw [hR.1, if_neg (fun q => by have := (nI_leI (by omega) (by omega)).mp q; omega), if_pos Gp, if_pos G]
    simp only [hci, hcp]
    rw [e1, h1]
    by_cases c : y.1 = x.1 ∧ y.2.2 = x.2.2
    · rw [if_pos c.1, if_pos Gp, if_pos G, e3, h2, if_pos c.2]
      unfold f_Mo_groups_b61 f_Mo_groups_b110
      rw [hR.1, if_neg (nI_ne (by omega) (by omega) (by omega)), if_pos Gp, if_pos Gp]
      simp only [hcp]
      rw [bn, e2, nI_1, addG_app pre (y :: suf) x hpre]
      refine ⟨_, rfl, ⟨?_, ?_, ?_⟩, Out.set (by unfold RoP; omega)⟩
      · unfold addG
        rw [if_pos c, ms_c _ _ (by decide), hR.1, List.length_append, List.length_append]
        rfl
      · unfold addG
        rw [if_pos c, List.length_append]
        show pre.length + (suf.length + 1) ≤ 300
        omega
      · unfold addG
        rw [if_pos c]
        refine TH.set2 (g := M 106) ?_ (fun j hj => by rw [ms_k _ _ hj]) (by rw [ms_s])
        exact hR.2.2.same (fun j _ => by rw [ms_c _ _ (by decide)]) (fun j _ => rfl) (fun j _ => by rw [ms_c _ _ (by decide)])
    · have hk : (if y.1 = x.1 then if gin (nI pre.length) 300 then if gin (nI i) 300 then if M 107 pre.length = M 110 i then f_Mo_groups_b61 k7 (nI i) (nI pre.length) M else f_Mo_groups_l17 k7 g (nI i) (nI pre.length + 1) M else none else none else f_Mo_groups_l17 k7 g (nI i) (nI pre.length + 1) M) = f_Mo_groups_l17 k7 g (nI i) (nI pre.length + 1) M := by
        by_cases c1 : y.1 = x.1
        · rw [if_pos c1, if_pos Gp, if_pos G, e3, h2, if_neg (fun q => c ⟨c1, q⟩)]
        · rw [if_neg c1]
      rw [hk, nI_1]
      have hpp : (pre ++ [y]).length = pre.length + 1 := by rw [List.length_append]; rfl
      have happ : pre ++ y :: suf = (pre ++ [y]) ++ suf := by rw [List.append_assoc]; rfl
      rw [happ] at hR hle ⊢
      rw [← hpp]
      exact ih (pre ++ [y]) g M hle (by omega) hR h1 h2 (fun z hz => by
        rcases List.mem_append.mp hz with q | q
        · exact hpre z q
        · rw [List.mem_singleton.mp q]; exact c)
theorem m_groupsL {L : List T3} (hL : L.length ≤ 299) : ∀ (l : List T3) (i fuel : Nat) (M : Mem) (a : List T3), l = L.drop i → i ≤ L.length → l.length < fuel → OuIs M L → RoIs M a → a.length ≤ i →
    ∃ M', f_Mo_groups_l7 fuel (nI i) M = some M' ∧ RoIs M' (l.foldl addG a) ∧ OuIs M' [] ∧ Out (fun c k => RoP c k ∨ (c = 91 ∧ k = 21)) M M' := by
  intro l
  induction l with
  | nil =>
    intro i fuel M a hl hi hf hO hR ha
    have hf : 0 < fuel := hf
    obtain ⟨g, rfl⟩ : ∃ g, fuel = g + 1 := ⟨fuel - 1, by omega⟩
    have hi2 := dnil hl
    refine ⟨mset M 91 21 0, ?_, ?_, ⟨by rw [ms_s]; rfl, Nat.zero_le _, TH.nil⟩, Out.set (Or.inr ⟨rfl, rfl⟩)⟩
    · show f_Mo_groups_l7B (f_Mo_groups_l7 g) (nI i) M = _
      unfold f_Mo_groups_l7B
      rw [hO.1, show i = L.length by omega, if_pos (Int32.le_refl _), bn]
    · have o0 : Out (fun c k => c = 91 ∧ k = 21) M (mset M 91 21 0) := Out.set ⟨rfl, rfl⟩
      exact hR.out o0 (fun c k q => by unfold RoP; omega)
  | cons x l ih =>
    intro i fuel M a hl hi hf hO hR ha
    have hf : l.length + 1 < fuel := hf
    obtain ⟨g, rfl⟩ : ∃ g, fuel = g + 1 := ⟨fuel - 1, by omega⟩
    obtain ⟨e1, e2, e3, e4, e5⟩ := hO.2.2.at hl
    show ∃ M', f_Mo_groups_l7B (f_Mo_groups_l7 g) (nI i) M = _ ∧ _
    unfold f_Mo_groups_l7B
    rw [hO.1, if_neg (fun q => by have := (nI_leI (by omega) (by omega)).mp q; omega)]
    obtain ⟨M1, a1, a2, a3⟩ := m_group1 (x := x) (i := i) (by omega) (f_Mo_groups_l7 g) a [] FU M (by show a.length < 300; omega) (Nat.lt_trans (by omega) fu_lt) hR e1 e3 (fun y hy => by cases hy)
    have a1 : f_Mo_groups_l17 (f_Mo_groups_l7 g) FU (nI i) 0 M = f_Mo_groups_l7 g (nI (i + 1)) M1 := a1
    rw [a1]
    have hal := addG_len a x
    obtain ⟨M2, b1, b2, b3, b4⟩ := ih (i + 1) g M1 (addG a x) e4 (by omega) (by omega) (hO.out a3 (fun c k q => by unfold RoP at q; unfold OuP; omega)) a2 (by omega)
    exact ⟨M2, b1, b2, b3, (a3.mono (fun c k q => Or.inl q)).trans b4⟩
theorem m_groups {M : Mem} {l : List T3} (hl : l.length ≤ 299) (h : OuIs M l) : ∃ M', f_Mo_groups M = some M' ∧ RoIs M' (grp l) ∧ OuIs M' [] ∧ Out (fun c k => RoP c k ∨ (c = 91 ∧ k = 21)) M M' := by
  unfold f_Mo_groups
  rw [bn]
  have o0 : Out (fun c k => RoP c k ∨ (c = 91 ∧ k = 21)) M (mset M 91 17 0) := Out.set (Or.inl (by unfold RoP; omega))
  have o1 : Out (fun c k => c = 91 ∧ k = 17) M (mset M 91 17 0) := Out.set ⟨rfl, rfl⟩
  obtain ⟨M', a1, a2, a3, a4⟩ := m_groupsL hl l 0 FU (mset M 91 17 0) [] rfl (Nat.zero_le _) (Nat.lt_trans (by omega) fu_lt) (h.out o1 (fun c k q => by unfold OuP; omega)) ⟨by rw [ms_s]; rfl, Nat.zero_le _, TH.nil⟩ (Nat.le_refl _)
  exact ⟨M', a1, a2, a3, o0.trans a4⟩
-- ===== whether a row is new =====
def HD : Type := Nat → List (Int32 × Int32)
def upH (h : HD) (j : Nat) (l : List (Int32 × Int32)) : HD := fun i => if i = j then l else h i
theorem upH_s (h : HD) (j : Nat) (l : List (Int32 × Int32)) : upH h j l j = l := if_pos rfl
theorem upH_n (h : HD) {i j : Nat} (l : List (Int32 × Int32)) (e : i ≠ j) : upH h j l i = h i := if_neg e
def HRel (M : Mem) (h : HD) : Prop := ∀ j, j < 12 → M 111 j = nI (h j).length ∧ (h j).length ≤ 40 ∧ SH (fun i => M 112 (40 * j + i)) (fun i => M 113 (40 * j + i)) (h j)
def HdP (c _k : Nat) : Prop := c = 111 ∨ c = 112 ∨ c = 113
theorem HRel.out {M M' : Mem} {h : HD} {P : Nat → Nat → Prop} (H : HRel M h) (o : Out P M M') (hp : ∀ c k, P c k → ¬ HdP c k) : HRel M' h := fun j hj => by
  obtain ⟨h1, h2, h3⟩ := H j hj
  have e : ∀ c k, HdP c k → M' c k = M c k := fun c k q => o c k (fun w => hp c k w q)
  exact ⟨by rw [e _ _ (by unfold HdP; omega)]; exact h1, h2, h3.1.same (fun i _ => e _ _ (by unfold HdP; omega)), h3.2.same (fun i _ => e _ _ (by unfold HdP; omega))⟩
theorem m_newL {h : HD} {j : Nat} (hj : j < 12) (hl : (h j).length < 40) {x : Int32 × Int32} : ∀ (l : List (Int32 × Int32)) (i fuel : Nat) (M : Mem) (n : Bool), l = (h j).drop i → i ≤ (h j).length → l.length < fuel → HRel M h → (n = false ↔ x ∈ (h j).take i) →
    ∃ M', f_Mo_isNew_l12 fuel (nI j) x.1 x.2 (nI (40 * j)) (if n then 1 else 0) (nI i) M = some (if x ∈ h j then 0 else 1, M') ∧ HRel M' (if x ∈ h j then h else upH h j (h j ++ [x])) ∧ Out HdP M M' := by
  intro l
  have Gj : gin (nI j) 12 := gin_t hj (by decide)
  have hcj : (nI j).toNatClampNeg = j := nI_clamp (by omega)
  induction l with
  | nil =>
    intro i fuel M n hd hi hf hH hn
    have hf : 0 < fuel := hf
    obtain ⟨g, rfl⟩ : ∃ g, fuel = g + 1 := ⟨fuel - 1, by omega⟩
    have hi2 := dnil hd
    rw [List.take_of_length_le hi2] at hn
    obtain ⟨q1, q2, q3⟩ := hH j hj
    have hadd : nI (40 * j) + nI (h j).length = nI (40 * j + (h j).length) := nI_add _ _
    have G4 : gin (nI (40 * j + (h j).length)) 480 := gin_t (by omega) (by decide)
    have hc4 : (nI (40 * j + (h j).length)).toNatClampNeg = 40 * j + (h j).length := nI_clamp (by omega)
    show ∃ M', f_Mo_isNew_l12B (f_Mo_isNew_l12 g) (nI j) x.1 x.2 (nI (40 * j)) (if n then 1 else 0) (nI i) M = _ ∧ _
    unfold f_Mo_isNew_l12B f_Mo_isNew_b114
    rw [if_pos Gj]
    simp only [hcj]
    rw [q1, show i = (h j).length by omega, if_pos (Int32.le_refl _)]
    cases n with
    | false =>
      have hx : x ∈ h j := hn.mp rfl
      rw [if_pos hx, if_pos hx]
      exact ⟨M, rfl, hH, Out.rfl⟩
    | true =>
      have hx : ¬ x ∈ h j := fun q => by have := hn.mpr q; cases this
      rw [if_neg hx, if_neg hx]
      rw [if_neg (show ¬ (if true = true then (1 : Int32) else 0) = 0 by decide), if_pos Gj, hadd, if_pos G4]
      simp only [hc4]
      rw [bn, if_pos Gj, ms_c _ _ (show 111 ≠ 112 by decide), q1, hadd, if_pos G4]
      simp only [hc4]
      rw [bn, if_pos Gj, if_pos Gj, bn, if_pos (by decide), ms_c _ _ (show 111 ≠ 113 by decide), ms_c _ _ (show 111 ≠ 112 by decide), q1, nI_1]
      refine ⟨_, rfl, ?_, ?_⟩
      · intro w hw
        by_cases e : w = j
        · subst e
          rw [upH_s]
          refine ⟨?_, ?_, ?_⟩
          · rw [ms_s, List.length_append]; rfl
          · rw [List.length_append]; show (h w).length + 1 ≤ 40; omega
          · refine q3.snoc (x := x.1) (y := x.2) (fun p hp => ?_) (fun p hp => ?_) ?_ ?_
            · rw [ms_c _ _ (by decide), ms_c _ _ (by decide), ms_k _ _ (by omega)]
            · rw [ms_c _ _ (by decide), ms_k _ _ (by omega), ms_c _ _ (by decide)]
            · rw [ms_c _ _ (by decide), ms_c _ _ (by decide), ms_s]
            · rw [ms_c _ _ (by decide), ms_s]
        · rw [upH_n _ _ e]
          obtain ⟨r1, r2, r3⟩ := hH w hw
          refine ⟨?_, r2, r3.1.same (fun p hp => ?_), r3.2.same (fun p hp => ?_)⟩
          · rw [ms_k _ _ e, ms_c _ _ (by decide), ms_c _ _ (by decide)]; exact r1
          · rw [List.length_map] at hp
            rw [ms_c _ _ (by decide), ms_c _ _ (by decide), ms_k _ _ (by omega)]
          · rw [List.length_map] at hp
            rw [ms_c _ _ (by decide), ms_k _ _ (by omega), ms_c _ _ (by decide)]
      · have o0 : ∀ (M : Mem) (c k : Nat) (v : Int32), HdP c k → Out HdP M (mset M c k v) := fun M c k v h => Out.set h
        exact (o0 _ _ _ _ (by unfold HdP; omega)).trans ((o0 _ _ _ _ (by unfold HdP; omega)).trans (o0 _ _ _ _ (by unfold HdP; omega)))
  | cons y l ih =>
    intro i fuel M n hd hi hf hH hn
    have hf : l.length + 1 < fuel := hf
    obtain ⟨g, rfl⟩ : ∃ g, fuel = g + 1 := ⟨fuel - 1, by omega⟩
    obtain ⟨q1, q2, q3⟩ := hH j hj
    obtain ⟨e1, e2, e3, e4⟩ := q3.at hd
    have e1 : M 112 (40 * j + i) = y.1 := e1
    have e2 : M 113 (40 * j + i) = y.2 := e2
    have hadd : nI (40 * j) + nI i = nI (40 * j + i) := nI_add _ _
    have G4 : gin (nI (40 * j + i)) 480 := gin_t (by omega) (by decide)
    have hc4 : (nI (40 * j + i)).toNatClampNeg = 40 * j + i := nI_clamp (by omega)
    have htk : (h j).take (i + 1) = (h j).take i ++ [y] := by
      rw [List.take_add_one, List.getElem?_eq_getElem e4]
      rw [List.drop_eq_getElem_cons e4] at hd
      injection hd with w1 w2
      rw [w1]; rfl
    show ∃ M', f_Mo_isNew_l12B (f_Mo_isNew_l12 g) (nI j) x.1 x.2 (nI (40 * j)) (if n then 1 else 0) (nI i) M = _ ∧ _
    have hb : f_Mo_isNew_l12B (f_Mo_isNew_l12 g) (nI j) x.1 x.2 (nI (40 * j)) (if n then 1 else 0) (nI i) M = f_Mo_isNew_l12 g (nI j) x.1 x.2 (nI (40 * j)) (if (n && !decide (y = x)) then 1 else 0) (nI (i + 1)) M := by
      unfold f_Mo_isNew_l12B f_Mo_isNew_b60 f_Mo_isNew_b56 f_Mo_isNew_b61
      rw [if_pos Gj]
      simp only [hcj]
      rw [q1, if_neg (fun q => by have := (nI_leI (by omega) (by omega)).mp q; omega), nI_1]
      cases n with
      | false => rfl
      | true =>
        rw [if_neg (show ¬ (if true = true then (1 : Int32) else 0) = 0 by decide), hadd, if_pos G4, if_pos G4]
        simp only [hc4]
        rw [e1, e2]
        by_cases c : y = x
        · rw [if_pos (by rw [c]), if_pos (by rw [c]), decide_eq_true c]; rfl
        · rw [decide_eq_false c]
          by_cases c1 : y.1 = x.1
          · rw [if_pos c1, if_neg (fun q => c (Prod.ext c1 q))]; rfl
          · rw [if_neg c1]; rfl
    rw [hb]
    refine ih (i + 1) g M (n && !decide (y = x)) e3 (by omega) (by omega) hH ?_
    rw [htk, List.mem_append, List.mem_singleton, ← hn]
    cases n <;> by_cases c : y = x
    · simp
    · simp
    · simp [c]
    · have c' : ¬ x = y := fun q => c q.symm
      simp [c, c']
theorem m_isNew {M : Mem} {h : HD} {j : Nat} {x : Int32 × Int32} (hj : j < 12) (hl : (h j).length < 40) (hH : HRel M h) : ∃ M', f_Mo_isNew M (nI j) x.1 x.2 = some (if x ∈ h j then 0 else 1, M') ∧ HRel M' (if x ∈ h j then h else upH h j (h j ++ [x])) ∧ Out HdP M M' := by
  unfold f_Mo_isNew
  rw [bn, show (40 : Int32) = nI 40 from rfl, pk_mul]
  exact m_newL hj hl (h j) 0 FU M true rfl (Nat.zero_le _) (Nat.lt_trans (by omega) fu_lt) hH (by rw [List.take_zero]; exact ⟨fun q => absurd q (by decide), fun q => absurd q List.not_mem_nil⟩)
