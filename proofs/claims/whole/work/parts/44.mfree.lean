-- ===== all steps of the reference, free =====
theorem VP.app {n : Nat} {a b : List T3} (h1 : VP n a) (h2 : VP n b) : VP n (a ++ b) := fun r hr => (List.mem_append.mp hr).elim (h1 r) (h2 r)
theorem VP_bs1 {n : Nat} {c f : Int32} {ps : List (Int32 × Int32)} {out : List T3} {r : T3} (h1 : VP n out) (h2 : r.2.2 = -1 ∨ ∃ q, q < n ∧ r.2.2 = nI q) : VP n (bs1 c f ps out r) := by
  have hs : ∀ v, VP n (out ++ [(r.1, v, r.2.2)]) := fun v => h1.app (fun x hx => by rw [List.mem_singleton.mp hx]; exact h2)
  unfold bs1
  split
  · exact h1
  · split
    · split
      · exact h1
      · exact hs _
    · exact hs _
theorem VP_bsf {n : Nat} {c f : Int32} {ps : List (Int32 × Int32)} : ∀ (rows out : List T3), VP n out → VP n rows → VP n (rows.foldl (bs1 c f ps) out) := by
  intro rows
  induction rows with
  | nil => intro out h _; exact h
  | cons x rows ih =>
    intro out h h2
    exact ih _ (VP_bs1 h (h2 x List.mem_cons_self)) (fun r hr => h2 r (List.mem_cons_of_mem _ hr))
theorem VP_addG {n : Nat} : ∀ (l : List T3) (x : T3), VP n l → (x.2.2 = -1 ∨ ∃ q, q < n ∧ x.2.2 = nI q) → VP n (addG l x) := by
  intro l
  induction l with
  | nil => intro x h hx r hr; rw [List.mem_singleton.mp hr]; exact hx
  | cons y l ih =>
    intro x h hx
    unfold addG
    split
    · intro r hr
      rcases List.mem_cons.mp hr with q | q
      · rw [q]; exact h y List.mem_cons_self
      · exact h r (List.mem_cons_of_mem _ q)
    · intro r hr
      rcases List.mem_cons.mp hr with q | q
      · rw [q]; exact h y List.mem_cons_self
      · exact ih x (fun z hz => h z (List.mem_cons_of_mem _ hz)) hx r q
theorem VP_grp {n : Nat} : ∀ (l a : List T3), VP n a → VP n l → VP n (l.foldl addG a) := by
  intro l
  induction l with
  | nil => intro a h _; exact h
  | cons x l ih =>
    intro a h h2
    exact ih _ (VP_addG a x h (h2 x List.mem_cons_self)) (fun r hr => h2 r (List.mem_cons_of_mem _ hr))
theorem VP_prT {n : Nat} : ∀ (l : List (Int32 × Int32)) (i : Nat), i + l.length ≤ n → VP n (prT i l) := by
  intro l
  induction l with
  | nil => intro i _ r hr; cases hr
  | cons x l ih =>
    intro i h r hr
    have h : i + (l.length + 1) ≤ n := h
    rcases List.mem_cons.mp hr with q | q
    · rw [q]; exact Or.inr ⟨i, by omega, rfl⟩
    · exact ih (i + 1) (by omega) r q
theorem VP_jnT {n : Nat} {h : Int32} {x : T3} : ∀ (l : List (Int32 × Int32)) (i : Nat), i + l.length ≤ n → VP n (jnT h x i l) := by
  intro l
  induction l with
  | nil => intro i _ r hr; cases hr
  | cons y l ih =>
    intro i hi
    have hi : i + (l.length + 1) ≤ n := hi
    have hc : VP n ((x.1, x.2.1, nI i) :: jnT h x (i + 1) l) := fun r hr => by
      rcases List.mem_cons.mp hr with q | q
      · rw [q]; exact Or.inr ⟨i, by omega, rfl⟩
      · exact ih (i + 1) (by omega) r q
    unfold jnT
    split
    · exact hc
    · split
      · exact ih (i + 1) (by omega)
      · exact hc
theorem VP_jnA {h : Int32} {ps : List (Int32 × Int32)} {rows : List T3} : VP ps.length (jnA h ps rows) := fun r hr => by
  unfold jnA at hr
  obtain ⟨x, _, hx⟩ := List.mem_flatMap.mp hr
  exact VP_jnT ps 0 (by omega) r hx
theorem VP_bst {c f : Int32} {ps : List (Int32 × Int32)} {rows : List T3} (h : VP ps.length rows) : VP ps.length (bst c f ps rows) := by
  have h1 : VP ps.length (rows.foldl (bs1 c f ps) []) := VP_bsf rows [] (fun r hr => by cases hr) h
  unfold bst
  split
  · exact h1.app (VP_prT ps 0 (by omega))
  · split
    · exact VP_grp _ [] (fun r hr => by cases hr) h1
    · exact h1
theorem bst_len {c f : Int32} {ps : List (Int32 × Int32)} {rows : List T3} : (bst c f ps rows).length ≤ rows.length + ps.length ∧ (¬ c = 4 → (bst c f ps rows).length ≤ rows.length) := by
  have h1 := bsf_len (c := c) (f := f) (ps := ps) rows []
  have h0 : ([] : List T3).length = 0 := rfl
  have h2 := grp_len (rows.foldl (bs1 c f ps) []) []
  unfold bst
  by_cases c4 : c = 4
  · rw [if_pos c4]
    exact ⟨by rw [List.length_append, prT_len]; omega, fun q => absurd c4 q⟩
  · rw [if_neg c4]
    by_cases c6 : c = 6
    · rw [if_pos c6]
      unfold grp
      exact ⟨by omega, fun _ => by omega⟩
    · rw [if_neg c6]
      exact ⟨by omega, fun _ => by omega⟩
theorem jnA_len {h : Int32} {ps : List (Int32 × Int32)} (hp : ps.length ≤ 10) : ∀ (rows : List T3), (jnA h ps rows).length ≤ rows.length * 10 := by
  intro rows
  induction rows with
  | nil => exact Nat.le_refl _
  | cons x rows ih =>
    have h1 := jnT_len (h := h) (r := x) ps 0
    unfold jnA at ih ⊢
    rw [List.flatMap_cons, List.length_append]
    show _ ≤ (rows.length + 1) * 10
    omega
/-- the rows after all steps, and the rows handed on -/
def frR (ja : Option Nat) (ps : List (Int32 × Int32)) : Nat → List (Int32 × Int32) → List T3 → Int32 → List T3 × Int32
  | i, [], rows, hd => if ja = some i then (jnA 0 ps rows, hd + nI (jnA 0 ps rows).length) else (rows, hd)
  | i, x :: l, rows, hd =>
    if ja = some i then
      (if x.1 = 1 then frR ja ps (i + 1) l (jnA 1 ps rows) (hd + nI (jnA 1 ps rows).length)
       else frR ja ps (i + 1) l (bst x.1 x.2 ps (jnA 0 ps rows)) (hd + nI (jnA 0 ps rows).length + nI (bst x.1 x.2 ps (jnA 0 ps rows)).length))
    else frR ja ps (i + 1) l (bst x.1 x.2 ps rows) (hd + nI (bst x.1 x.2 ps rows).length)
/-- one step done, and its rows come in -/
theorem m_doIn {M : Mem} {L ps : List (Int32 × Int32)} {rows : List T3} {sk : Int32} {j : Nat} {x : Int32 × Int32} (hj : j < L.length) (hx : fs1 L j = x.1 ∧ fs2 L j = x.2) (hV : VP ps.length rows) (hS : StM M L sk) (hD : DoIs M ps) (hR : RoIs M rows) (hO : OuIs M []) (hl : rows.length + ps.length ≤ 299) :
    ∃ M', ((f_Mo_does M (nI j)).bind fun q39 => f_Mo_comesIn q39) = some M' ∧ RoIs M' (bst x.1 x.2 ps rows) ∧ OuIs M' [] ∧ M' 91 28 = M 91 28 + nI (bst x.1 x.2 ps rows).length ∧ Out DsP M M' := by
  obtain ⟨M1, a1, a2, a3, a4⟩ := m_does hj hV hS hD hR hO hl
  rw [hx.1, hx.2] at a2 a3
  obtain ⟨M2, b1, b2, b3, b4⟩ := m_comesIn a2
  refine ⟨M2, by rw [a1, Option.bind_some, b1], b2, b3, ?_, a4.trans (b4.mono (fun c k q => ?_))⟩
  · rw [b4 _ _ (by unfold RoP; omega)]; exact a3
  · rcases q with q | q
    · exact Or.inr (Or.inl q)
    · exact Or.inl (Or.inr (Or.inr (Or.inr q)))
theorem m_joIn {M : Mem} {ps : List (Int32 × Int32)} {rows : List T3} {h : Int32} (hr : rows.length ≤ 10) (hD : DoIs M ps) (hR : RoIs M rows) (hO : OuIs M []) :
    ∃ M', ((f_Mo_joins M h).bind fun q39 => f_Mo_comesIn q39) = some M' ∧ RoIs M' (jnA h ps rows) ∧ OuIs M' [] ∧ M' 91 28 = M 91 28 + nI (jnA h ps rows).length ∧ Out DsP M M' := by
  obtain ⟨M1, a1, a2, a3, a4⟩ := m_joins hr hD hR hO
  obtain ⟨M2, b1, b2, b3, b4⟩ := m_comesIn a2
  refine ⟨M2, by rw [a1, Option.bind_some, b1], b2, b3, ?_, a4.trans (b4.mono (fun c k q => ?_))⟩
  · rw [b4 _ _ (by unfold RoP; omega)]; exact a3
  · rcases q with q | q
    · exact Or.inr (Or.inl q)
    · exact Or.inl (Or.inr (Or.inr (Or.inr q)))
theorem bnd2 {α : Type} {a : Option Mem} {f : Mem → Option Mem} {g : Mem → Option α} {M : Mem} (h : (a.bind fun q => f q) = some M) : (a.bind fun q => (f q).bind g) = g M := by
  cases a with
  | none => cases h
  | some q =>
    have h : f q = some M := h
    rw [Option.bind_some, h, Option.bind_some]
theorem m_stepsF {L ps : List (Int32 × Int32)} {sk : Int32} {ja : Option Nat} (hja : ∀ k, ja = some k → k ≤ L.length) (hpre : ∀ i x, L[i]? = some x → (∀ k, ja = some k → i < k) → ¬ x.1 = 4) : ∀ (l : List (Int32 × Int32)) (i fuel : Nat) (M : Mem) (rows : List T3), l = L.drop i → i ≤ L.length → l.length + 1 < fuel → StM M L sk → DoIs M ps → RoIs M rows → OuIs M [] → VP ps.length rows → rows.length ≤ 100 + 10 * i → ((∀ k, ja = some k → i ≤ k) → rows.length ≤ 10) →
    ∃ M', f_Mo_free_l67 fuel (jnI ja) (nI i) M = (bnd (mset M' 91 21 (M' 91 17)) fun M8 => f_Mo_free_l155 FU (jnI ja) 0 M8) ∧ RoIs M' (frR ja ps i l rows (M 91 28)).1 ∧ OuIs M' [] ∧ M' 91 28 = (frR ja ps i l rows (M 91 28)).2 ∧ VP ps.length (frR ja ps i l rows (M 91 28)).1 ∧ Out DsP M M' := by
  have nS : ∀ c k, DsP c k → ¬ ((c = 91 ∧ (k = 6 ∨ k = 11)) ∨ c = 98 ∨ c = 99) := fun c k q => by unfold DsP OuP RoP at q; omega
  have nD : ∀ c k, (c = 114 ∨ c = 115 ∨ (c = 91 ∧ k = 31)) → ¬ DsP c k := fun c k h q => by unfold DsP OuP RoP at q; omega
  have dow : ∀ {M M' : Mem}, DoIs M ps → Out DsP M M' → DoIs M' ps := fun h o => ⟨by rw [o _ _ (nD _ _ (by omega))]; exact h.1, h.2.1, h.2.2.1.same (fun q _ => o _ _ (nD _ _ (by omega))), h.2.2.2.same (fun q _ => o _ _ (nD _ _ (by omega)))⟩
  intro l
  induction l with
  | nil =>
    intro i fuel M rows hl hi hf hS hD hR hO hV hr1 hr2
    have hL := hS.1
    have hf : 0 + 1 < fuel := hf
    obtain ⟨g, rfl⟩ : ∃ g, fuel = g + 1 + 1 := ⟨fuel - 2, by omega⟩
    have hi2 := dnil hl
    have hja2 : ∀ k, ja = some k → k < 2 ^ 31 := fun k h => by have := hja k h; omega
    have fin : ∀ (M : Mem), StM M L sk → f_Mo_free_l67 (g + 1) (jnI ja) (nI (L.length + 1)) M = (bnd (mset M 91 21 (M 91 17)) fun M8 => f_Mo_free_l155 FU (jnI ja) 0 M8) := fun M hS => by
      show f_Mo_free_l67B (f_Mo_free_l67 g) (jnI ja) (nI (L.length + 1)) M = _
      unfold f_Mo_free_l67B
      rw [hS.2.1, if_pos ((nI_ltI (by omega) (by omega)).mpr (by omega))]
    show ∃ M', f_Mo_free_l67B (f_Mo_free_l67 (g + 1)) (jnI ja) (nI i) M = _ ∧ _
    unfold f_Mo_free_l67B f_Mo_free_b97 f_Mo_free_b98 frR
    rw [hS.2.1, show i = L.length by omega, if_neg (fun q => by have := (nI_ltI (by omega) (by omega)).mp q; omega), if_pos (Int32.le_refl _)]
    by_cases e : ja = some L.length
    · have e' : nI L.length = jnI ja := (jnI_eq (by omega) hja2).mpr e
      rw [if_pos e', if_pos e]
      obtain ⟨M1, a1, a2, a3, a4, a5⟩ := m_joIn (h := 0) (hr2 (fun k hk => by rw [e] at hk; injection hk with hk; omega)) hD hR hO
      have hS1 := hS.out a5 nS
      rw [bnd2 a1]
      unfold f_Mo_free_b113 f_Mo_free_b139
      rw [hS1.2.1, if_pos (Int32.le_refl _), nI_1]
      exact ⟨M1, fin M1 hS1, a2, a3, a4, VP_jnA, a5⟩
    · have e' : ¬ nI L.length = jnI ja := fun q => e ((jnI_eq (by omega) hja2).mp q)
      rw [if_neg e', if_neg e]
      unfold f_Mo_free_b113 f_Mo_free_b139
      rw [hS.2.1, if_pos (Int32.le_refl _), nI_1]
      exact ⟨M, fin M hS, hR, hO, rfl, hV, Out.rfl⟩
  | cons x l ih =>
    intro i fuel M rows hl hi hf hS hD hR hO hV hr1 hr2
    have hL := hS.1
    have hd := hD.2.1
    have hf : l.length + 1 + 1 < fuel := hf
    obtain ⟨g, rfl⟩ : ∃ g, fuel = g + 1 := ⟨fuel - 1, by omega⟩
    obtain ⟨e1, e2, e3, e4⟩ := hS.2.2.1.at hl
    have hxx : fs1 L i = x.1 ∧ fs2 L i = x.2 := by
      obtain ⟨w1, w2⟩ := hS.2.2.1.fs e4
      exact ⟨w1.symm.trans e1, w2.symm.trans e2⟩
    have hLi : L[i]? = some x := by
      rw [List.drop_eq_getElem_cons e4] at hl
      injection hl with w1 w2
      rw [List.getElem?_eq_getElem e4, w1]
    have hja2 : ∀ k, ja = some k → k < 2 ^ 31 := fun k h => by have := hja k h; omega
    have G : gin (nI i) 12 := gin_t (by omega) (by decide)
    have hci : (nI i).toNatClampNeg = i := nI_clamp (by omega)
    have h6 : ∀ (M : Mem), StM M L sk → ¬ M 91 6 ≤ nI i := fun M hS q => by rw [hS.2.1] at q; have := (nI_leI (by omega) (by omega)).mp q; omega
    show ∃ M', f_Mo_free_l67B (f_Mo_free_l67 g) (jnI ja) (nI i) M = _ ∧ _
    unfold f_Mo_free_l67B f_Mo_free_b97 frR
    rw [hS.2.1, if_neg (fun q => by have := (nI_ltI (by omega) (by omega)).mp q; omega), if_neg (fun q => by have := (nI_leI (by omega) (by omega)).mp q; omega), if_pos G, hci, e1]
    by_cases e : ja = some i
    · have e' : nI i = jnI ja := (jnI_eq (by omega) hja2).mpr e
      have hr10 := hr2 (fun k hk => by rw [e] at hk; injection hk with hk; omega)
      have nb : ¬ ∀ k, ja = some k → i + 1 ≤ k := fun h => by have := h i e; omega
      rw [if_pos e]
      by_cases c1 : x.1 = 1
      · rw [if_pos c1, if_pos c1]
        unfold f_Mo_free_b98
        rw [if_pos e']
        obtain ⟨M1, a1, a2, a3, a4, a5⟩ := m_joIn (h := 1) hr10 hD hR hO
        have hS1 := hS.out a5 nS
        rw [bnd2 a1]
        unfold f_Mo_free_b113 f_Mo_free_b139
        rw [if_neg (h6 M1 hS1), if_pos e', if_neg (by decide), nI_1]
        have hjl := jnA_len (h := 1) hd rows
        obtain ⟨M2, b1, b2, b3, b4, b5, b6⟩ := ih (i + 1) g M1 _ e3 (by omega) (by omega) hS1 (dow hD a5) a2 a3 VP_jnA (by omega) (fun h => absurd h nb)
        rw [a4] at b2 b4 b5
        exact ⟨M2, b1, b2, b3, b4, b5, a5.trans b6⟩
      · rw [if_neg c1, if_neg c1]
        unfold f_Mo_free_b98
        rw [if_pos e']
        obtain ⟨M1, a1, a2, a3, a4, a5⟩ := m_joIn (h := 0) hr10 hD hR hO
        have hS1 := hS.out a5 nS
        rw [bnd2 a1]
        unfold f_Mo_free_b113 f_Mo_free_b130 f_Mo_free_b139
        rw [if_neg (h6 M1 hS1), if_pos e', if_pos rfl]
        have hjl := jnA_len (h := 0) hd rows
        obtain ⟨M2, c1', c2, c3, c4, c5⟩ := m_doIn e4 hxx VP_jnA hS1 (dow hD a5) a2 a3 (by omega)
        rw [bnd2 c1', nI_1]
        have hbl := (bst_len (c := x.1) (f := x.2) (ps := ps) (rows := jnA 0 ps rows)).1
        obtain ⟨M3, b1, b2, b3, b4, b5, b6⟩ := ih (i + 1) g M2 _ e3 (by omega) (by omega) (hS1.out c5 nS) (dow (dow hD a5) c5) c2 c3 (VP_bst VP_jnA) (by omega) (fun h => absurd h nb)
        rw [c4, a4] at b2 b4 b5
        exact ⟨M3, b1, b2, b3, b4, b5, a5.trans (c5.trans b6)⟩
    · have e' : ¬ nI i = jnI ja := fun q => e ((jnI_eq (by omega) hja2).mp q)
      rw [if_neg e]
      have hgo : (if x.1 = 1 then f_Mo_free_b98 (f_Mo_free_l67 g) (jnI ja) (nI i) 1 M else f_Mo_free_b98 (f_Mo_free_l67 g) (jnI ja) (nI i) 0 M) = f_Mo_free_b130 (f_Mo_free_l67 g) (jnI ja) (nI i) M := by
        unfold f_Mo_free_b98 f_Mo_free_b113
        simp only [if_neg e', if_neg (h6 M hS)]
        split <;> rfl
      rw [hgo]
      unfold f_Mo_free_b130 f_Mo_free_b139
      obtain ⟨M2, c1', c2, c3, c4, c5⟩ := m_doIn e4 hxx hV hS hD hR hO (by omega)
      rw [bnd2 c1', nI_1]
      have hbl := bst_len (c := x.1) (f := x.2) (ps := ps) (rows := rows)
      have hb1 := hbl.1
      obtain ⟨M3, b1, b2, b3, b4, b5, b6⟩ := ih (i + 1) g M2 _ e3 (by omega) (by omega) (hS.out c5 nS) (dow hD c5) c2 c3 (VP_bst hV) (by omega) (fun h => by
        have h10 := hr2 (fun k hk => by have := h k hk; omega)
        have := hbl.2 (hpre i x hLi (fun k hk => by have := h k hk; omega))
        omega)
      rw [c4] at b2 b4 b5
      exact ⟨M3, b1, b2, b3, b4, b5, c5.trans b6⟩
