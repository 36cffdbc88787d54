-- ===== courses =====
def CoIs (c : Nat) (M : Mem) (l : List (Int32 × Int32)) (jn : Int32) : Prop := M c 2 = nI l.length ∧ l.length ≤ 14 ∧ SH (M (c + 1)) (M (c + 2)) l ∧ M c 3 = jn
def CoP (c c' k : Nat) : Prop := c' = c + 1 ∨ c' = c + 2 ∨ (c' = c ∧ (k = 2 ∨ k = 3))
theorem u_coAdd {c : Nat} {M : Mem} {l : List (Int32 × Int32)} {jn x y : Int32} (h : CoIs c M l jn) (hl : l.length < 14) : ∃ M', f_Course_add c M x y = some M' ∧ CoIs c M' (l ++ [(x, y)]) jn ∧ Out (CoP c) M M' := by
  have hc : (nI l.length).toNatClampNeg = l.length := nI_clamp (by omega)
  refine ⟨mset (mset (mset M (c + 1) l.length x) (c + 2) l.length y) c 2 (nI (l.length + 1)), ?_, ⟨?_, ?_, ?_, ?_⟩, ?_⟩
  · unfold f_Course_add
    rw [h.1, if_neg (fun q => by have := (nI_leI (a := 14) (by decide) (by omega)).mp q; omega), if_pos (gin_t hl (by decide)), hc, bn, ms_c _ _ (by omega), h.1, if_pos (gin_t hl (by decide)), hc, bn, ms_c _ _ (by omega), ms_c _ _ (by omega), h.1, nI_1, bn]
  · rw [ms_s, List.length_append]; rfl
  · rw [List.length_append]; show l.length + 1 ≤ 14; omega
  · refine h.2.2.1.snoc (fun j hj => ?_) (fun j hj => ?_) ?_ ?_
    · rw [ms_c _ _ (by omega), ms_c _ _ (by omega), ms_k _ _ (by omega)]
    · rw [ms_c _ _ (by omega), ms_k _ _ (by omega), ms_c _ _ (by omega)]
    · rw [ms_c _ _ (by omega), ms_c _ _ (by omega), ms_s]
    · rw [ms_c _ _ (by omega), ms_s]
  · rw [ms_k _ _ (by decide), ms_c _ _ (by omega), ms_c _ _ (by omega)]; exact h.2.2.2
  · exact (Out.set (Or.inl rfl)).trans ((Out.set (Or.inr (Or.inl rfl))).trans (Out.set (Or.inr (Or.inr ⟨rfl, Or.inl rfl⟩))))
theorem u_coBegin {c : Nat} {M : Mem} : ∃ M', f_Course_begin c M = some M' ∧ CoIs c M' [(0, -1)] (-1) ∧ Out (CoP c) M M' := by
  unfold f_Course_begin
  rw [bn, bn]
  have h0 : CoIs c (mset (mset M c 2 0) c 3 (-1)) [] (-1) := ⟨by rw [ms_k _ _ (by decide), ms_s]; rfl, Nat.zero_le _, ⟨AH.nil, AH.nil⟩, by rw [ms_s]⟩
  obtain ⟨M', a1, a2, a3⟩ := u_coAdd (x := 0) (y := -1) h0 (by decide)
  have o0 : Out (CoP c) M (mset (mset M c 2 0) c 3 (-1)) := (Out.set (Or.inr (Or.inr ⟨rfl, Or.inl rfl⟩))).trans (Out.set (Or.inr (Or.inr ⟨rfl, Or.inr rfl⟩)))
  exact ⟨M', by rw [a1, Option.bind_some], a2, o0.trans a3⟩
theorem u_coJoin {c : Nat} {M : Mem} {l : List (Int32 × Int32)} {jn x : Int32} (h : CoIs c M l jn) (hl : l.length < 14) : ∃ M', f_Course_addJoin c M x = some M' ∧ CoIs c M' (l ++ [(x, -1)]) (nI l.length) ∧ Out (CoP c) M M' := by
  unfold f_Course_addJoin
  rw [bn, h.1]
  have h0 : CoIs c (mset M c 3 (nI l.length)) l (nI l.length) := ⟨by rw [ms_k _ _ (by decide)]; exact h.1, h.2.1, ⟨h.2.2.1.1.same (fun j _ => by rw [ms_c _ _ (by omega)]), h.2.2.1.2.same (fun j _ => by rw [ms_c _ _ (by omega)])⟩, by rw [ms_s]⟩
  obtain ⟨M', a1, a2, a3⟩ := u_coAdd (x := x) (y := -1) h0 hl
  have o0 : Out (CoP c) M (mset M c 3 (nI l.length)) := Out.set (Or.inr (Or.inr ⟨rfl, Or.inr rfl⟩))
  exact ⟨M', by rw [a1, Option.bind_some], a2, o0.trans a3⟩
theorem StpIs.out {M M' : Mem} {fl : Int32} {l : List (Int32 × Int32)} {P : Nat → Nat → Prop} (h : StpIs M fl l) (o : Out P M M') (hp : ∀ c k, P c k → ¬ (10 ≤ c ∧ c ≤ 12)) : StpIs M' fl l := by
  have e : ∀ c k, 10 ≤ c ∧ c ≤ 12 → M' c k = M c k := fun c k hc => o c k (fun q => hp c k q hc)
  exact ⟨by rw [e 10 3 (by omega)]; exact h.1, by rw [e 10 2 (by omega)]; exact h.2.1, h.2.2.1.same (fun j _ => e 11 j (by omega)), h.2.2.2.same (fun j _ => e 12 j (by omega))⟩
theorem StpIs.at {M : Mem} {fl : Int32} {l : List (Int32 × Int32)} (h : StpIs M fl l) {i : Nat} {x : Int32 × Int32} {r : List (Int32 × Int32)} (hr : x :: r = l.drop i) : M 11 i = x.1 ∧ M 12 i = x.2 ∧ r = l.drop (i + 1) ∧ i < l.length := by
  have hi : i < l.length := by
    rcases Nat.lt_or_ge i l.length with q | q
    · exact q
    · rw [List.drop_eq_nil_of_le q] at hr; cases hr
  rw [List.drop_eq_getElem_cons hi] at hr
  injection hr with e1 e2
  refine ⟨?_, ?_, e2, hi⟩
  · rw [h.2.2.1 i (by rw [List.length_map]; exact hi), e1]
    simp [List.getD_eq_getElem?_getD, hi]
  · rw [h.2.2.2 i (by rw [List.length_map]; exact hi), e1]
    simp [List.getD_eq_getElem?_getD, hi]
/-- the steps but the one at a place -/
def skp (sk : Int32) : Nat → List (Int32 × Int32) → List (Int32 × Int32)
  | _, [] => []
  | i, x :: l => if nI i = sk then skp sk (i + 1) l else x :: skp sk (i + 1) l
theorem skp_len (sk : Int32) : ∀ (l : List (Int32 × Int32)) (i : Nat), (skp sk i l).length ≤ l.length := by
  intro l
  induction l with
  | nil => intro i; exact Nat.le_refl _
  | cons x l ih =>
    intro i
    unfold skp
    split
    · have := ih (i + 1); show _ ≤ l.length + 1; omega
    · have := ih (i + 1); show (skp sk (i + 1) l).length + 1 ≤ l.length + 1; omega
theorem u_layRL {c : Nat} (hc : 12 < c) {sk fl : Int32} {L : List (Int32 × Int32)} (hL : L.length ≤ 12) : ∀ (l : List (Int32 × Int32)) (i fuel : Nat) (M : Mem) (a : List (Int32 × Int32)), l = L.drop i → i ≤ L.length → l.length < fuel → StpIs M fl L → CoIs c M a (-1) → a.length ≤ i + 1 →
    ∃ M', f_Course_layRowByRow_l6 c fuel sk (nI i) M = some M' ∧ CoIs c M' (a ++ skp sk i l) (-1) ∧ Out (CoP c) M M' := by
  intro l
  induction l with
  | nil =>
    intro i fuel M a hl hi hf hS hA ha
    have hf : 0 < fuel := hf
    obtain ⟨g, rfl⟩ : ∃ g, fuel = g + 1 := ⟨fuel - 1, by omega⟩
    have hi : L.length ≤ i := by
      rcases Nat.lt_or_ge i L.length with q | q
      · rw [List.drop_eq_getElem_cons q] at hl; cases hl
      · exact q
    refine ⟨M, ?_, by unfold skp; rw [List.append_nil]; exact hA, Out.rfl⟩
    show f_Course_layRowByRow_l6B c (f_Course_layRowByRow_l6 c g) sk (nI i) M = _
    unfold f_Course_layRowByRow_l6B
    rw [hS.2.1, show i = L.length by omega, if_pos (Int32.le_refl _)]
  | cons x l ih =>
    intro i fuel M a hl hi hf hS hA ha
    have hf : l.length + 1 < fuel := hf
    obtain ⟨g, rfl⟩ : ∃ g, fuel = g + 1 := ⟨fuel - 1, by omega⟩
    obtain ⟨h1, h2, h3, h4⟩ := hS.at hl
    have G : gin (nI i) 12 := gin_t (by omega) (by decide)
    show ∃ M', f_Course_layRowByRow_l6B c (f_Course_layRowByRow_l6 c g) sk (nI i) M = _ ∧ _
    unfold f_Course_layRowByRow_l6B f_Course_layRowByRow_b35 skp
    rw [hS.2.1, if_neg (fun q => by have := (nI_leI (by omega) (by omega)).mp q; omega)]
    by_cases e : nI i = sk
    · rw [if_pos e, if_pos e, nI_1]
      exact ih (i + 1) g M a h3 (by omega) (by omega) hS hA (by omega)
    · rw [if_neg e, if_neg e, if_pos G, if_pos G, nI_clamp (by omega), h1, h2]
      obtain ⟨M1, a1, a2, a3⟩ := u_coAdd (x := x.1) (y := x.2) hA (by omega)
      rw [a1, Option.bind_some, nI_1]
      obtain ⟨M2, b1, b2, b3⟩ := ih (i + 1) g M1 _ h3 (by omega) (by omega) (hS.out a3 (fun c' k q => by unfold CoP at q; omega)) a2 (by rw [List.length_append]; show a.length + 1 ≤ _; omega)
      refine ⟨M2, b1, ?_, a3.trans b3⟩
      rw [List.append_assoc] at b2
      exact b2
theorem u_layR {c : Nat} (hc : 12 < c) {M : Mem} {sk fl : Int32} {L : List (Int32 × Int32)} (hL : L.length ≤ 12) (hS : StpIs M fl L) :
    ∃ M', f_Course_layRowByRow c M sk = some M' ∧ CoIs c M' ((0, -1) :: skp sk 0 L) (-1) ∧ Out (CoP c) M M' := by
  obtain ⟨M1, a1, a2, a3⟩ := u_coBegin (c := c) (M := M)
  obtain ⟨M2, b1, b2, b3⟩ := u_layRL hc (sk := sk) hL L 0 FU M1 _ rfl (Nat.zero_le _) (Nat.lt_trans (by omega) fu_lt) (hS.out a3 (fun c' k q => by unfold CoP at q; omega)) a2 (by decide)
  refine ⟨M2, ?_, b2, a3.trans b3⟩
  unfold f_Course_layRowByRow
  rw [a1, Option.bind_some]
  exact b1
/-- the first step that speaks of the outer row -/
def fsp : Nat → List (Int32 × Int32) → Option Nat
  | _, [] => none
  | i, x :: l => if 4 < x.1 then fsp (i + 1) l else some i
theorem fsp_ge : ∀ (l : List (Int32 × Int32)) (i k : Nat), fsp i l = some k → i ≤ k ∧ k < i + l.length := by
  intro l
  induction l with
  | nil => intro i k h; cases h
  | cons x l ih =>
    intro i k h
    unfold fsp at h
    split at h
    · have := ih _ _ h; constructor; omega; show k < i + (l.length + 1); omega
    · injection h with h; subst h; constructor; omega; show i < i + (l.length + 1); omega
theorem u_firstL {fl : Int32} {L : List (Int32 × Int32)} (hL : L.length ≤ 12) {M : Mem} (hS : StpIs M fl L) : ∀ (l : List (Int32 × Int32)) (i fuel : Nat), l = L.drop i → i ≤ L.length → l.length < fuel → f_Steps_firstSpeaking_l2 fuel (nI i) M = some (jnI (fsp i l)) := by
  intro l
  induction l with
  | nil =>
    intro i fuel hl hi hf
    have hf : 0 < fuel := hf
    obtain ⟨g, rfl⟩ : ∃ g, fuel = g + 1 := ⟨fuel - 1, by omega⟩
    have hi : L.length ≤ i := by
      rcases Nat.lt_or_ge i L.length with q | q
      · rw [List.drop_eq_getElem_cons q] at hl; cases hl
      · exact q
    show f_Steps_firstSpeaking_l2B (f_Steps_firstSpeaking_l2 g) (nI i) M = _
    unfold f_Steps_firstSpeaking_l2B
    rw [hS.2.1, show i = L.length by omega, if_pos (Int32.le_refl _)]
    rfl
  | cons x l ih =>
    intro i fuel hl hi hf
    have hf : l.length + 1 < fuel := hf
    obtain ⟨g, rfl⟩ : ∃ g, fuel = g + 1 := ⟨fuel - 1, by omega⟩
    obtain ⟨h1, h2, h3, h4⟩ := hS.at hl
    have G : gin (nI i) 12 := gin_t (by omega) (by decide)
    show f_Steps_firstSpeaking_l2B (f_Steps_firstSpeaking_l2 g) (nI i) M = _
    unfold f_Steps_firstSpeaking_l2B f_Steps_speaksAt fsp
    rw [hS.2.1, if_neg (fun q => by have := (nI_leI (by omega) (by omega)).mp q; omega), if_pos G, nI_clamp (by omega), h1]
    by_cases e : 4 < x.1
    · rw [if_pos e, if_pos e, Option.bind_some, if_pos rfl, nI_1]
      exact ih (i + 1) g h3 (by omega) (by omega)
    · rw [if_neg e, if_neg e, Option.bind_some, if_neg (by decide)]
      rfl
theorem u_first {fl : Int32} {L : List (Int32 × Int32)} (hL : L.length ≤ 12) {M : Mem} (hS : StpIs M fl L) : f_Steps_firstSpeaking M = some (jnI (fsp 0 L)) := u_firstL hL hS L 0 FU rfl (Nat.zero_le _) (Nat.lt_trans (by omega) fu_lt)
def hun (l : List (Int32 × Int32)) : Int32 := if l.any (fun x => decide (x.1 = 4)) = true then 1 else 0
theorem u_unionL {fl : Int32} {L : List (Int32 × Int32)} (hL : L.length ≤ 12) {M : Mem} (hS : StpIs M fl L) : ∀ (l : List (Int32 × Int32)) (i fuel : Nat), l = L.drop i → i ≤ L.length → l.length < fuel → f_Steps_hasUnion_l2 fuel (nI i) M = some (hun l) := by
  intro l
  induction l with
  | nil =>
    intro i fuel hl hi hf
    have hf : 0 < fuel := hf
    obtain ⟨g, rfl⟩ : ∃ g, fuel = g + 1 := ⟨fuel - 1, by omega⟩
    have hi : L.length ≤ i := by
      rcases Nat.lt_or_ge i L.length with q | q
      · rw [List.drop_eq_getElem_cons q] at hl; cases hl
      · exact q
    show f_Steps_hasUnion_l2B (f_Steps_hasUnion_l2 g) (nI i) M = _
    unfold f_Steps_hasUnion_l2B
    rw [hS.2.1, show i = L.length by omega, if_pos (Int32.le_refl _)]
    rfl
  | cons x l ih =>
    intro i fuel hl hi hf
    have hf : l.length + 1 < fuel := hf
    obtain ⟨g, rfl⟩ : ∃ g, fuel = g + 1 := ⟨fuel - 1, by omega⟩
    obtain ⟨h1, h2, h3, h4⟩ := hS.at hl
    have G : gin (nI i) 12 := gin_t (by omega) (by decide)
    show f_Steps_hasUnion_l2B (f_Steps_hasUnion_l2 g) (nI i) M = _
    unfold f_Steps_hasUnion_l2B
    rw [hS.2.1, if_neg (fun q => by have := (nI_leI (by omega) (by omega)).mp q; omega), if_pos G, nI_clamp (by omega), h1]
    by_cases e : x.1 = 4
    · rw [if_pos e]
      unfold hun
      rw [List.any_cons, decide_eq_true e, Bool.true_or, if_pos rfl]
    · rw [if_neg e, nI_1, ih (i + 1) g h3 (by omega) (by omega)]
      unfold hun
      rw [List.any_cons, decide_eq_false e, Bool.false_or]
theorem u_union {fl : Int32} {L : List (Int32 × Int32)} (hL : L.length ≤ 12) {M : Mem} (hS : StpIs M fl L) : f_Steps_hasUnion M = some (hun L) := u_unionL hL hS L 0 FU rfl (Nat.zero_le _) (Nat.lt_trans (by omega) fu_lt)
/-- the course of a question asked free, and its join -/
def lyf (en : Int32) (fs : Option Nat) : Nat → List (Int32 × Int32) → List (Int32 × Int32) → Option Nat → List (Int32 × Int32) × Option Nat
  | _, [], c, j => if fs = none then (if f_U_endSpeaks en = 0 then (c, j) else (c ++ [(8, -1)], some c.length)) else (c, j)
  | i, x :: l, c, j =>
    if fs = some i then (if x.1 = 1 then lyf en fs (i + 1) l (c ++ [(9, -1)]) (some c.length) else lyf en fs (i + 1) l (c ++ [(8, -1)] ++ [x]) (some c.length))
    else lyf en fs (i + 1) l (c ++ [x]) j
theorem jnI_eq {fs : Option Nat} {i : Nat} (hi : i < 2 ^ 31) (hf : ∀ k, fs = some k → k < 2 ^ 31) : nI i = jnI fs ↔ fs = some i := by
  cases fs with
  | none => exact ⟨fun h => absurd h (nI_nm1 hi), fun h => by cases h⟩
  | some k => exact ⟨fun h => by rw [(nI_eq hi (hf k rfl)).mp h], fun h => by injection h with h; rw [h]; rfl⟩
theorem u_layFL {c : Nat} (hc : 12 < c) {en fl : Int32} {fs : Option Nat} {L : List (Int32 × Int32)} (hL : L.length ≤ 12) (hfs : ∀ k, fs = some k → k < L.length) : ∀ (l : List (Int32 × Int32)) (i fuel : Nat) (M : Mem) (a : List (Int32 × Int32)) (j : Option Nat), l = L.drop i → i ≤ L.length → l.length < fuel → StpIs M fl L → CoIs c M a (jnI j) → a.length ≤ i + 2 → (fs = none → a.length ≤ i + 1) → (∀ k, fs = some k → i ≤ k → a.length ≤ i + 1) →
    ∃ M', f_Course_layFree_l12 c fuel en (jnI fs) (nI i) M = some M' ∧ CoIs c M' (lyf en fs i l a j).1 (jnI (lyf en fs i l a j).2) ∧ Out (CoP c) M M' := by
  have hfs2 : ∀ k, fs = some k → k < 2 ^ 31 := fun k h => by have := hfs k h; omega
  have hn1 : jnI fs = -1 ↔ fs = none := by
    cases fs with
    | none => exact ⟨fun _ => rfl, fun _ => rfl⟩
    | some k => exact ⟨fun h => absurd h (nI_nm1 (hfs2 k rfl)), fun h => by cases h⟩
  have nS : ∀ c' k, CoP c c' k → ¬ (10 ≤ c' ∧ c' ≤ 12) := fun c' k q => by unfold CoP at q; omega
  intro l
  induction l with
  | nil =>
    intro i fuel M a j hl hi hf hS hA h1 h2 h3
    have hf : 0 < fuel := hf
    obtain ⟨g, rfl⟩ : ∃ g, fuel = g + 1 := ⟨fuel - 1, by omega⟩
    have hi : L.length ≤ i := by
      rcases Nat.lt_or_ge i L.length with q | q
      · rw [List.drop_eq_getElem_cons q] at hl; cases hl
      · exact q
    show ∃ M', f_Course_layFree_l12B c (f_Course_layFree_l12 c g) en (jnI fs) (nI i) M = _ ∧ _
    unfold f_Course_layFree_l12B lyf
    rw [hS.2.1, show i = L.length by omega, if_pos (Int32.le_refl _)]
    by_cases e : fs = none
    · rw [if_pos (hn1.mpr e), if_pos e]
      by_cases e2 : f_U_endSpeaks en = 0
      · rw [if_pos e2, if_pos e2]
        exact ⟨M, rfl, hA, Out.rfl⟩
      · rw [if_neg e2, if_neg e2]
        obtain ⟨M1, a1, a2, a3⟩ := u_coJoin (x := 8) hA (by have := h2 e; omega)
        exact ⟨M1, by rw [a1, Option.bind_some], a2, a3⟩
    · rw [if_neg (fun q => e (hn1.mp q)), if_neg e]
      exact ⟨M, rfl, hA, Out.rfl⟩
  | cons x l ih =>
    intro i fuel M a j hl hi hf hS hA g1 g2 g3
    have hf : l.length + 1 < fuel := hf
    obtain ⟨g, rfl⟩ : ∃ g, fuel = g + 1 := ⟨fuel - 1, by omega⟩
    obtain ⟨h1, h2, h3, h4⟩ := hS.at hl
    have G : gin (nI i) 12 := gin_t (by omega) (by decide)
    have hci : (nI i).toNatClampNeg = i := nI_clamp (by omega)
    show ∃ M', f_Course_layFree_l12B c (f_Course_layFree_l12 c g) en (jnI fs) (nI i) M = _ ∧ _
    unfold f_Course_layFree_l12B lyf
    rw [hS.2.1, if_neg (fun q => by have := (nI_leI (by omega) (by omega)).mp q; omega)]
    by_cases e : fs = some i
    · have e' : nI i = jnI fs := (jnI_eq (by omega) hfs2).mpr e
      rw [if_pos e', if_pos G, hci, h1, if_pos e]
      have ga := g3 i e (Nat.le_refl _)
      by_cases e1 : x.1 = 1
      · rw [if_pos e1, if_pos e1]
        unfold f_Course_layFree_b43 f_Course_layFree_b64
        rw [if_pos e', if_neg (by decide)]
        obtain ⟨M1, a1, a2, a3⟩ := u_coJoin (x := 9) hA (by omega)
        rw [a1, Option.bind_some]
        unfold f_Course_layFree_b67 f_Course_layFree_b90
        rw [if_neg (by decide), nI_1]
        obtain ⟨M2, b1, b2, b3⟩ := ih (i + 1) g M1 _ (some a.length) h3 (by omega) (by omega) (hS.out a3 nS) a2 (by rw [List.length_append]; show a.length + 1 ≤ _; omega) (fun q => by rw [e] at q; cases q) (fun k q hk => by rw [e] at q; injection q with q; omega)
        exact ⟨M2, b1, b2, a3.trans b3⟩
      · rw [if_neg e1, if_neg e1]
        unfold f_Course_layFree_b42 f_Course_layFree_b43 f_Course_layFree_b64
        rw [if_pos e', if_pos rfl]
        obtain ⟨M1, a1, a2, a3⟩ := u_coJoin (x := 8) hA (by omega)
        rw [a1, Option.bind_some]
        unfold f_Course_layFree_b67 f_Course_layFree_b90
        have hS1 := hS.out a3 nS
        obtain ⟨p1, p2, p3, p4⟩ := hS1.at hl
        rw [if_pos rfl, if_pos G, if_pos G, hci, p1, p2]
        obtain ⟨M2, c1, c2, c3⟩ := u_coAdd (x := x.1) (y := x.2) a2 (by rw [List.length_append]; show a.length + 1 < 14; omega)
        rw [c1, Option.bind_some, nI_1]
        obtain ⟨M3, b1, b2, b3⟩ := ih (i + 1) g M2 _ (some a.length) h3 (by omega) (by omega) (hS1.out c3 nS) c2 (by rw [List.length_append, List.length_append]; show a.length + 1 + 1 ≤ _; omega) (fun q => by rw [e] at q; cases q) (fun k q hk => by rw [e] at q; injection q with q; omega)
        exact ⟨M3, b1, b2, a3.trans (c3.trans b3)⟩
    · have e' : ¬ nI i = jnI fs := fun q => e ((jnI_eq (by omega) hfs2).mp q)
      rw [if_neg e', if_neg e]
      unfold f_Course_layFree_b42 f_Course_layFree_b43 f_Course_layFree_b67 f_Course_layFree_b90
      rw [if_neg e', if_pos rfl, if_pos G, if_pos G, hci, h1, h2]
      obtain ⟨M2, c1, c2, c3⟩ := u_coAdd (x := x.1) (y := x.2) hA (by omega)
      rw [c1, Option.bind_some, nI_1]
      obtain ⟨M3, b1, b2, b3⟩ := ih (i + 1) g M2 _ j h3 (by omega) (by omega) (hS.out c3 nS) c2 (by rw [List.length_append]; show a.length + 1 ≤ _; omega) (fun q => by rw [List.length_append]; have := g2 q; show a.length + 1 ≤ _; omega) (fun k q hk => by rw [List.length_append]; have := g3 k q (by omega); show a.length + 1 ≤ _; omega)
      exact ⟨M3, b1, b2, c3.trans b3⟩
def fco (en : Int32) (L : List (Int32 × Int32)) : List (Int32 × Int32) × Option Nat := lyf en (fsp 0 L) 0 L [(0, -1)] none
theorem u_layF {c : Nat} (hc : 12 < c) {M : Mem} {en fl : Int32} {L : List (Int32 × Int32)} (hL : L.length ≤ 12) (hS : StpIs M fl L) :
    ∃ M', f_Course_layFree c M en = some M' ∧ CoIs c M' (fco en L).1 (jnI (fco en L).2) ∧ Out (CoP c) M M' := by
  obtain ⟨M1, a1, a2, a3⟩ := u_coBegin (c := c) (M := M)
  obtain ⟨M2, b1, b2, b3⟩ := u_layFL hc (en := en) (fs := fsp 0 L) hL (fun k h => by have := fsp_ge _ _ _ h; omega) L 0 FU M1 _ none rfl (Nat.zero_le _) (Nat.lt_trans (by omega) fu_lt) (hS.out a3 (fun c' k q => by unfold CoP at q; omega)) a2 (by decide) (fun _ => by decide) (fun _ _ _ => by decide)
  refine ⟨M2, ?_, b2, a3.trans b3⟩
  unfold f_Course_layFree
  rw [u_first hL hS, Option.bind_some, a1, Option.bind_some]
  exact b1
