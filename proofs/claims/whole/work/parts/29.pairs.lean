-- ===== pairs =====
/-- the place of a pair, and the pairs then -/
def plOf : List (Int32 × Int32) → Int32 × Int32 → Nat
  | [], _ => 0
  | y :: l, x => if y = x then 0 else plOf l x + 1
def plAd (l : List (Int32 × Int32)) (x : Int32 × Int32) : List (Int32 × Int32) := if x ∈ l then l else l ++ [x]
def PaIs (c : Nat) (M : Mem) (ps : List (Int32 × Int32)) : Prop := M c 3 = nI ps.length ∧ ps.length ≤ 10 ∧ SH (M (c + 1)) (M (c + 2)) ps
def PaP (c c' k : Nat) : Prop := c' = c + 1 ∨ c' = c + 2 ∨ (c' = c ∧ k = 3)
theorem plOf_le : ∀ (l : List (Int32 × Int32)) (x : Int32 × Int32), plOf l x ≤ l.length := by
  intro l
  induction l with
  | nil => intro x; exact Nat.le_refl _
  | cons y l ih => intro x; unfold plOf; split; exact Nat.zero_le _; exact Nat.succ_le_succ (ih x)
theorem plOf_lt : ∀ (l : List (Int32 × Int32)) (x : Int32 × Int32), x ∈ l → plOf l x < l.length ∧ l.getD (plOf l x) (0, 0) = x := by
  intro l
  induction l with
  | nil => intro x h; cases h
  | cons y l ih =>
    intro x h
    unfold plOf
    by_cases e : y = x
    · rw [if_pos e]; exact ⟨Nat.succ_pos _, e⟩
    · rw [if_neg e]
      have hx : x ∈ l := by
        rcases List.mem_cons.mp h with q | q
        · exact absurd q.symm e
        · exact q
      exact ⟨Nat.succ_lt_succ (ih x hx).1, (ih x hx).2⟩
theorem plOf_no : ∀ (l : List (Int32 × Int32)) (x : Int32 × Int32), ¬ x ∈ l → plOf l x = l.length := by
  intro l
  induction l with
  | nil => intro x h; rfl
  | cons y l ih =>
    intro x h
    unfold plOf
    rw [if_neg (fun q : y = x => h (q ▸ List.mem_cons_self)), ih x (fun q => h (List.mem_cons_of_mem _ q))]
    rfl
theorem SH.at {f g : Nat → Int32} {l : List (Int32 × Int32)} (h : SH f g l) {i : Nat} {x : Int32 × Int32} {r : List (Int32 × Int32)} (hr : x :: r = l.drop i) : f i = x.1 ∧ g i = x.2 ∧ r = l.drop (i + 1) ∧ i < l.length := by
  have hi : i < l.length := by
    rcases Nat.lt_or_ge i l.length with q | q
    · exact q
    · rw [List.drop_eq_nil_of_le q] at hr; cases hr
  rw [List.drop_eq_getElem_cons hi] at hr
  injection hr with e1 e2
  refine ⟨?_, ?_, e2, hi⟩
  · rw [h.1 i (by rw [List.length_map]; exact hi), e1]
    simp [List.getD_eq_getElem?_getD, hi]
  · rw [h.2 i (by rw [List.length_map]; exact hi), e1]
    simp [List.getD_eq_getElem?_getD, hi]
theorem u_placeL {c : Nat} {L : List (Int32 × Int32)} (hL : L.length < 10) {x : Int32 × Int32} {M : Mem} (hP : PaIs c M L) : ∀ (l : List (Int32 × Int32)) (i fuel : Nat), l = L.drop i → i ≤ L.length → l.length < fuel →
    ∃ M', f_Pairs_placeOf_l2 c fuel x.1 x.2 (nI i) M = some (nI (i + plOf l x), M') ∧ PaIs c M' (if x ∈ l then L else L ++ [x]) ∧ Out (PaP c) M M' := by
  intro l
  induction l with
  | nil =>
    intro i fuel hl hi hf
    have hf : 0 < fuel := hf
    obtain ⟨g, rfl⟩ : ∃ g, fuel = g + 1 := ⟨fuel - 1, by omega⟩
    have hi : L.length ≤ i := by
      rcases Nat.lt_or_ge i L.length with q | q
      · rw [List.drop_eq_getElem_cons q] at hl; cases hl
      · exact q
    have hc : (nI L.length).toNatClampNeg = L.length := nI_clamp (by omega)
    refine ⟨mset (mset (mset M (c + 1) L.length x.1) (c + 2) L.length x.2) c 3 (nI (L.length + 1)), ?_, ?_, ?_⟩
    · show f_Pairs_placeOf_l2B c (f_Pairs_placeOf_l2 c g) x.1 x.2 (nI i) M = _
      unfold f_Pairs_placeOf_l2B
      rw [hP.1, show i = L.length by omega, if_pos (Int32.le_refl _), if_pos (show nI L.length < 10 from (nI_ltI (b := 10) (by omega) (by decide)).mpr hL), if_pos (gin_t hL (by decide)), hc, bn, ms_c _ _ (by omega), hP.1, if_pos (gin_t hL (by decide)), hc, bn, ms_c _ _ (by omega), ms_c _ _ (by omega), hP.1, nI_1, bn, ms_s, nI_sub1 (by omega)]
      rfl
    · rw [if_neg (List.not_mem_nil)]
      refine ⟨?_, ?_, ?_⟩
      · rw [ms_s, List.length_append]; rfl
      · rw [List.length_append]; show L.length + 1 ≤ 10; omega
      · refine hP.2.2.snoc (x := x.1) (y := x.2) (fun j hj => ?_) (fun j hj => ?_) ?_ ?_
        · rw [ms_c _ _ (by omega), ms_c _ _ (by omega), ms_k _ _ (by omega)]
        · rw [ms_c _ _ (by omega), ms_k _ _ (by omega), ms_c _ _ (by omega)]
        · rw [ms_c _ _ (by omega), ms_c _ _ (by omega), ms_s]
        · rw [ms_c _ _ (by omega), ms_s]
    · exact (Out.set (Or.inl rfl)).trans ((Out.set (Or.inr (Or.inl rfl))).trans (Out.set (Or.inr (Or.inr ⟨rfl, rfl⟩))))
  | cons y l ih =>
    intro i fuel hl hi hf
    have hf : l.length + 1 < fuel := hf
    obtain ⟨g, rfl⟩ : ∃ g, fuel = g + 1 := ⟨fuel - 1, by omega⟩
    obtain ⟨h1, h2, h3, h4⟩ := hP.2.2.at hl
    have G : gin (nI i) 10 := gin_t (by omega) (by decide)
    show ∃ M', f_Pairs_placeOf_l2B c (f_Pairs_placeOf_l2 c g) x.1 x.2 (nI i) M = _ ∧ _
    unfold f_Pairs_placeOf_l2B f_Pairs_placeOf_b32
    rw [hP.1, if_neg (fun q => by have := (nI_leI (by omega) (by omega)).mp q; omega), if_pos G, if_pos G, nI_clamp (by omega), h1, h2]
    unfold plOf
    by_cases e : y = x
    · rw [if_pos (by rw [e]), if_pos (by rw [e]), if_pos e, if_pos (by rw [e]; exact List.mem_cons_self)]
      exact ⟨M, rfl, hP, Out.rfl⟩
    · obtain ⟨M', a1, a2, a3⟩ := ih (i + 1) g h3 (by omega) (by omega)
      have hk : f_Pairs_placeOf_l2 c g x.1 x.2 (nI i + 1) M = some (nI (i + (plOf l x + 1)), M') := by
        rw [nI_1, a1]
        congr 3
        omega
      rw [if_neg e]
      refine ⟨M', ?_, ?_, a3⟩
      · by_cases e1 : y.1 = x.1
        · have e2 : ¬ y.2 = x.2 := fun q => e (Prod.ext e1 q)
          rw [if_pos e1, if_neg e2]
          exact hk
        · rw [if_neg e1]
          exact hk
      · have : (x ∈ y :: l) ↔ x ∈ l := by
          rw [List.mem_cons]
          exact ⟨fun q => q.resolve_left (fun w => e w.symm), Or.inr⟩
        by_cases hx : x ∈ l
        · rw [if_pos hx] at a2; rw [if_pos (this.mpr hx)]; exact a2
        · rw [if_neg hx] at a2; rw [if_neg (fun q => hx (this.mp q))]; exact a2
theorem u_place {c : Nat} {L : List (Int32 × Int32)} (hL : L.length < 10) {x : Int32 × Int32} {M : Mem} (hP : PaIs c M L) :
    ∃ M', f_Pairs_placeOf c M x.1 x.2 = some (nI (plOf L x), M') ∧ PaIs c M' (plAd L x) ∧ Out (PaP c) M M' := by
  have := u_placeL hL (x := x) hP L 0 FU rfl (Nat.zero_le _) (Nat.lt_trans (by omega) fu_lt)
  rw [Nat.zero_add] at this
  exact this
/-- the pair that an outer row asks for -/
def prOf (uv : Int32) (x : Int32 × Int32) : Int32 × Int32 := (x.1, if uv = 0 then -1 else x.2)
/-- the pairs of rows, gathered -/
def gth (uv : Int32) : List (Int32 × Int32) → List (Int32 × Int32) → List (Int32 × Int32)
  | ps, [] => ps
  | ps, x :: l => gth uv (plAd ps (prOf uv x)) l
def gpl (uv : Int32) : List (Int32 × Int32) → List (Int32 × Int32) → List Nat
  | _, [] => []
  | ps, x :: l => plOf ps (prOf uv x) :: gpl uv (plAd ps (prOf uv x)) l
theorem plAd_len (l : List (Int32 × Int32)) (x : Int32 × Int32) : (plAd l x).length ≤ l.length + 1 := by
  unfold plAd
  split
  · omega
  · rw [List.length_append]; exact Nat.le_refl _
theorem plOf_ad (l : List (Int32 × Int32)) (x : Int32 × Int32) : plOf l x < (plAd l x).length := by
  unfold plAd
  by_cases h : x ∈ l
  · rw [if_pos h]; exact (plOf_lt l x h).1
  · rw [if_neg h, plOf_no l x h, List.length_append]; exact Nat.lt_succ_self _
theorem gth_ge (uv : Int32) : ∀ (l ps : List (Int32 × Int32)), ps.length ≤ (gth uv ps l).length := by
  intro l
  induction l with
  | nil => intro ps; exact Nat.le_refl _
  | cons x l ih =>
    intro ps
    refine Nat.le_trans ?_ (ih _)
    unfold plAd
    split
    · exact Nat.le_refl _
    · rw [List.length_append]; omega
theorem gpl_lt (uv : Int32) : ∀ (l ps : List (Int32 × Int32)) (k : Nat), k ∈ gpl uv ps l → k < (gth uv ps l).length := by
  intro l
  induction l with
  | nil => intro ps k h; cases h
  | cons x l ih =>
    intro ps k h
    unfold gpl at h
    unfold gth
    rcases List.mem_cons.mp h with q | q
    · rw [q]; exact Nat.lt_of_lt_of_le (plOf_ad _ _) (gth_ge uv l _)
    · exact ih _ _ q
def NH (f : Nat → Int32) (l : List Nat) (i : Nat) : Prop := ∀ j, j < l.length → f (i + j) = nI (l.getD j 0)
theorem u_gatherL {c : Nat} (hc : 9 < c) {uv : Int32} {L : List (Int32 × Int32)} (hL : L.length ≤ 10) : ∀ (l : List (Int32 × Int32)) (i fuel : Nat) (M : Mem) (ps : List (Int32 × Int32)), l = L.drop i → i ≤ L.length → l.length < fuel → M 4 2 = nI L.length → SH (M 5) (M 6) L → PaIs c M ps → ps.length ≤ i →
    ∃ M', f_Pairs_gather_l7 c 4 fuel uv (nI i) M = some M' ∧ PaIs c M' (gth uv ps l) ∧ NH (M' (c + 3)) (gpl uv ps l) i ∧ (∀ k, k < i → M' (c + 3) k = M (c + 3) k) ∧ Out (fun c' k => PaP c c' k ∨ c' = c + 3) M M' := by
  intro l
  induction l with
  | nil =>
    intro i fuel M ps hl hi hf hm hS hP hp
    have hf : 0 < fuel := hf
    obtain ⟨g, rfl⟩ : ∃ g, fuel = g + 1 := ⟨fuel - 1, by omega⟩
    have hi : L.length ≤ i := by
      rcases Nat.lt_or_ge i L.length with q | q
      · rw [List.drop_eq_getElem_cons q] at hl; cases hl
      · exact q
    refine ⟨M, ?_, hP, fun j h => absurd h (Nat.not_lt_zero j), fun _ _ => rfl, Out.rfl⟩
    show f_Pairs_gather_l7B c 4 (f_Pairs_gather_l7 c 4 g) uv (nI i) M = _
    unfold f_Pairs_gather_l7B
    rw [hm, show i = L.length by omega, if_pos (Int32.le_refl _)]
  | cons x l ih =>
    intro i fuel M ps hl hi hf hm hS hP hp
    have hf : l.length + 1 < fuel := hf
    obtain ⟨g, rfl⟩ : ∃ g, fuel = g + 1 := ⟨fuel - 1, by omega⟩
    obtain ⟨h1, h2, h3, h4⟩ := hS.at hl
    have G : gin (nI i) 10 := gin_t (by omega) (by decide)
    have hci : (nI i).toNatClampNeg = i := nI_clamp (by omega)
    obtain ⟨M1, a1, a2, a3⟩ := u_place (x := prOf uv x) (by omega) hP
    have hb : f_Pairs_gather_l7 c 4 (g + 1) uv (nI i) M = f_Pairs_gather_l7 c 4 g uv (nI (i + 1)) (mset M1 (c + 3) i (nI (plOf ps (prOf uv x)))) := by
      show f_Pairs_gather_l7B c 4 (f_Pairs_gather_l7 c 4 g) uv (nI i) M = _
      unfold f_Pairs_gather_l7B f_Pairs_gather_b41
      rw [hm, if_neg (fun q => by have := (nI_leI (by omega) (by omega)).mp q; omega), if_pos G, if_pos G]
      simp only [hci]
      rw [show 4 + 1 = 5 from rfl, show 4 + 2 = 6 from rfl, h1, h2]
      by_cases e : uv = 0
      · have a1' : f_Pairs_placeOf c M x.1 (-1) = some (nI (plOf ps (prOf uv x)), M1) := by
          have : (prOf uv x).2 = -1 := if_pos e
          rw [this] at a1
          exact a1
        rw [if_pos e, a1', Option.bind_some, if_pos G, bn, nI_1]
      · have a1' : f_Pairs_placeOf c M x.1 x.2 = some (nI (plOf ps (prOf uv x)), M1) := by
          have : (prOf uv x).2 = x.2 := if_neg e
          rw [this] at a1
          exact a1
        rw [if_neg e, a1', Option.bind_some, if_pos G, bn, nI_1]
    have o1 : Out (fun c' k => PaP c c' k ∨ c' = c + 3) M (mset M1 (c + 3) i (nI (plOf ps (prOf uv x)))) := (a3.mono (fun c' k q => Or.inl q)).trans (Out.set (Or.inr rfl))
    have nt : ∀ c' k, c' < 10 → ¬ (PaP c c' k ∨ c' = c + 3) := fun c' k h q => by unfold PaP at q; omega
    have hP1 : PaIs c (mset M1 (c + 3) i (nI (plOf ps (prOf uv x)))) (plAd ps (prOf uv x)) := ⟨by rw [ms_c _ _ (by omega)]; exact a2.1, a2.2.1, a2.2.2.1.same (fun j _ => by rw [ms_c _ _ (by omega)]), a2.2.2.2.same (fun j _ => by rw [ms_c _ _ (by omega)])⟩
    have hM3 : ∀ k, M1 (c + 3) k = M (c + 3) k := fun k => a3 _ _ (by unfold PaP; omega)
    have hset : (mset M1 (c + 3) i (nI (plOf ps (prOf uv x)))) (c + 3) i = nI (plOf ps (prOf uv x)) := ms_s _ _ _ _
    have hset2 : ∀ k, k < i → (mset M1 (c + 3) i (nI (plOf ps (prOf uv x)))) (c + 3) k = M (c + 3) k := fun k hk => by rw [ms_k _ _ (by omega)]; exact hM3 k
    generalize (mset M1 (c + 3) i (nI (plOf ps (prOf uv x)))) = M2 at hb o1 hP1 hset hset2
    have hpl := plAd_len ps (prOf uv x)
    obtain ⟨M3, b1, b2, b3, b4, b5⟩ := ih (i + 1) g M2 _ h3 (by omega) (by omega) (by rw [o1 _ _ (nt 4 2 (by decide))]; exact hm) ⟨hS.1.same (fun j _ => o1 _ _ (nt 5 j (by decide))), hS.2.same (fun j _ => o1 _ _ (nt 6 j (by decide)))⟩ hP1 (by omega)
    refine ⟨M3, by rw [hb]; exact b1, b2, ?_, fun k hk => by rw [b4 k (by omega)]; exact hset2 k hk, o1.trans b5⟩
    intro j hj
    cases j with
    | zero =>
      show M3 (c + 3) i = _
      rw [b4 i (by omega), hset]
      rfl
    | succ j =>
      have := b3 j (by have : j + 1 < (gpl uv (plAd ps (prOf uv x)) l).length + 1 := hj; omega)
      rw [show i + (j + 1) = i + 1 + j by omega, this]
      rfl
theorem u_gather {c : Nat} (hc : 9 < c) {uv : Int32} {L : List (Int32 × Int32)} {M : Mem} (hL : L.length ≤ 10) (hm : M 4 2 = nI L.length) (hS : SH (M 5) (M 6) L) :
    ∃ M', f_Pairs_gather c 4 M uv = some M' ∧ PaIs c M' (gth uv [] L) ∧ NH (M' (c + 3)) (gpl uv [] L) 0 ∧ Out (fun c' k => PaP c c' k ∨ c' = c + 3) M M' := by
  unfold f_Pairs_gather
  rw [bn]
  have o0 : Out (fun c' k => PaP c c' k ∨ c' = c + 3) M (mset M c 3 0) := Out.set (Or.inl (Or.inr (Or.inr ⟨rfl, rfl⟩)))
  obtain ⟨M', a1, a2, a3, a4, a5⟩ := u_gatherL hc (uv := uv) hL L 0 FU (mset M c 3 0) [] rfl (Nat.zero_le _) (Nat.lt_trans (by omega) fu_lt) (by rw [ms_c _ _ (by omega)]; exact hm) ⟨hS.1.same (fun j _ => by rw [ms_c _ _ (by omega)]), hS.2.same (fun j _ => by rw [ms_c _ _ (by omega)])⟩ ⟨by rw [ms_s]; rfl, Nat.zero_le _, AH.nil, AH.nil⟩ (Nat.le_refl _)
  exact ⟨M', a1, a2, a3, o0.trans a5⟩
theorem u_setOne {c : Nat} {M : Mem} {x y : Int32} : PaIs c (f_Pairs_setOne c M x y) [(x, y)] ∧ Out (PaP c) M (f_Pairs_setOne c M x y) := by
  unfold f_Pairs_setOne
  simp only [bn, cl0]
  refine ⟨⟨by rw [ms_s]; rfl, Nat.succ_le_succ (Nat.zero_le 9), ?_, ?_⟩, (Out.set (Or.inl rfl)).trans ((Out.set (Or.inr (Or.inl rfl))).trans (Out.set (Or.inr (Or.inr ⟨rfl, rfl⟩))))⟩
  · intro j hj
    have hj : j < 1 := hj
    rw [show j = 0 by omega, ms_c _ _ (by omega), ms_c _ _ (by omega), ms_s]
    rfl
  · intro j hj
    have hj : j < 1 := hj
    rw [show j = 0 by omega, ms_c _ _ (by omega), ms_s]
    rfl
theorem u_setNone {c : Nat} {M : Mem} (hl : ln (c + 3) = 10) : ∃ M', f_Pairs_setNone c M = some M' ∧ PaIs c M' [] ∧ (∀ k, k < 10 → M' (c + 3) k = 0) ∧ Out (fun c' k => PaP c c' k ∨ c' = c + 3) M M' := by
  unfold f_Pairs_setNone
  rw [bn]
  obtain ⟨M', a1, a2, a3⟩ := u_fill (c := c + 3) (x := 0) (M := mset M c 3 0) (by omega)
  have o0 : Out (fun c' k => PaP c c' k ∨ c' = c + 3) M (mset M c 3 0) := Out.set (Or.inl (Or.inr (Or.inr ⟨rfl, rfl⟩)))
  exact ⟨M', by rw [a1, Option.bind_some], ⟨by rw [a3 _ _ (by omega), ms_s]; rfl, Nat.zero_le _, AH.nil, AH.nil⟩, fun k hk => a2 k (by omega), o0.trans (a3.mono (fun c' k q => Or.inr q))⟩
