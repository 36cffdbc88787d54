-- ===== steps =====
def spF (b : Nat → Int32) (n : Nat) : Nat → Nat → List (Int32 × Int32) → Int32 × List (Int32 × Int32)
  | 0, _, acc => (-1, acc)
  | f + 1, i, acc =>
    if n ≤ i then (-1, acc)
    else if f_Mo_kindOf (b i) = -1 then (nI i, [])
    else if f_Mo_kindOf (b i) = 7 then
      (if i + 1 < n ∧ ¬ (b (i + 1) < 48 ∨ 57 < b (i + 1)) then spF b n f (i + 2) (acc ++ [(7, b (i + 1) - 48)]) else (nI (i + 1), []))
    else spF b n f (i + 1) (acc ++ [(f_Mo_kindOf (b i), -1)])
def sfault (b : Nat → Int32) (n : Nat) : Int32 := (spF b n (n + 1) 0 []).1
def ssteps (b : Nat → Int32) (n : Nat) : List (Int32 × Int32) := (spF b n (n + 1) 0 []).2
theorem spF_s (b : Nat → Int32) (n f i : Nat) (acc : List (Int32 × Int32)) : spF b n (f + 1) i acc = if n ≤ i then (-1, acc)
    else if f_Mo_kindOf (b i) = -1 then (nI i, [])
    else if f_Mo_kindOf (b i) = 7 then
      (if i + 1 < n ∧ ¬ (b (i + 1) < 48 ∨ 57 < b (i + 1)) then spF b n f (i + 2) (acc ++ [(7, b (i + 1) - 48)]) else (nI (i + 1), []))
    else spF b n f (i + 1) (acc ++ [(f_Mo_kindOf (b i), -1)]) := rfl
theorem kinds (c : Int32) : f_Steps_codeOf c = f_Mo_kindOf c := by
  unfold f_Steps_codeOf f_Mo_kindOf
  by_cases h1 : c = 100
  · subst h1; decide
  by_cases h2 : c = 101
  · subst h2; decide
  by_cases h3 : c = 102
  · subst h3; decide
  by_cases h4 : c = 103
  · subst h4; decide
  by_cases h5 : c = 108
  · subst h5; decide
  by_cases h6 : c = 109
  · subst h6; decide
  by_cases h7 : c = 117
  · subst h7; decide
  simp only [h1, h2, h3, h4, h5, h6, h7, if_false]
  repeat' split
  all_goals rfl
theorem kind_range (c : Int32) : f_Mo_kindOf c = -1 ∨ f_Mo_kindOf c = 1 ∨ f_Mo_kindOf c = 2 ∨ f_Mo_kindOf c = 3 ∨ f_Mo_kindOf c = 4 ∨ f_Mo_kindOf c = 5 ∨ f_Mo_kindOf c = 6 ∨ f_Mo_kindOf c = 7 := by
  unfold f_Mo_kindOf
  repeat' split
  all_goals decide
/-- steps as a row of kinds and one of figures hold them -/
def SH (f g : Nat → Int32) (l : List (Int32 × Int32)) : Prop := AH f (l.map Prod.fst) ∧ AH g (l.map Prod.snd)
theorem SH.snoc {f g f' g' : Nat → Int32} {l : List (Int32 × Int32)} {x y : Int32} (h : SH f g l) (hf : ∀ j, j < l.length → f' j = f j) (hg : ∀ j, j < l.length → g' j = g j) (hx : f' l.length = x) (hy : g' l.length = y) : SH f' g' (l ++ [(x, y)]) := by
  refine ⟨?_, ?_⟩
  · rw [List.map_append]
    exact h.1.snoc (fun j hj => hf j (by rwa [List.length_map] at hj)) (by rw [List.length_map]; exact hx)
  · rw [List.map_append]
    exact h.2.snoc (fun j hj => hg j (by rwa [List.length_map] at hj)) (by rw [List.length_map]; exact hy)
/-- the class's steps are those of a text -/
def StpIs (M : Mem) (fl : Int32) (l : List (Int32 × Int32)) : Prop := M 10 3 = fl ∧ M 10 2 = nI l.length ∧ SH (M 11) (M 12) l
def SpP (c k : Nat) : Prop := (c = 10 ∧ (k = 2 ∨ k = 3)) ∨ c = 11 ∨ c = 12
theorem u_stepsAdd {M : Mem} {l : List (Int32 × Int32)} {x y fl : Int32} (h : StpIs M fl l) (hl : l.length < 12) : ∃ M', f_Steps_add M x y = some M' ∧ StpIs M' fl (l ++ [(x, y)]) ∧ Out SpP M M' := by
  have hc : (nI l.length).toNatClampNeg = l.length := nI_clamp (by omega)
  refine ⟨mset (mset (mset M 11 l.length x) 12 l.length y) 10 2 (nI (l.length + 1)), ?_, ⟨?_, ?_, ?_⟩, ?_⟩
  · unfold f_Steps_add
    rw [h.2.1, if_neg (fun q => by have := (nI_leI (a := 12) (by decide) (by omega)).mp q; omega), if_pos (gin_t hl (by decide)), hc, bn, ms_c _ _ (by decide), h.2.1, if_pos (gin_t hl (by decide)), hc, bn, ms_c _ _ (by decide), ms_c _ _ (by decide), h.2.1, nI_1, bn]
  · rw [ms_k _ _ (by decide), ms_c _ _ (by decide), ms_c _ _ (by decide)]; exact h.1
  · rw [ms_s, List.length_append]; rfl
  · refine h.2.2.snoc (fun j hj => ?_) (fun j hj => ?_) ?_ ?_
    · rw [ms_c _ _ (by decide), ms_c _ _ (by decide), ms_k _ _ (by omega)]
    · rw [ms_c _ _ (by decide), ms_k _ _ (by omega), ms_c _ _ (by decide)]
    · rw [ms_c _ _ (by decide), ms_c _ _ (by decide), ms_s]
    · rw [ms_c _ _ (by decide), ms_s]
  · exact (Out.set (Or.inr (Or.inl rfl))).trans ((Out.set (Or.inr (Or.inr rfl))).trans (Out.set (Or.inl ⟨rfl, Or.inl rfl⟩)))
theorem StpIs.none {M : Mem} {fl : Int32} (h1 : M 10 3 = fl) (h2 : M 10 2 = 0) : StpIs M fl [] := ⟨h1, h2, AH.nil, AH.nil⟩
/-- the class's Steps.parse, from its loop on -/
theorem u_stepsLoop {a n : Nat} {b : Nat → Int32} (ha : ¬ (a = 10 ∨ a = 11 ∨ a = 12)) (ha1 : ¬ (a + 1 = 10 ∨ a + 1 = 11 ∨ a + 1 = 12)) (hle : n ≤ 12) (hl : n ≤ ln (a + 1)) (hl2 : ln (a + 1) < 2 ^ 31) : ∀ (f i fuel : Nat) (M : Mem) (acc : List (Int32 × Int32)), n < f + i → f + 1 < fuel → i ≤ n → acc.length ≤ i → M a 1 = nI n → (∀ k, k < n → M (a + 1) k = b k) → StpIs M (-1) acc →
    ∃ M', f_Steps_parse_l12 a fuel (nI i) M = some M' ∧ StpIs M' (spF b n f i acc).1 (spF b n f i acc).2 ∧ Out SpP M M' := by
  intro f
  induction f with
  | zero => intro i fuel M acc h1 _ h2; omega
  | succ f ih =>
    intro i fuel M acc hf hfu hi hac hn hb hs
    obtain ⟨g, rfl⟩ : ∃ g, fuel = g + 2 := ⟨fuel - 2, by omega⟩
    have step : f_Steps_parse_l12 a (g + 2) (nI i) M = f_Steps_parse_l12B a (f_Steps_parse_l12 a (g + 1)) (nI i) M := rfl
    rw [step, spF_s]
    unfold f_Steps_parse_l12B
    rw [hn]
    have e1 : (nI n ≤ nI i) ↔ n ≤ i := nI_leI (by omega) (by omega)
    -- what a fault leads to
    have fault : ∀ x j : Nat, x < 100 → j < 100 → ∃ M', bnd (mset M 10 3 (nI x)) (fun M15 => f_Steps_parse_b111 a (f_Steps_parse_l12 a (g + 1)) (nI j) M15) = some M' ∧ StpIs M' (nI x) [] ∧ Out SpP M M' := fun x j hx hj => by
      refine ⟨mset (mset M 10 3 (nI x)) 10 2 0, ?_, StpIs.none (by rw [ms_k _ _ (by decide), ms_s]) (ms_s _ _ _ _), (Out.set (Or.inl ⟨rfl, Or.inr rfl⟩)).trans (Out.set (Or.inl ⟨rfl, Or.inl rfl⟩))⟩
      rw [bn]
      unfold f_Steps_parse_b111
      show f_Steps_parse_l12B a (f_Steps_parse_l12 a g) (nI j + 1) (mset M 10 3 (nI x)) = _
      unfold f_Steps_parse_l12B f_Steps_parse_b117
      rw [ms_s, if_neg (nI_nm1 (by omega)), if_neg (nI_nm1 (by omega)), bn]
      split <;> rfl
    by_cases h0 : n ≤ i
    · rw [if_pos (e1.mpr h0), if_pos h0]
      refine ⟨M, ?_, hs, Out.rfl⟩
      unfold f_Steps_parse_b117
      rw [hs.1, if_pos rfl]
    · rw [if_neg (fun q => h0 (e1.mp q)), if_neg h0, hs.1, if_pos rfl, if_pos (gin_t (by omega) hl2), bn, nI_clamp (by omega), hb i (by omega), kinds]
      by_cases h1 : f_Mo_kindOf (b i) = -1
      · rw [if_pos h1, if_pos h1]
        exact fault i i (by omega) (by omega)
      · rw [if_neg h1, if_neg h1, nI_1]
        have e2 : (nI n ≤ nI (i + 1)) ↔ n ≤ i + 1 := nI_leI (by omega) (by omega)
        by_cases h7 : f_Mo_kindOf (b i) = 7
        · rw [if_pos h7, if_pos h7, h7]
          unfold f_Steps_parse_b106
          by_cases h3 : n ≤ i + 1
          · rw [if_pos (e2.mpr h3), if_neg (fun q => by omega)]
            exact fault (i + 1) (i + 1) (by omega) (by omega)
          · have G : gin (nI (i + 1)) (ln (a + 1)) := gin_t (by omega) hl2
            rw [if_neg (fun q => h3 (e2.mp q)), if_pos G, if_pos G, nI_clamp (by omega), hb (i + 1) (by omega), isFig]
            by_cases h4 : b (i + 1) < 48 ∨ 57 < b (i + 1)
            · rw [if_pos h4, if_pos rfl, if_neg (fun q => q.2 h4)]
              exact fault (i + 1) (i + 1) (by omega) (by omega)
            · rw [if_neg h4, if_neg (by decide), if_pos ⟨by omega, h4⟩]
              obtain ⟨M1, q1, q2, q3⟩ := u_stepsAdd (x := 7) (y := b (i + 1) - 48) hs (by omega)
              obtain ⟨M2, r1, r2, r3⟩ := ih (i + 2) (g + 1) M1 (acc ++ [(7, b (i + 1) - 48)]) (by omega) (by omega) (by omega) (by rw [List.length_append]; show acc.length + 1 ≤ _; omega) (by rw [q3 a 1 (by unfold SpP; omega)]; exact hn) (fun k hk => by rw [q3 (a + 1) k (by unfold SpP; omega)]; exact hb k hk) q2
              refine ⟨M2, ?_, r2, q3.trans r3⟩
              rw [q1, Option.bind_some]
              unfold f_Steps_parse_b111
              rw [nI_1]
              exact r1
        · rw [if_neg h7, if_neg h7]
          obtain ⟨M1, q1, q2, q3⟩ := u_stepsAdd (x := f_Mo_kindOf (b i)) (y := -1) hs (by omega)
          obtain ⟨M2, r1, r2, r3⟩ := ih (i + 1) (g + 1) M1 (acc ++ [(f_Mo_kindOf (b i), -1)]) (by omega) (by omega) (by omega) (by rw [List.length_append]; show acc.length + 1 ≤ _; omega) (by rw [q3 a 1 (by unfold SpP; omega)]; exact hn) (fun k hk => by rw [q3 (a + 1) k (by unfold SpP; omega)]; exact hb k hk) q2
          refine ⟨M2, ?_, r2, q3.trans r3⟩
          rw [q1, Option.bind_some]
          unfold f_Steps_parse_b111
          rw [nI_1]
          exact r1
theorem u_stepsParse {M : Mem} {a n : Nat} {b : Nat → Int32} (ha : ¬ (a = 10 ∨ a = 11 ∨ a = 12)) (ha1 : ¬ (a + 1 = 10 ∨ a + 1 = 11 ∨ a + 1 = 12)) (hle : n ≤ 12) (hl : n ≤ ln (a + 1)) (hl2 : ln (a + 1) < 2 ^ 31) (hn : M a 1 = nI n) (hb : ∀ k, k < n → M (a + 1) k = b k) : ∃ M', f_Steps_parse a M = some M' ∧ StpIs M' (sfault b n) (ssteps b n) ∧ Out SpP M M' := by
  have o1 : Out SpP M (mset (mset M 10 2 0) 10 3 (-1)) := (Out.set (Or.inl ⟨rfl, Or.inl rfl⟩)).trans (Out.set (Or.inl ⟨rfl, Or.inr rfl⟩))
  obtain ⟨M', e, h1, h2⟩ := u_stepsLoop (b := b) ha ha1 hle hl hl2 (n + 1) 0 FU (mset (mset M 10 2 0) 10 3 (-1)) [] (by omega) (Nat.lt_trans (by omega) fu_lt) (by omega) (Nat.le_refl _) (by rw [o1 a 1 (by unfold SpP; omega)]; exact hn) (fun k hk => by rw [o1 (a + 1) k (by unfold SpP; omega)]; exact hb k hk) (StpIs.none (ms_s _ _ _ _) (by rw [ms_k _ _ (by decide), ms_s]))
  refine ⟨M', ?_, h1, o1.trans h2⟩
  unfold f_Steps_parse
  rw [bn, bn]
  exact e

-- ===== the reference's reading of the steps =====
theorem sub48n {c : Int32} (h : c < 48 ∨ 57 < c) : c - 48 < 0 ∨ 9 < c - 48 := by
  rw [i_lt, i_lt] at h ⊢
  rw [Int32.toInt_sub]
  have e0 : (0 : Int32).toInt = 0 := by decide
  have e9 : (9 : Int32).toInt = 9 := by decide
  have e48 : (48 : Int32).toInt = 48 := by decide
  have e57 : (57 : Int32).toInt = 57 := by decide
  have b1 := c.toInt_lt
  have b2 := c.le_toInt
  unfold Int.bmod
  rw [e0, e9, e48]
  rw [e48, e57] at h
  dsimp only
  split <;> omega
def RsP (c k : Nat) : Prop := (c = 91 ∧ k = 6) ∨ c = 98 ∨ c = 99
theorem m_stepsLoop {n : Nat} {b : Nat → Int32} (hle : n ≤ 12) : ∀ (f i fuel : Nat) (M : Mem) (acc : List (Int32 × Int32)), n < f + i → f < fuel → i ≤ n → acc.length ≤ i → MT M 2 n b → M 91 6 = 0 → SH (M 98) (M 99) acc →
    ∃ M', f_Mo_readsSteps_l9 fuel (nI acc.length) (nI i) M = some ((spF b n f i acc).1, M') ∧ M' 91 6 = nI (spF b n f i acc).2.length ∧ SH (M' 98) (M' 99) (spF b n f i acc).2 ∧ Out RsP M M' := by
  intro f
  induction f with
  | zero => intro i fuel M acc h1 _ h2; omega
  | succ f ih =>
    intro i fuel M acc hf hfu hi hac hM h6 hs
    obtain ⟨g, rfl⟩ : ∃ g, fuel = g + 1 := ⟨fuel - 1, by omega⟩
    have step : f_Mo_readsSteps_l9 (g + 1) (nI acc.length) (nI i) M = f_Mo_readsSteps_l9B (f_Mo_readsSteps_l9 g) (nI acc.length) (nI i) M := rfl
    rw [step, spF_s]
    unfold f_Mo_readsSteps_l9B
    have e1 : (nI n ≤ nI i) ↔ n ≤ i := nI_leI (by omega) (by omega)
    rw [cl2, hM.1, show (2 : Int32) = nI 2 from rfl, m_byteAt hM (by decide) (by omega) (by omega), Option.bind_some]
    -- a step that is taken
    have go : ∀ (i2 : Nat) (x y : Int32), i < i2 → i2 ≤ n → (spF b n (f + 1) i acc = spF b n f i2 (acc ++ [(x, y)])) → ∃ M', f_Mo_readsSteps_b82 (f_Mo_readsSteps_l9 g) (nI acc.length) (nI i2) x y M = some ((spF b n f i2 (acc ++ [(x, y)])).1, M') ∧ M' 91 6 = nI (spF b n f i2 (acc ++ [(x, y)])).2.length ∧ SH (M' 98) (M' 99) (spF b n f i2 (acc ++ [(x, y)])).2 ∧ Out RsP M M' := fun i2 x y h1 h2 _ => by
      have o1 : Out RsP M (mset (mset M 98 acc.length x) 99 acc.length y) := (Out.set (Or.inr (Or.inl rfl))).trans (Out.set (Or.inr (Or.inr rfl)))
      obtain ⟨M', q1, q2, q3, q4⟩ := ih i2 g (mset (mset M 98 acc.length x) 99 acc.length y) (acc ++ [(x, y)]) (by omega) (by omega) h2 (by rw [List.length_append]; show acc.length + 1 ≤ _; omega) ⟨by rw [o1 92 2 (by unfold RsP; omega)]; exact hM.1, fun k hk => by rw [o1 93 _ (by unfold RsP; omega)]; exact hM.2 k hk⟩ (by rw [ms_c _ _ (by decide), ms_c _ _ (by decide)]; exact h6) (hs.snoc (fun j hj => by rw [ms_c _ _ (by decide), ms_k _ _ (by omega)]) (fun j hj => by rw [ms_k _ _ (by omega), ms_c _ _ (by decide)]) (by rw [ms_c _ _ (by decide), ms_s]) (ms_s _ _ _ _))
      refine ⟨M', ?_, q2, q3, o1.trans q4⟩
      unfold f_Mo_readsSteps_b82
      have G : gin (nI acc.length) 12 := gin_t (by omega) (by decide)
      rw [if_pos G, bn, if_pos G, bn, nI_clamp (by omega), nI_1]
      rw [List.length_append] at q1
      exact q1
    have flt : ∀ (x : Nat) (y : Int32), ∃ M', (some (nI x, M) : Option (Int32 × Mem)) = some (((nI x, []) : Int32 × List (Int32 × Int32)).1, M') ∧ M' 91 6 = nI ((nI x, []) : Int32 × List (Int32 × Int32)).2.length ∧ SH (M' 98) (M' 99) ((nI x, []) : Int32 × List (Int32 × Int32)).2 ∧ Out RsP M M' := fun x y => ⟨M, rfl, h6, ⟨AH.nil, AH.nil⟩, Out.rfl⟩
    by_cases h0 : n ≤ i
    · rw [if_pos (e1.mpr h0), if_pos h0, bn]
      exact ⟨_, rfl, ms_s _ _ _ _, ⟨hs.1.same (fun j _ => ms_c _ _ (by decide)), hs.2.same (fun j _ => ms_c _ _ (by decide))⟩, Out.set (Or.inl ⟨rfl, rfl⟩)⟩
    · rw [if_neg (fun q => h0 (e1.mp q)), if_neg h0, if_neg h0, bn]
      by_cases h1 : f_Mo_kindOf (b i) = -1
      · rw [if_pos h1, if_pos h1]
        exact flt i 0
      · rw [if_neg h1, if_neg h1, nI_1]
        by_cases h7 : f_Mo_kindOf (b i) = 7
        · rw [if_pos h7, if_pos h7, h7, m_byteAt hM (by decide) (by omega) (by omega), Option.bind_some]
          unfold f_Mo_readsSteps_b58
          rw [if_pos rfl, inb]
          by_cases h3 : n ≤ i + 1
          · rw [if_pos h3, if_pos (Or.inl (by decide)), if_pos rfl, if_neg (fun q => by omega)]
            exact flt (i + 1) 0
          · rw [if_neg h3]
            by_cases h4 : b (i + 1) < 48 ∨ 57 < b (i + 1)
            · have h5 : b (i + 1) - 48 < 0 ∨ 9 < b (i + 1) - 48 := sub48n h4
              rw [if_pos h5, if_pos rfl, if_neg (fun q => q.2 h4)]
              exact flt (i + 1) 0
            · have h5 : ¬ (b (i + 1) - 48 < 0 ∨ 9 < b (i + 1) - 48) := by
                have h6 := sub48 h4
                rw [i_lt, i_lt]
                have e0 : (0 : Int32).toInt = 0 := by decide
                have e9 : (9 : Int32).toInt = 9 := by decide
                omega
              rw [if_neg h5, if_neg (by decide), if_pos ⟨by omega, h4⟩, nI_1]
              exact go (i + 2) 7 (b (i + 1) - 48) (by omega) (by omega) (by rw [spF_s, if_neg h0, if_neg h1, if_pos h7, if_pos ⟨by omega, h4⟩])
        · rw [if_neg h7, if_neg h7]
          unfold f_Mo_readsSteps_b58
          rw [if_neg h7]
          exact go (i + 1) _ (-1) (by omega) (by omega) (by rw [spF_s, if_neg h0, if_neg h1, if_neg h7])

theorem m_readsSteps {M : Mem} {n : Nat} {b : Nat → Int32} (hle : n ≤ 12) (hM : MT M 2 n b) : ∃ M', f_Mo_readsSteps M = some (sfault b n, M') ∧ M' 91 6 = nI (ssteps b n).length ∧ SH (M' 98) (M' 99) (ssteps b n) ∧ Out RsP M M' := by
  obtain ⟨M', q1, q2, q3, q4⟩ := m_stepsLoop (b := b) hle (n + 1) 0 FU (mset M 91 6 0) [] (by omega) (Nat.lt_trans (by omega) fu_lt) (by omega) (Nat.le_refl _) ⟨by rw [ms_c _ _ (by decide)]; exact hM.1, fun k hk => by rw [ms_c _ _ (by decide)]; exact hM.2 k hk⟩ (ms_s _ _ _ _) ⟨AH.nil, AH.nil⟩
  refine ⟨M', ?_, q2, q3, (Out.set (Or.inl ⟨rfl, rfl⟩)).trans q4⟩
  unfold f_Mo_readsSteps
  rw [bn]
  exact q1
/-- what all reading may change -/
def RaP (c k : Nat) : Prop := (c = 91 ∧ k = 6) ∨ c = 94 ∨ c = 95 ∨ c = 96 ∨ c = 97 ∨ c = 98 ∨ c = 99
/-- what the reference has read -/
def Rd (M : Mem) (n0 n1 n2 : Nat) (b0 b1 b2 : Nat → Int32) : Prop :=
  M 94 0 = tfault b0 n0 ∧ M 94 1 = tfault b1 n1 ∧ M 94 2 = sfault b2 n2 ∧ M 95 0 = nI (trows b0 n0) ∧ M 95 1 = nI (trows b1 n1) ∧ (∀ i, i < trows b0 n0 → M 96 i = tval (b0 (3 * i)) ∧ M 97 i = tval (b0 (3 * i + 1))) ∧ (∀ i, i < trows b1 n1 → M 96 (10 + i) = tval (b1 (3 * i)) ∧ M 97 (10 + i) = tval (b1 (3 * i + 1))) ∧ M 91 6 = nI (ssteps b2 n2).length ∧ SH (M 98) (M 99) (ssteps b2 n2)
theorem MT.out {M M' : Mem} {t n : Nat} {b : Nat → Int32} {P : Nat → Nat → Prop} (h : MT M t n b) (o : Out P M M') (h1 : ¬ P 92 t) (h2 : ∀ k, k < n → ¬ P 93 (30 * t + k)) : MT M' t n b := ⟨by rw [o 92 t h1]; exact h.1, fun k hk => by rw [o 93 _ (h2 k hk)]; exact h.2 k hk⟩
theorem m_reads {M : Mem} {n0 n1 n2 : Nat} {b0 b1 b2 : Nat → Int32} (l0 : n0 ≤ 29) (l1 : n1 ≤ 29) (l2 : n2 ≤ 12) (h0 : MT M 0 n0 b0) (h1 : MT M 1 n1 b1) (h2 : MT M 2 n2 b2) : ∃ M', f_Mo_reads M = some M' ∧ Rd M' n0 n1 n2 b0 b1 b2 ∧ Out RaP M M' := by
  obtain ⟨Ma, a1, a2, a3, a4⟩ := m_readsTable (by decide) l0 h0
  have oa : Out RaP M (mset Ma 94 0 (tfault b0 n0)) := (a4.mono (fun c k h => by unfold RdP at h; unfold RaP; omega)).trans (Out.set (Or.inr (Or.inl rfl)))
  have h1a : MT (mset Ma 94 0 (tfault b0 n0)) 1 n1 b1 := h1.out oa (by unfold RaP; omega) (fun k _ => by unfold RaP; omega)
  obtain ⟨Mb, c1, c2, c3, c4⟩ := m_readsTable (t := 1) (by decide) l1 h1a
  have ob : Out RaP M (mset Mb 94 1 (tfault b1 n1)) := oa.trans ((c4.mono (fun c k h => by unfold RdP at h; unfold RaP; omega)).trans (Out.set (Or.inr (Or.inl rfl))))
  have h2b : MT (mset Mb 94 1 (tfault b1 n1)) 2 n2 b2 := h2.out ob (by unfold RaP; omega) (fun k _ => by unfold RaP; omega)
  obtain ⟨Mc, d1, d2, d3, d4⟩ := m_readsSteps l2 h2b
  refine ⟨mset Mc 94 2 (sfault b2 n2), ?_, ?_, ob.trans ((d4.mono (fun c k h => by unfold RsP at h; unfold RaP; omega)).trans (Out.set (Or.inr (Or.inl rfl))))⟩
  · unfold f_Mo_reads
    rw [show (0 : Int32) = nI 0 from rfl, a1, Option.bind_some, bn, show (1 : Int32) = nI 1 from rfl]
    rw [show (nI 0).toNatClampNeg = 0 by decide, c1, Option.bind_some, bn, show (nI 1).toNatClampNeg = 1 by decide, d1, Option.bind_some, bn, cl2]
  · -- cells 95, 96, 97 of table 0 stay over table 1 and the steps
    have k0 : ∀ c k, (c = 95 ∧ k = 0) ∨ ((c = 96 ∨ c = 97) ∧ k < 10) → (mset Mc 94 2 (sfault b2 n2)) c k = Ma c k := fun c k h => by
      rw [ms_c _ _ (by omega), d4 c k (by unfold RsP; omega), ms_c _ _ (by omega), c4 c k (by unfold RdP; omega), ms_c _ _ (by omega)]
    have k1 : ∀ c k, c = 95 ∨ c = 96 ∨ c = 97 → (mset Mc 94 2 (sfault b2 n2)) c k = Mb c k := fun c k h => by
      rw [ms_c _ _ (by omega), d4 c k (by unfold RsP; omega), ms_c _ _ (by omega)]
    have hr0 := trows_le (b := b0) l0
    refine ⟨?_, ?_, ms_s _ _ _ _, by rw [k0 95 0 (by omega)]; exact a2, by rw [k1 95 1 (by omega)]; exact c2, fun i hi => ?_, fun i hi => ?_, ?_, ?_⟩
    · rw [ms_k _ _ (by decide), d4 94 0 (by unfold RsP; omega), ms_k _ _ (by decide), c4 94 0 (by unfold RdP; omega), ms_s]
    · rw [ms_k _ _ (by decide), d4 94 1 (by unfold RsP; omega), ms_s]
    · rw [k0 96 i (by omega), k0 97 i (by omega)]
      have := a3 i hi
      rw [show 10 * 0 + i = i by omega] at this
      exact this
    · rw [k1 96 _ (by omega), k1 97 _ (by omega)]
      exact c3 i hi
    · rw [ms_c _ _ (by decide)]; exact d2
    · exact ⟨d3.1.same (fun j _ => ms_c _ _ (by decide)), d3.2.same (fun j _ => ms_c _ _ (by decide))⟩
