-- ===== texts: what a table's text says =====
/-- the byte at place i doesn't go on a table -/
abbrev tbad (b : Nat → Int32) (i : Nat) : Prop := if i % 3 = 2 then ¬ b i = 59 else (b i < 48 ∨ 57 < b i) ∧ ¬ b i = 45
def tfF (b : Nat → Int32) (n : Nat) : Nat → Nat → Int32
  | 0, _ => if n = 0 ∨ n % 3 = 2 then -1 else nI n
  | f + 1, i => if tbad b i then nI i else tfF b n f (i + 1)
theorem tfF_s (b : Nat → Int32) (n f i : Nat) : tfF b n (f + 1) i = if tbad b i then nI i else tfF b n f (i + 1) := rfl
theorem tfF_0 (b : Nat → Int32) (n i : Nat) : tfF b n 0 i = if n = 0 ∨ n % 3 = 2 then -1 else nI n := rfl
def tfault (b : Nat → Int32) (n : Nat) : Int32 := tfF b n n 0
def tval (c : Int32) : Int32 := if c = 45 then -1 else c - 48
def trows (b : Nat → Int32) (n : Nat) : Nat := if tfault b n = -1 then (n + 1) / 3 else 0
theorem trows_le {b : Nat → Int32} {n : Nat} (h : n ≤ 29) : trows b n ≤ 10 := by
  unfold trows
  by_cases hc : tfault b n = -1
  · rw [if_pos hc]; omega
  · rw [if_neg hc]; omega
theorem trows_3 {b : Nat → Int32} {n i : Nat} (h : n ≤ 29) (hi : i < trows b n) : 3 * i + 1 < n := by
  unfold trows at hi
  by_cases hc : tfault b n = -1
  · rw [if_pos hc] at hi
    have h9 : ∀ f j, f + j = n → tfF b n f j = -1 → n = 0 ∨ n % 3 = 2 := by
      intro f
      induction f with
      | zero =>
        intro j _ h
        rw [tfF_0] at h
        by_cases hz : n = 0 ∨ n % 3 = 2
        · exact hz
        · rw [if_neg hz] at h; exact absurd h (nI_nm1 (by omega))
      | succ f ih =>
        intro j hj h
        rw [tfF_s] at h
        by_cases hz : tbad b j
        · rw [if_pos hz] at h; exact absurd h (nI_nm1 (by omega))
        · rw [if_neg hz] at h; exact ih (j + 1) (by omega) h
    have := h9 n 0 rfl hc
    omega
  · rw [if_neg hc] at hi; omega
theorem isFig (c : Int32) : f_U_isFigure c = if (c < 48 ∨ 57 < c) then 0 else 1 := by
  unfold f_U_isFigure f_U_isFigure_b16
  by_cases h1 : c < 48
  · rw [if_pos h1, if_pos (Or.inl h1)]
  · rw [if_neg h1]
    by_cases h2 : 57 < c
    · rw [if_pos h2, if_pos (Or.inr h2)]
    · rw [if_neg h2, if_neg (fun q => q.elim h1 h2)]
/-- the class: the first byte with which a table can't go on -/
theorem u_firstWrong {M : Mem} {o n : Nat} (hn : M o 1 = nI n) (hle : n ≤ 29) (hl : n ≤ ln (o + 1)) (hl2 : ln (o + 1) < 2 ^ 31) : ∀ (f i fuel : Nat), f + i = n → f < fuel → f_Table_firstWrong_l2 o fuel (nI i) M = some (tfF (M (o + 1)) n f i) := by
  intro f
  induction f with
  | zero =>
    intro i fuel hi hf
    obtain ⟨g, rfl⟩ : ∃ g, fuel = g + 1 := ⟨fuel - 1, by omega⟩
    have e : i = n := by omega
    subst e
    show f_Table_firstWrong_l2B o (f_Table_firstWrong_l2 o g) (nI i) M = _
    rw [tfF_0]
    unfold f_Table_firstWrong_l2B
    rw [hn, if_pos (Int32.le_refl _)]
    by_cases h0 : i = 0
    · subst h0
      rw [if_pos (by rfl), if_pos (Or.inl rfl)]
      rfl
    · rw [if_neg (nI_ne0 (by omega) (by omega)), nI_mod3 (by omega)]
      have e2 : (nI (i % 3) = 2) ↔ i % 3 = 2 := nI_eq (b := 2) (by omega) (by decide)
      unfold f_Table_firstWrong_b94
      simp only [e2, h0, false_or]
      split <;> rfl
  | succ f ih =>
    intro i fuel hi hf
    obtain ⟨g, rfl⟩ : ∃ g, fuel = g + 1 := ⟨fuel - 1, by omega⟩
    show f_Table_firstWrong_l2B o (f_Table_firstWrong_l2 o g) (nI i) M = _
    have ih2 : f_Table_firstWrong_l2 o g (nI i + 1) M = some (tfF (M (o + 1)) n f (i + 1)) := by rw [nI_1]; exact ih (i + 1) g (by omega) (by omega)
    unfold f_Table_firstWrong_l2B
    rw [hn, if_neg (fun q => by rw [nI_leI (by omega) (by omega)] at q; omega), if_pos (gin_t (by omega) hl2), bn, nI_clamp (by omega), nI_mod3 (by omega), isFig]
    unfold f_Table_firstWrong_b51 f_Table_firstWrong_b56 f_Table_firstWrong_b69
    rw [nI_div3 (by omega), if_pos (show nI (i / 3) < 10 from (nI_ltI (b := 10) (by omega) (by decide)).mpr (by omega)), ih2]
    rw [tfF_s]
    have e2 : (nI (i % 3) = 2) ↔ i % 3 = 2 := nI_eq (b := 2) (by omega) (by decide)
    have e10 : (1 : Int32) = 0 ↔ False := by decide
    simp only [e2, e10, if_true, if_false]
    by_cases h2 : i % 3 = 2
    · simp only [h2, if_true, tbad]
      by_cases h3 : M (o + 1) i = 59 <;> simp [h3]
    · simp only [h2, if_false, tbad]
      by_cases h3 : M (o + 1) i < 48 ∨ 57 < M (o + 1) i
      · by_cases h4 : M (o + 1) i = 45
        · rw [if_pos h3, if_pos rfl, if_pos h4, if_neg (show ¬ ((M (o + 1) i < 48 ∨ 57 < M (o + 1) i) ∧ ¬M (o + 1) i = 45) from fun q => q.2 h4)]
        · rw [if_pos h3, if_pos rfl, if_neg h4, if_pos (show (M (o + 1) i < 48 ∨ 57 < M (o + 1) i) ∧ ¬M (o + 1) i = 45 from ⟨h3, h4⟩)]
      · simp only [h3, if_false, false_and, e10]
/-- a table's cells say what its text does -/
def TabIs (M : Mem) (o : Nat) (b : Nat → Int32) (n : Nat) : Prop := M o 3 = tfault b n ∧ M o 2 = nI (trows b n) ∧ ∀ i, i < trows b n → M (o + 1) i = tval (b (3 * i)) ∧ M (o + 2) i = tval (b (3 * i + 1))
theorem tv_u (c : Int32) : f_Table_valueOf c = tval c := rfl
theorem u_parseRows {o a r : Nat} (hr : r ≤ 10) (hao : a + 1 ≠ o + 1) (hao2 : a + 1 ≠ o + 2) (hl : ∀ i, i < r → 3 * i + 1 < ln (a + 1)) (hl2 : ln (a + 1) < 2 ^ 31) : ∀ (f i fuel : Nat) (M : Mem), f + i = r → f < fuel → M o 2 = nI r → (∀ j, j < i → M (o + 1) j = tval (M (a + 1) (3 * j)) ∧ M (o + 2) j = tval (M (a + 1) (3 * j + 1))) →
    ∃ M', f_Table_parse_l34 o a fuel (nI i) M = some M' ∧ (∀ j, j < r → M' (o + 1) j = tval (M (a + 1) (3 * j)) ∧ M' (o + 2) j = tval (M (a + 1) (3 * j + 1))) ∧ Out (fun c k => c = o + 1 ∨ c = o + 2) M M' := by
  intro f
  induction f with
  | zero =>
    intro i fuel M hi hf hn hj
    obtain ⟨g, rfl⟩ : ∃ g, fuel = g + 1 := ⟨fuel - 1, by omega⟩
    have e : i = r := by omega
    subst e
    refine ⟨M, ?_, hj, Out.rfl⟩
    show f_Table_parse_l34B o a (f_Table_parse_l34 o a g) (nI i) M = _
    unfold f_Table_parse_l34B
    rw [hn, if_pos (Int32.le_refl _)]
  | succ f ih =>
    intro i fuel M hi hf hn hj
    obtain ⟨g, rfl⟩ : ∃ g, fuel = g + 1 := ⟨fuel - 1, by omega⟩
    have h3 : (3 : Int32) * nI i = nI (3 * i) := pk_mul 3 i
    have hb := hl i (by omega)
    obtain ⟨M', e, hM, hO⟩ := ih (i + 1) g (mset (mset M (o + 1) i (tval (M (a + 1) (3 * i)))) (o + 2) i (tval (M (a + 1) (3 * i + 1)))) (by omega) (by omega) (by rw [ms_c _ _ (by omega), ms_c _ _ (by omega)]; exact hn) (fun j hj2 => by
      rw [ms_c _ _ hao2, ms_c _ _ hao, ms_c _ _ hao2, ms_c _ _ hao, ms_c _ _ (show o + 1 ≠ o + 2 by omega)]
      by_cases hji : j = i
      · subst hji
        rw [ms_s, ms_s]
        exact ⟨rfl, rfl⟩
      · rw [ms_k _ _ hji, ms_k _ _ hji, ms_c _ _ (show o + 2 ≠ o + 1 by omega)]
        exact hj j (by omega))
    refine ⟨M', ?_, fun j hj2 => ?_, (Out.set (Or.inl rfl)).trans ((Out.set (Or.inr rfl)).trans hO)⟩
    · show f_Table_parse_l34B o a (f_Table_parse_l34 o a g) (nI i) M = _
      unfold f_Table_parse_l34B
      rw [hn, if_neg (fun q => by rw [nI_leI (by omega) (by omega)] at q; omega), h3, nI_1, if_pos (gin_t (by omega) hl2), if_pos (gin_t (by omega) (by decide)), bn, if_pos (gin_t (by omega) hl2), if_pos (gin_t (by omega) (by decide)), bn, tv_u, tv_u, nI_1, nI_clamp (by omega), nI_clamp (by omega), nI_clamp (by omega), ms_c _ _ hao]
      exact e
    · have := hM j hj2
      rw [ms_c _ _ hao2, ms_c _ _ hao, ms_c _ _ hao2, ms_c _ _ hao] at this
      exact this
/-- the class's Table.parse: a text at cell a, the table at cell o -/
theorem u_parse {M : Mem} {o a n : Nat} (hn : M a 1 = nI n) (hle : n ≤ 29) (hl : n ≤ ln (a + 1)) (hl2 : ln (a + 1) < 2 ^ 31) (h1 : a ≠ o) (hao : a + 1 ≠ o + 1) (hao2 : a + 1 ≠ o + 2) (hao0 : a + 1 ≠ o) :
    ∃ M', f_Table_parse o a M = some M' ∧ TabIs M' o (M (a + 1)) n ∧ Out (fun c k => c = o ∨ c = o + 1 ∨ c = o + 2) M M' := by
  have e1 := u_firstWrong hn hle hl hl2 n 0 FU rfl (Nat.lt_trans (by omega) fu_lt)
  have hr := trows_le (b := M (a + 1)) hle
  obtain ⟨M', e, hM, hO⟩ := u_parseRows (o := o) (a := a) (r := trows (M (a + 1)) n) hr hao hao2 (fun i hi => by have := trows_3 hle hi; omega) hl2 (trows (M (a + 1)) n) 0 FU (mset (mset M o 3 (tfault (M (a + 1)) n)) o 2 (nI (trows (M (a + 1)) n))) rfl (Nat.lt_trans (by omega) fu_lt) (ms_s _ _ _ _) (fun j hj => absurd hj (Nat.not_lt_zero j))
  have hk : (mset (mset M o 3 (tfault (M (a + 1)) n)) o 2 (nI (trows (M (a + 1)) n))) (a + 1) = M (a + 1) := by
    funext k
    rw [ms_c _ _ hao0, ms_c _ _ hao0]
  rw [hk] at hM
  refine ⟨M', ?_, ⟨?_, ?_, hM⟩, fun c k q => ?_⟩
  · unfold f_Table_parse f_Table_firstWrong
    rw [show (0 : Int32) = nI 0 from rfl, e1, Option.bind_some, bn, ms_s]
    unfold f_Table_parse_b29
    rw [show tfF (M (a + 1)) n n 0 = tfault (M (a + 1)) n from rfl]
    have ev : (if tfault (M (a + 1)) n = -1 then bnd (mset (mset M o 3 (tfault (M (a + 1)) n)) o 2 ((mset M o 3 (tfault (M (a + 1)) n) a 1 + 1) / 3)) fun M3 => f_Table_parse_l34 o a FU (nI 0) M3 else bnd (mset (mset M o 3 (tfault (M (a + 1)) n)) o 2 (nI 0)) fun M3 => f_Table_parse_l34 o a FU (nI 0) M3) = some M' := by
      by_cases hc : tfault (M (a + 1)) n = -1
      · rw [if_pos hc, bn, ms_c _ _ h1, hn, nI_1, nI_div3 (by omega)]
        have : trows (M (a + 1)) n = (n + 1) / 3 := by unfold trows; rw [if_pos hc]
        rw [← this]
        exact e
      · rw [if_neg hc, bn]
        have : trows (M (a + 1)) n = 0 := by unfold trows; rw [if_neg hc]
        rw [this] at e
        exact e
    exact ev
  · rw [hO o 3 (by omega), ms_k _ _ (by decide), ms_s]
  · rw [hO o 2 (by omega), ms_s]
  · rw [hO c k (fun w => q (Or.inr w)), ms_c _ _ (fun w => q (Or.inl w)), ms_c _ _ (fun w => q (Or.inl w))]
