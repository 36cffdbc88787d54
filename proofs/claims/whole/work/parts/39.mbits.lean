-- ===== row by row, whole =====
def mrQ (L lo li : List (Int32 × Int32)) (sk en : Int32) : Option MS := mrA L li sk en lo ms0
def RowIs (M : Mem) (s : MS) : Prop := M 100 0 = s.1 ∧ AH (M 101) s.2.2.2.1 ∧ LgIs M 0 s.2.2.2.2.1 ∧ M 102 0 = s.2.1 ∧ M 102 1 = s.2.2.1 ∧ M 102 2 = s.2.2.2.2.2.1 ∧ M 102 3 = s.2.2.2.2.2.2 ∧ M 102 4 = 0
def RwP (c k : Nat) : Prop := AsP c k ∨ OpP 0 c k ∨ (c = 100 ∧ k = 0) ∨ (c = 101 ∧ k < 10) ∨ (c = 102 ∧ k < 5)
theorem m_rowByRow {M : Mem} {L lo li : List (Int32 × Int32)} {sk en : Int32} {s : MS} (hS : StM M L sk) (hE : M 91 10 = en) (hT : TbM M lo li) (hx : mrQ L lo li sk en = some s) : ∃ M', f_Mo_rowByRow M = some M' ∧ RowIs M' s ∧ Out RwP M M' := by
  have hlo := hT.1
  obtain ⟨M1, a1, a2, a3, a4, a5, a6, a7⟩ := m_begins (M := M) (w := 0) (by decide)
  have a1 : f_Mo_begins M 0 = some M1 := a1
  have hs0 : MRel M1 ms0 := ⟨a3, a6, a5, AH.nil, a2, a4 2 (by decide), a4 3 (by decide)⟩
  have nB : ∀ c k, BnP 0 c k → ((c = 103 ∧ k = 0) ∨ (c = 100 ∧ k = 0) ∨ (c = 102 ∧ k < 5) ∨ (c = 91 ∧ (k = 28 ∨ k = 29))) := fun c k q => by unfold BnP at q; omega
  obtain ⟨M2, b1, b2, b3⟩ := m_rbA lo 0 FU M1 ms0 s rfl (Nat.zero_le _) (Nat.lt_trans (by omega) fu_lt) rfl (hS.out a7 (fun c k q => by have := nB c k q; omega)) (by rw [a7 _ _ (fun q => by have := nB _ _ q; omega)]; exact hE) (hT.out a7 (fun c k q => by have := nB c k q; omega)) hs0 hx
  have b1 : f_Mo_rowByRow_l7 FU 0 M1 = f_Mo_rowByRow_b160 M2 := b1
  refine ⟨mset (mset M2 102 0 (M2 91 29)) 102 1 (M2 91 28), ?_, ⟨?_, ?_, ?_, ?_, ?_, ?_, ?_, ?_⟩, ?_⟩
  · unfold f_Mo_rowByRow
    rw [a1, Option.bind_some, b1]
    unfold f_Mo_rowByRow_b160
    rw [cl0, cl1, bn, bn, ms_c _ _ (show 91 ≠ 102 by decide)]
  · rw [ms_c _ _ (by decide), ms_c _ _ (by decide)]; exact b2.1
  · exact b2.2.2.2.1.same (fun j _ => by rw [ms_c _ _ (by decide), ms_c _ _ (by decide)])
  · have o1 : Out (fun c k => c = 102) M2 (mset (mset M2 102 0 (M2 91 29)) 102 1 (M2 91 28)) := by
      have o0 : ∀ (M : Mem) (k : Nat) (v : Int32), Out (fun c k => c = 102) M (mset M 102 k v) := fun M k v => Out.set rfl
      exact (o0 _ _ _).trans (o0 _ _ _)
    exact b2.2.2.2.2.1.out o1 (fun c k q => by unfold LgP; omega)
  · rw [ms_k _ _ (by decide), ms_s]; exact b2.2.1
  · rw [ms_s]; exact b2.2.2.1
  · rw [ms_k _ _ (by decide), ms_k _ _ (by decide)]; exact b2.2.2.2.2.2.1
  · rw [ms_k _ _ (by decide), ms_k _ _ (by decide)]; exact b2.2.2.2.2.2.2
  · rw [ms_k _ _ (by decide), ms_k _ _ (by decide), b3 102 4 (by unfold RbP OpP LgP AsP GtP GoP OuP HdP RoP; omega)]
    exact a4 4 (by decide)
  · have oS : ∀ (M : Mem) (k : Nat) (v : Int32), k < 5 → Out RwP M (mset M 102 k v) := fun M k v h => Out.set (Or.inr (Or.inr (Or.inr (Or.inr ⟨rfl, h⟩))))
    have o7 : Out RwP M M1 := a7.mono (fun c k q => by
      rcases nB c k q with w | w | w | ⟨w1, w2⟩
      · exact Or.inr (Or.inl (Or.inl (Or.inl w)))
      · exact Or.inr (Or.inr (Or.inl w))
      · exact Or.inr (Or.inr (Or.inr (Or.inr w)))
      · rcases w2 with w2 | w2
        · exact Or.inl (Or.inl (Or.inl (Or.inr (Or.inr ⟨w1, Or.inl w2⟩))))
        · exact Or.inl (Or.inl (Or.inr ⟨w1, w2⟩)))
    have o8 : Out RwP M1 M2 := b3.mono (fun c k q => by
      rcases q with q | q | q | q | q
      · exact Or.inl q
      · exact Or.inr (Or.inl q)
      · exact Or.inr (Or.inr (Or.inl q))
      · exact Or.inr (Or.inr (Or.inr (Or.inl q)))
      · exact Or.inr (Or.inr (Or.inr (Or.inr ⟨q.1, by rw [q.2]; decide⟩))))
    exact o7.trans (o8.trans ((oS _ _ _ (by decide)).trans (oS _ _ _ (by decide))))
-- ===== bits =====
theorem and1 (x : Int32) : (x &&& 1 = 1) ↔ x.toBitVec.getLsbD 0 = true := by
  rw [← Int32.toBitVec_inj, Int32.toBitVec_and]
  show x.toBitVec &&& 1#32 = 1#32 ↔ _
  rw [BitVec.and_one_eq_setWidth_ofBool_getLsbD]
  cases x.toBitVec.getLsbD 0 <;> decide
theorem isIn_or (a b x : Int32) : f_Mo_isIn (a ||| b) x = 1 ↔ (f_Mo_isIn a x = 1 ∨ f_Mo_isIn b x = 1) := by
  have e : ∀ c : Int32, f_Mo_isIn c x = 1 ↔ ((c >>> (x &&& 31)) &&& 1) = 1 := fun c => by
    unfold f_Mo_isIn
    split
    · next h => exact ⟨fun _ => h, fun _ => rfl⟩
    · next h => exact ⟨fun q => absurd q (by decide), fun q => absurd q h⟩
  rw [e, e, e, Int32.shiftRight_or, and1, and1, and1, Int32.toBitVec_or, BitVec.getLsbD_or, Bool.or_eq_true]
theorem isIn_01 (a x : Int32) : f_Mo_isIn a x = 0 ∨ f_Mo_isIn a x = 1 := by unfold f_Mo_isIn; split; exact Or.inr rfl; exact Or.inl rfl
theorem isIn_bit : ∀ i, i < 13 → ∀ k, k < 13 → (f_Mo_isIn ((1 : Int32) <<< (nI i &&& 31)) (nI k) = 1 ↔ i = k) := by decide
theorem isIn_0 : ∀ k, k < 13 → f_Mo_isIn 0 (nI k) = 0 := by decide
theorem isIn_end : ∀ k, k < 13 → (f_Mo_isIn 4096 (nI k) = 1 ↔ k = 12) := by decide
/-- the bits of the steps that speak -/
def spL : Int32 → Nat → List (Int32 × Int32) → Int32
  | a, _, [] => a
  | a, i, x :: l => spL (a ||| (if f_Mo_in x.1 1 4 = 0 then (0 : Int32) else (1 : Int32) <<< (nI i &&& 31))) (i + 1) l
def spn (en : Int32) (L : List (Int32 × Int32)) : Int32 := spL (if f_U_endSpeaks en = 0 then 0 else 4096) 0 L
def KdOk (L : List (Int32 × Int32)) : Prop := ∀ x, x ∈ L → 1 ≤ x.1
theorem mo_in {x : Int32} (h : 1 ≤ x) : f_Mo_in x 1 4 = 0 ↔ 4 < x := by
  unfold f_Mo_in f_Mo_in_b14
  rw [if_neg (fun q => by rw [i_lt] at q; rw [i_le] at h; omega)]
  split
  · next q => exact ⟨fun _ => q, fun _ => rfl⟩
  · next q => exact ⟨fun w => absurd w (by decide), fun w => absurd w q⟩
theorem m_speaksL {M : Mem} {L : List (Int32 × Int32)} {sk : Int32} (hS : StM M L sk) : ∀ (l : List (Int32 × Int32)) (i fuel : Nat) (a : Int32), l = L.drop i → i ≤ L.length → l.length < fuel → f_Mo_speaksNow_l28 fuel a (nI i) M = some (spL a i l) := by
  have hL := hS.1
  intro l
  induction l with
  | nil =>
    intro i fuel a hl hi hf
    have hf : 0 < fuel := hf
    obtain ⟨g, rfl⟩ : ∃ g, fuel = g + 1 := ⟨fuel - 1, by omega⟩
    have hi2 := dnil hl
    show f_Mo_speaksNow_l28B (f_Mo_speaksNow_l28 g) a (nI i) M = _
    unfold f_Mo_speaksNow_l28B
    rw [hS.2.1, show i = L.length by omega, if_pos (Int32.le_refl _)]
    rfl
  | cons x l ih =>
    intro i fuel a hl hi hf
    have hf : l.length + 1 < fuel := hf
    obtain ⟨g, rfl⟩ : ∃ g, fuel = g + 1 := ⟨fuel - 1, by omega⟩
    obtain ⟨e1, e2, e3, e4⟩ := hS.2.2.1.at hl
    show f_Mo_speaksNow_l28B (f_Mo_speaksNow_l28 g) a (nI i) M = _
    unfold f_Mo_speaksNow_l28B f_Mo_speaksNow_b58 spL
    rw [hS.2.1, if_neg (fun q => by have := (nI_leI (by omega) (by omega)).mp q; omega), if_pos (gin_t (by omega) (by decide)), nI_clamp (by omega), e1]
    by_cases c : f_Mo_in x.1 1 4 = 0
    · rw [if_pos c, if_pos c, bn, nI_1]
      exact ih (i + 1) g _ e3 (by omega) (by omega)
    · rw [if_neg c, if_neg c, bn, nI_1]
      exact ih (i + 1) g _ e3 (by omega) (by omega)
theorem m_speaksNow {M : Mem} {L : List (Int32 × Int32)} {sk en : Int32} (hS : StM M L sk) (hE : M 91 10 = en) : f_Mo_speaksNow M = some (spn en L) := by
  have hL := hS.1
  have k := fun a => m_speaksL hS L 0 FU a rfl (Nat.zero_le _) (Nat.lt_trans (by omega) fu_lt)
  unfold f_Mo_speaksNow f_Mo_speaksNow_b18 f_Mo_speaksNow_b25 spn f_U_endSpeaks f_U_endSpeaks_b12
  rw [hE]
  by_cases c7 : en = 7
  · rw [if_pos c7, if_pos c7, if_neg (by decide)]; exact k 4096
  · rw [if_neg c7, if_neg c7]
    by_cases c8 : en = 8
    · rw [if_pos c8, if_pos c8, if_neg (by decide)]; exact k 4096
    · rw [if_neg c8, if_neg c8, if_pos rfl]; exact k 0
theorem spL_bit : ∀ (l : List (Int32 × Int32)) (i : Nat) (a : Int32) (k : Nat), k < 13 → i + l.length ≤ 12 → (f_Mo_isIn (spL a i l) (nI k) = 1 ↔ (f_Mo_isIn a (nI k) = 1 ∨ ∃ x, i ≤ k ∧ l[k - i]? = some x ∧ ¬ f_Mo_in x.1 1 4 = 0)) := by
  intro l
  induction l with
  | nil =>
    intro i a k hk hl
    unfold spL
    refine ⟨Or.inl, fun h => h.elim id (fun ⟨x, _, h2, _⟩ => by rw [List.getElem?_nil] at h2; cases h2)⟩
  | cons x l ih =>
    intro i a k hk hl
    have hl : i + (l.length + 1) ≤ 12 := hl
    unfold spL
    rw [ih (i + 1) _ k hk (by omega), isIn_or]
    have hb : f_Mo_isIn (if f_Mo_in x.1 1 4 = 0 then (0 : Int32) else (1 : Int32) <<< (nI i &&& 31)) (nI k) = 1 ↔ (k = i ∧ ¬ f_Mo_in x.1 1 4 = 0) := by
      by_cases c : f_Mo_in x.1 1 4 = 0
      · rw [if_pos c, isIn_0 k hk]
        exact ⟨fun q => absurd q (by decide), fun q => absurd c q.2⟩
      · rw [if_neg c, isIn_bit i (by omega) k hk]
        exact ⟨fun q => ⟨q.symm, c⟩, fun q => q.1.symm⟩
    rw [hb]
    constructor
    · rintro ((h | ⟨h1, h2⟩) | ⟨y, h1, h2, h3⟩)
      · exact Or.inl h
      · subst h1
        exact Or.inr ⟨x, Nat.le_refl _, by rw [Nat.sub_self]; rfl, h2⟩
      · refine Or.inr ⟨y, by omega, ?_, h3⟩
        rw [show k - i = (k - (i + 1)) + 1 by omega, List.getElem?_cons_succ]
        exact h2
    · rintro (h | ⟨y, h1, h2, h3⟩)
      · exact Or.inl (Or.inl h)
      · by_cases e : k = i
        · subst e
          rw [Nat.sub_self] at h2
          have h2 : some x = some y := h2
          injection h2 with h2
          subst h2
          exact Or.inl (Or.inr ⟨rfl, h3⟩)
        · refine Or.inr ⟨y, by omega, ?_, h3⟩
          rw [show k - i = (k - (i + 1)) + 1 by omega, List.getElem?_cons_succ] at h2
          exact h2
theorem spL_0 : ∀ (l : List (Int32 × Int32)) (i : Nat), fsp i l = none → KdOk l → spL 0 i l = 0 := by
  intro l
  induction l with
  | nil => intro i h k; rfl
  | cons x l ih =>
    intro i h k
    unfold fsp at h
    have hx := k x List.mem_cons_self
    by_cases c : 4 < x.1
    · rw [if_pos c] at h
      unfold spL
      rw [if_pos ((mo_in hx).mpr c)]
      exact ih (i + 1) h (fun y hy => k y (List.mem_cons_of_mem _ hy))
    · rw [if_neg c] at h; cases h
/-- where the reference joins -/
def jat (en : Int32) (L : List (Int32 × Int32)) : Option Nat := match fsp 0 L with
  | some k => some k
  | none => if f_U_endSpeaks en = 0 then none else some L.length
theorem m_joinAtL {M : Mem} {L : List (Int32 × Int32)} {sk en : Int32} (hS : StM M L sk) (hK : KdOk L) : ∀ (l : List (Int32 × Int32)) (i fuel : Nat), l = L.drop i → i ≤ L.length → l.length < fuel → fsp 0 L = fsp i l → f_Mo_joinAt_l7 fuel (spn en L) (nI i) M = some (jnI (jat en L)) := by
  have hL := hS.1
  have bit : ∀ i x, i < L.length → L[i]? = some x → (f_Mo_isIn (spn en L) (nI i) = 0 ↔ 4 < x.1) := fun i x hi hx => by
    have hm : x ∈ L := List.mem_of_getElem? hx
    rw [← mo_in (hK x hm)]
    have hb := spL_bit L 0 (if f_U_endSpeaks en = 0 then 0 else 4096) i (by omega) (by omega)
    have hst : ¬ f_Mo_isIn (if f_U_endSpeaks en = 0 then 0 else 4096) (nI i) = 1 := by
      by_cases c : f_U_endSpeaks en = 0
      · rw [if_pos c, isIn_0 i (by omega)]; decide
      · rw [if_neg c, isIn_end i (by omega)]; omega
    have hb2 : f_Mo_isIn (spn en L) (nI i) = 1 ↔ ¬ f_Mo_in x.1 1 4 = 0 := by
      unfold spn
      rw [hb]
      constructor
      · rintro (h | ⟨y, h1, h2, h3⟩)
        · exact absurd h hst
        · rw [Nat.sub_zero, hx] at h2
          injection h2 with h2
          subst h2
          exact h3
      · intro h
        exact Or.inr ⟨x, Nat.zero_le _, by rw [Nat.sub_zero]; exact hx, h⟩
    rcases isIn_01 (spn en L) (nI i) with q | q
    · rw [q]
      refine ⟨fun _ => ?_, fun _ => rfl⟩
      apply Classical.byContradiction
      intro w
      have := hb2.mpr w
      rw [q] at this
      exact absurd this (by decide)
    · rw [q]
      exact ⟨fun w => absurd w (by decide), fun w => absurd w (hb2.mp q)⟩
  intro l
  induction l with
  | nil =>
    intro i fuel hl hi hf hfs
    have hf : 0 < fuel := hf
    obtain ⟨g, rfl⟩ : ∃ g, fuel = g + 1 := ⟨fuel - 1, by omega⟩
    have hi2 := dnil hl
    have hfs : fsp 0 L = none := hfs
    show f_Mo_joinAt_l7B (f_Mo_joinAt_l7 g) (spn en L) (nI i) M = _
    unfold f_Mo_joinAt_l7B f_Mo_joinAt_b29 jat
    rw [hS.2.1, show i = L.length by omega, if_pos (Int32.le_refl _), hfs]
    show _ = some (jnI (if f_U_endSpeaks en = 0 then none else some L.length))
    by_cases c : f_U_endSpeaks en = 0
    · have h0 : spn en L = 0 := by unfold spn; rw [if_pos c]; exact spL_0 L 0 hfs hK
      rw [if_pos h0, if_pos c]; rfl
    · have h0 : ¬ spn en L = 0 := fun q => by
        have hb := (spL_bit L 0 (if f_U_endSpeaks en = 0 then 0 else 4096) 12 (by omega) (by omega)).mpr (Or.inl (by rw [if_neg c]; exact (isIn_end 12 (by decide)).mpr rfl))
        have q : spL (if f_U_endSpeaks en = 0 then 0 else 4096) 0 L = 0 := q
        rw [q, isIn_0 12 (by decide)] at hb
        exact absurd hb (by decide)
      rw [if_neg h0, if_neg c]; rfl
  | cons x l ih =>
    intro i fuel hl hi hf hfs
    have hf : l.length + 1 < fuel := hf
    obtain ⟨g, rfl⟩ : ∃ g, fuel = g + 1 := ⟨fuel - 1, by omega⟩
    obtain ⟨e1, e2, e3, e4⟩ := hS.2.2.1.at hl
    have hx : L[i]? = some x := by
      rw [List.drop_eq_getElem_cons e4] at hl
      injection hl with w1 w2
      rw [List.getElem?_eq_getElem e4, w1]
    have hb := bit i x e4 hx
    show f_Mo_joinAt_l7B (f_Mo_joinAt_l7 g) (spn en L) (nI i) M = _
    unfold f_Mo_joinAt_l7B f_Mo_joinAt_b29
    rw [hS.2.1, if_neg (fun q => by have := (nI_leI (by omega) (by omega)).mp q; omega)]
    by_cases c : 4 < x.1
    · rw [if_pos (hb.mpr c), nI_1]
      refine ih (i + 1) g e3 (by omega) (by omega) ?_
      rw [hfs]
      show (if 4 < x.1 then _ else _) = _
      rw [if_pos c]
    · have hne : ¬ spn en L = 0 := fun q => c (hb.mp (by rw [q]; exact isIn_0 i (by omega)))
      rw [if_neg (fun q => c (hb.mp q)), if_neg hne]
      have hfs2 : fsp 0 L = some i := by
        rw [hfs]
        show (if 4 < x.1 then _ else _) = _
        rw [if_neg c]
      unfold jat
      rw [hfs2]
      rfl
theorem m_joinAt {M : Mem} {L : List (Int32 × Int32)} {sk en : Int32} (hS : StM M L sk) (hE : M 91 10 = en) (hK : KdOk L) : f_Mo_joinAt M = some (jnI (jat en L)) := by
  have hL := hS.1
  unfold f_Mo_joinAt
  rw [m_speaksNow hS hE, Option.bind_some]
  exact m_joinAtL hS hK L 0 FU rfl (Nat.zero_le _) (Nat.lt_trans (by omega) fu_lt) rfl
