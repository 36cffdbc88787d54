-- ===== answers of the reference =====
/-- rows, present, sum, least, greatest, matches, the last one -/
def af1 (hv v : Int32) (s : Nat → Int32) : Nat → Int32 := fun k =>
  if k = 0 then s 0 + 1 else if k = 1 then s 1 + (if v = -1 then 0 else 1) else if k = 2 then s 2 + (if v = -1 then 0 else v)
  else if k = 3 then (if v = -1 then s 3 else if s 3 = -1 then v else if s 3 ≤ v then s 3 else v)
  else if k = 4 then (if v ≤ s 4 then s 4 else v)
  else if k = 5 then s 5 + (if v = -1 then 0 else if v = hv then 1 else 0) else v
def af (pr hv : Int32) (s : Nat → Int32) (x : T3) : Nat → Int32 := if x.2.2 = pr then af1 hv x.2.1 s else s
def af0 : Nat → Int32 := fun k => if k = 3 then -1 else if k = 4 then -1 else if k = 6 then -1 else 0
def tmE (en : Int32) : Mem := fun _ _ => en
def mch (hv : Int32) (s : Nat → Int32) : Int32 := if s 5 ≤ 0 then (if s 0 = 0 then 0 else if hv = -1 then -1 else if s 1 = s 0 then 0 else -1) else 1
def afin (en hv : Int32) (s : Nat → Int32) : Option Int32 := f_Mo_answerOf_b193 (s 0) (s 1) (s 2) (s 3) (s 4) (s 6) (mch hv s) (tmE en)
theorem m_b193 {M : Mem} {en a b c d e f g : Int32} (h : M 91 10 = en) : f_Mo_answerOf_b193 a b c d e f g M = f_Mo_answerOf_b193 a b c d e f g (tmE en) := by
  unfold f_Mo_answerOf_b193
  rw [h]
  rfl
theorem m_answerL {M : Mem} {L : List T3} {en pr hv : Int32} (hO : OuIs M L) (hE : M 91 10 = en) : ∀ (l : List T3) (i fuel : Nat) (s : Nat → Int32), l = L.drop i → i ≤ L.length → l.length < fuel → f_Mo_answerOf_l23 fuel pr hv (s 0) (s 1) (s 2) (s 3) (s 4) (s 6) (s 5) (nI i) M = afin en hv (l.foldl (af pr hv) s) := by
  have hL := hO.2.1
  intro l
  induction l with
  | nil =>
    intro i fuel s hl hi hf
    have hf : 0 < fuel := hf
    obtain ⟨g, rfl⟩ : ∃ g, fuel = g + 1 := ⟨fuel - 1, by omega⟩
    have hi2 := dnil hl
    show f_Mo_answerOf_l23B (f_Mo_answerOf_l23 g) pr hv (s 0) (s 1) (s 2) (s 3) (s 4) (s 6) (s 5) (nI i) M = afin en hv s
    unfold f_Mo_answerOf_l23B f_Mo_answerOf_b188 f_Mo_answerOf_b192 afin mch
    rw [hO.1, show i = L.length by omega, if_pos (Int32.le_refl _)]
    by_cases c5 : s 5 ≤ 0
    · rw [if_pos c5, if_pos c5]
      by_cases c0 : s 0 = 0
      · rw [if_pos c0, if_pos c0, m_b193 hE]
      · rw [if_neg c0, if_neg c0]
        by_cases ch : hv = -1
        · rw [if_pos ch, if_pos ch, m_b193 hE]
        · rw [if_neg ch, if_neg ch]
          by_cases c1 : s 1 = s 0
          · rw [if_pos c1, if_pos c1, m_b193 hE]
          · rw [if_neg c1, if_neg c1, m_b193 hE]
    · rw [if_neg c5, if_neg c5, m_b193 hE]
  | cons x l ih =>
    intro i fuel s hl hi hf
    have hf : l.length + 1 < fuel := hf
    obtain ⟨g, rfl⟩ : ∃ g, fuel = g + 1 := ⟨fuel - 1, by omega⟩
    obtain ⟨e1, e2, e3, e4, e5⟩ := hO.2.2.at hl
    have Gi : gin (nI i) 300 := gin_t (by omega) (by decide)
    have hci : (nI i).toNatClampNeg = i := nI_clamp (by omega)
    have next := ih (i + 1) g (af pr hv s x) e4 (by omega) (by omega)
    show f_Mo_answerOf_l23B (f_Mo_answerOf_l23 g) pr hv (s 0) (s 1) (s 2) (s 3) (s 4) (s 6) (s 5) (nI i) M = afin en hv (l.foldl (af pr hv) (af pr hv s x))
    rw [← next]
    unfold f_Mo_answerOf_l23B f_Mo_answerOf_b158
    rw [hO.1, if_neg (fun q => by have := (nI_leI (by omega) (by omega)).mp q; omega), if_pos Gi]
    simp only [hci]
    rw [e3, nI_1]
    by_cases cp : x.2.2 = pr
    · have ha : af pr hv s x = af1 hv x.2.1 s := if_pos cp
      rw [if_pos cp, if_pos Gi, bn, e2, ha]
      unfold f_Mo_answerOf_b72 f_Mo_answerOf_b89 f_Mo_answerOf_b116 f_Mo_answerOf_b111 f_Mo_answerOf_b118 f_Mo_answerOf_b134 f_Mo_answerOf_b154 f_Mo_answerOf_b155 f_Mo_answerOf_b158
      simp only [bn, nI_1]
      generalize x.2.1 = v
      by_cases cv : v = -1
      · simp only [if_pos cv, af1, if_true, if_false, Nat.reduceEqDiff]
        by_cases c4 : v ≤ s 4
        · simp only [if_pos c4]
        · simp only [if_neg c4]
      · simp only [if_neg cv, af1, if_true, if_false, Nat.reduceEqDiff]
        by_cases c3 : s 3 = -1
        · simp only [if_pos c3]
          by_cases c4 : v ≤ s 4
          · simp only [if_pos c4]
            by_cases ch : v = hv
            · simp only [if_pos ch]
            · simp only [if_neg ch]
          · simp only [if_neg c4]
            by_cases ch : v = hv
            · simp only [if_pos ch]
            · simp only [if_neg ch]
        · simp only [if_neg c3]
          by_cases c33 : s 3 ≤ v
          · simp only [if_pos c33]
            by_cases c4 : v ≤ s 4
            · simp only [if_pos c4]
              by_cases ch : v = hv
              · simp only [if_pos ch]
              · simp only [if_neg ch]
            · simp only [if_neg c4]
              by_cases ch : v = hv
              · simp only [if_pos ch]
              · simp only [if_neg ch]
          · simp only [if_neg c33]
            by_cases c4 : v ≤ s 4
            · simp only [if_pos c4]
              by_cases ch : v = hv
              · simp only [if_pos ch]
              · simp only [if_neg ch]
            · simp only [if_neg c4]
              by_cases ch : v = hv
              · simp only [if_pos ch]
              · simp only [if_neg ch]
    · have ha : af pr hv s x = s := if_neg cp
      rw [if_neg cp, ha]
theorem m_answer {M : Mem} {L : List T3} {en pr hv : Int32} (hO : OuIs M L) (hE : M 91 10 = en) : f_Mo_answerOf M pr hv = afin en hv (L.foldl (af pr hv) af0) :=
  m_answerL hO hE L 0 FU af0 rfl (Nat.zero_le _) (Nat.lt_of_le_of_lt hO.2.1 (Nat.lt_trans (by decide) fu_lt))
-- ===== its log and what it opens =====
def LgIs (M : Mem) (w : Nat) (lg : List Int32) : Prop := M 103 w = nI lg.length ∧ lg.length ≤ 200 ∧ AH (fun i => M 104 (200 * w + i)) lg
def LgP (w c k : Nat) : Prop := (c = 103 ∧ k = w) ∨ (c = 104 ∧ 200 * w ≤ k ∧ k < 200 * w + 200)
theorem LgIs.out {M M' : Mem} {w : Nat} {lg : List Int32} {P : Nat → Nat → Prop} (h : LgIs M w lg) (o : Out P M M') (hp : ∀ c k, P c k → ¬ LgP w c k) : LgIs M' w lg :=
  ⟨by rw [o _ _ (fun q => hp _ _ q (Or.inl ⟨rfl, rfl⟩))]; exact h.1, h.2.1, h.2.2.same (fun j hj => o _ _ (fun q => hp _ _ q (Or.inr ⟨rfl, by omega, by have := h.2.1; omega⟩)))⟩
theorem m_logs {M : Mem} {w : Nat} {lg : List Int32} {x : Int32} (hw : w < 2) (h : LgIs M w lg) : ∃ M', f_Mo_logs M (nI w) x = some M' ∧ LgIs M' w (tellF lg x) ∧ Out (LgP w) M M' := by
  have hl := h.2.1
  have Gw : gin (nI w) 2 := gin_t hw (by decide)
  have hcw : (nI w).toNatClampNeg = w := nI_clamp (by omega)
  have hmul : (200 : Int32) * nI w + nI lg.length = nI (200 * w + lg.length) := by rw [show (200 : Int32) = nI 200 from rfl, pk_mul, nI_add]
  unfold f_Mo_logs tellF
  rw [if_pos Gw]
  simp only [hcw]
  rw [h.1, hmul]
  by_cases e : lg.length < 200
  · have G4 : gin (nI (200 * w + lg.length)) 400 := gin_t (by omega) (by decide)
    have hc4 : (nI (200 * w + lg.length)).toNatClampNeg = 200 * w + lg.length := nI_clamp (by omega)
    rw [if_neg (fun q => by have := (nI_leI (a := 200) (by decide) (by omega)).mp q; omega), if_pos Gw, if_pos G4]
    simp only [hc4]
    rw [bn, if_pos Gw, if_pos Gw, bn, if_pos e, ms_c _ _ (show 103 ≠ 104 by decide), h.1, nI_1]
    refine ⟨_, rfl, ⟨?_, ?_, ?_⟩, (Out.set (Or.inr ⟨rfl, by omega, by omega⟩)).trans (Out.set (Or.inl ⟨rfl, rfl⟩))⟩
    · rw [ms_s, List.length_append]; rfl
    · rw [List.length_append]; show lg.length + 1 ≤ 200; omega
    · refine h.2.2.snoc (fun j hj => ?_) ?_
      · show mset _ _ _ _ 104 (200 * w + j) = _
        rw [ms_c _ _ (by decide), ms_k _ _ (by omega)]
      · show mset _ _ _ _ 104 (200 * w + lg.length) = _
        rw [ms_c _ _ (by decide), ms_s]
  · have e2 : (200 : Int32) ≤ nI lg.length := (nI_leI (a := 200) (b := lg.length) (by decide) (by omega)).mpr (by omega)
    rw [if_pos e2, if_neg e]
    exact ⟨M, rfl, h, Out.rfl⟩
def OpP (w c k : Nat) : Prop := LgP w c k ∨ (c = 102 ∧ k = 5 * w + 2)
theorem m_opens {M : Mem} {w : Nat} {lg : List Int32} {x : Int32} (hw : w < 2) (h : LgIs M w lg) : ∃ M', f_Mo_opens M (nI w) x = some M' ∧ LgIs M' w (tellF lg x) ∧ M' 102 (5 * w + 2) = M 102 (5 * w + 2) + 1 ∧ Out (OpP w) M M' := by
  unfold f_Mo_opens
  obtain ⟨M1, a1, a2, a3⟩ := m_logs (x := x) hw h
  have hmul : (5 : Int32) * nI w + 2 = nI (5 * w + 2) := by rw [show (5 : Int32) = nI 5 from rfl, pk_mul, show (2 : Int32) = nI 2 from rfl, nI_add]
  have G : gin (nI (5 * w + 2)) 10 := gin_t (by omega) (by decide)
  have hc : (nI (5 * w + 2)).toNatClampNeg = 5 * w + 2 := nI_clamp (by omega)
  rw [a1, Option.bind_some, hmul, if_pos G, if_pos G]
  simp only [hc]
  rw [bn]
  have o1 : Out (fun c k => c = 102 ∧ k = 5 * w + 2) M1 (mset M1 102 (5 * w + 2) (M1 102 (5 * w + 2) + 1)) := Out.set ⟨rfl, rfl⟩
  refine ⟨_, rfl, a2.out o1 (fun c k q => by unfold LgP; omega), ?_, (a3.mono (fun c k q => Or.inl q)).trans (o1.mono (fun c k q => Or.inr q))⟩
  rw [ms_s, a3 _ _ (by unfold LgP; omega)]
def BnP (w c k : Nat) : Prop := (c = 103 ∧ k = w) ∨ (c = 100 ∧ k = w) ∨ (c = 102 ∧ 5 * w ≤ k ∧ k < 5 * w + 5) ∨ (c = 91 ∧ (k = 28 ∨ k = 29))
theorem m_beginsL {w : Nat} (hw : w < 2) : ∀ (d i fuel : Nat) (M : Mem), d + i = 5 → d < fuel → (∀ q, q < i → M 102 (5 * w + q) = 0) →
    ∃ M', f_Mo_begins_l16 fuel (nI w) (nI i) M = some M' ∧ (∀ q, q < 5 → M' 102 (5 * w + q) = 0) ∧ M' 91 28 = 0 ∧ M' 91 29 = 0 ∧ Out (fun c k => (c = 102 ∧ 5 * w ≤ k ∧ k < 5 * w + 5) ∨ (c = 91 ∧ (k = 28 ∨ k = 29))) M M' := by
  intro d
  induction d with
  | zero =>
    intro i fuel M hd hf hz
    obtain ⟨g, rfl⟩ : ∃ g, fuel = g + 1 := ⟨fuel - 1, by omega⟩
    refine ⟨mset (mset M 91 28 0) 91 29 0, ?_, fun q hq => ?_, ?_, ?_, (Out.set (Or.inr ⟨rfl, Or.inl rfl⟩)).trans (Out.set (Or.inr ⟨rfl, Or.inr rfl⟩))⟩
    · show f_Mo_begins_l16B (f_Mo_begins_l16 g) (nI w) (nI i) M = _
      unfold f_Mo_begins_l16B
      rw [show i = 5 by omega, if_pos (by decide), bn, bn]
    · rw [ms_c _ _ (by decide), ms_c _ _ (by decide)]; exact hz q (by omega)
    · rw [ms_k _ _ (by decide), ms_s]
    · rw [ms_s]
  | succ d ih =>
    intro i fuel M hd hf hz
    obtain ⟨g, rfl⟩ : ∃ g, fuel = g + 1 := ⟨fuel - 1, by omega⟩
    have hmul : (5 : Int32) * nI w + nI i = nI (5 * w + i) := by rw [show (5 : Int32) = nI 5 from rfl, pk_mul, nI_add]
    have G : gin (nI (5 * w + i)) 10 := gin_t (by omega) (by decide)
    obtain ⟨M', a1, a2, a3, a4, a5⟩ := ih (i + 1) g (mset M 102 (5 * w + i) 0) (by omega) (by omega) (fun q hq => by
      by_cases e : q = i
      · rw [e, ms_s]
      · rw [ms_k _ _ (by omega)]; exact hz q (by omega))
    have o0 : Out (fun c k => (c = 102 ∧ 5 * w ≤ k ∧ k < 5 * w + 5) ∨ (c = 91 ∧ (k = 28 ∨ k = 29))) M (mset M 102 (5 * w + i) 0) := Out.set (Or.inl ⟨rfl, by omega, by omega⟩)
    refine ⟨M', ?_, a2, a3, a4, o0.trans a5⟩
    show f_Mo_begins_l16B (f_Mo_begins_l16 g) (nI w) (nI i) M = _
    unfold f_Mo_begins_l16B
    rw [if_neg (fun q => by have := (nI_leI (a := 5) (by decide) (by omega)).mp q; omega), hmul, if_pos G, nI_clamp (by omega), bn, nI_1]
    exact a1
theorem m_begins {M : Mem} {w : Nat} (hw : w < 2) : ∃ M', f_Mo_begins M (nI w) = some M' ∧ LgIs M' w [] ∧ M' 100 w = -1 ∧ (∀ q, q < 5 → M' 102 (5 * w + q) = 0) ∧ M' 91 28 = 0 ∧ M' 91 29 = 0 ∧ Out (BnP w) M M' := by
  have Gw : gin (nI w) 2 := gin_t hw (by decide)
  have hcw : (nI w).toNatClampNeg = w := nI_clamp (by omega)
  obtain ⟨M', a1, a2, a3, a4, a5⟩ := m_beginsL hw 5 0 FU (mset (mset M 103 w 0) 100 w (-1)) (by omega) (by decide) (fun q h => absurd h (Nat.not_lt_zero q))
  have o0 : Out (BnP w) M (mset (mset M 103 w 0) 100 w (-1)) := (Out.set (Or.inl ⟨rfl, rfl⟩)).trans (Out.set (Or.inr (Or.inl ⟨rfl, rfl⟩)))
  refine ⟨M', ?_, ⟨?_, Nat.zero_le _, AH.nil⟩, ?_, a2, a3, a4, o0.trans (a5.mono (fun c k q => Or.inr (Or.inr q)))⟩
  · unfold f_Mo_begins
    rw [if_pos Gw, bn, if_pos Gw]
    simp only [hcw]
    rw [bn]
    exact a1
  · rw [a5 _ _ (by omega), ms_c _ _ (by decide), ms_s]; rfl
  · rw [a5 _ _ (by omega), ms_s]
