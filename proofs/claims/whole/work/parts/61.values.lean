-- ===== values that calls tell =====
def dP (D : DT) (e p : Nat) : RS := if p = 0 then dR D e (-1) else dF D e
def vAn (s : RS) (i : Nat) : Int32 := if s.1 = -1 then fs1 s.2.2.2.1 i else -3
def vCo (s : RS) (w : Nat) : Int32 := if w = 0 then s.2.1 else if w = 1 then s.2.2.1 else if w = 2 then nI s.2.2.2.2.2.1 else if w = 3 then nI s.2.2.2.2.2.2 else 0
def vLo (s : RS) (i : Nat) : Int32 := if i < s.2.2.2.2.1.length then s.2.2.2.2.1.getD i 0 else -1
def dCo (D : DT) : List (Int32 × Int32) := (fco (nI D.2.2) (dL D)).1
def dPs (D : DT) : List (Int32 × Int32) := fps (nI D.2.2) (dL D) (dO D)
def vPl (D : DT) (i : Nat) : Int32 := if i < (dCo D).length then fs1 (dCo D) i else -1
def vDo (D : DT) (i w : Nat) : Int32 := if i < (dPs D).length then (if w = 0 then fs1 (dPs D) i else fs2 (dPs D) i) else -3
def alk (f g : Nat → Int32) : Nat → Nat → Bool
  | 0, _ => true
  | d + 1, i => if f i = g i then alk f g d (i + 1) else false
def vLk (s t : RS) (n : Nat) : Int32 := if s.1 = t.1 then (if s.1 = -1 then (if alk (fs1 s.2.2.2.1) (fs1 t.2.2.2.1) n 0 = true then 1 else 0) else 1) else 0
def rto (e : Nat) (f : Nat → Int32) : Nat → Nat → Int32 → Int32
  | 0, _, a => a
  | d + 1, i, a => rto e f d (i + 1) (if f i = -1 then a else if e = 4 then (f_Mo_added a (f i)).getD 0 else a + f i)
def vTo (D : DT) : Int32 := if (dR D D.2.2 (-1)).1 = -1 then rto D.2.2 (fs1 (dR D D.2.2 (-1)).2.2.2.1) (dO D).length 0 0 else -3
def vRo (D : DT) (t i w : Nat) : Int32 := if i < (if t = 0 then dO D else dI D).length then (if w = 0 then fs1 (if t = 0 then dO D else dI D) i else fs2 (if t = 0 then dO D else dI D) i) else -2
def vSt (D : DT) (i w : Nat) : Int32 := if i < (dL D).length then (if w = 0 then fs1 (dL D) i else fs2 (dL D) i) else -2
theorem dP_ok {D : DT} (h : DOk D) {e p : Nat} (he : e < 9) : ((dP D e p).1 = -1 → (dP D e p).2.2.2.1.length = (dO D).length ∧ ∀ y, y ∈ (dP D e p).2.2.2.1 → AnOk e y) ∧ ((dP D e p).1 = -1 ∨ ∃ i, i < (dO D).length ∧ (dP D e p).1 = nI i) := by
  unfold dP
  by_cases hp : p = 0
  · rw [if_pos hp]
    obtain ⟨-, m, a2, a3, a4, a5⟩ := dR_ok h he (sk_none (dL_l h))
    exact ⟨fun hx => ⟨a4 hx, (a3.2.2.2.1 hx).2⟩, a5⟩
  · rw [if_neg hp]
    obtain ⟨-, an, ff, -⟩ := dF_ok h he
    exact ⟨fun hx => ⟨(ff.2.2.2.1 hx).1, (ff.2.2.2.1 hx).2.2⟩, ff.2.2.2.2.1⟩
-- the class
theorem RRel.ans {o : Nat} {M : Mem} {s : RS} {cu i n : Nat} (h : RRel o M s cu) (hl : s.1 = -1 → s.2.2.2.1.length = n) (hi : i < n) (hn : n ≤ 10) : f_Report_answerOf (o + 8) M (nI i) = some (vAn s i) := by
  unfold f_Report_answerOf vAn
  rw [h.1.1]
  by_cases h1 : s.1 = -1
  · rw [if_pos h1, if_pos h1, if_pos (gin_t (by omega) (by decide)), nI_clamp (by omega), (h.1.2.fs (by rw [hl h1]; exact hi)).1]
  · rw [if_neg h1, if_neg h1]
theorem RRel.cost {o : Nat} {M : Mem} {s : RS} {w : Nat} (h : RRel o M s 0) (hw : w < 5) : f_Report_costOf (o + 8) M (nI w) = vCo s w := by
  obtain ⟨a1, a2, a3, a4⟩ := h
  have hc : w = 0 ∨ w = 1 ∨ w = 2 ∨ w = 3 ∨ w = 4 := by omega
  rcases hc with rfl | rfl | rfl | rfl | rfl
  · exact a2
  · exact a3
  · exact a4.op
  · exact a4.mo
  · exact a4.cu
theorem RRel.log {o : Nat} {M : Mem} {s : RS} {cu i : Nat} (h : RRel o M s cu) (hi : i < 200) : f_Report_loggedAt (o + 8) M (nI i) = some (vLo s i) := by
  obtain ⟨a1, a2, a3, a4⟩ := h
  unfold f_Report_loggedAt vLo
  have hl := a4.l
  rw [a4.s]
  by_cases hc : i < s.2.2.2.2.1.length
  · rw [within_t hc (by omega), if_neg (by decide), if_pos hc, if_pos (gin_t (by omega) (by decide)), nI_clamp (by omega)]
    have := a4.h i hc
    rw [← this]
  · rw [if_neg hc]
    have : f_U_within (nI i) (nI s.2.2.2.2.1.length) = 0 := by
      by_cases q : f_U_within (nI i) (nI s.2.2.2.2.1.length) = 0
      · exact q
      · obtain ⟨j, hj, e⟩ := (within_iff (by omega)).mp q
        have := nI_inj (by omega) (by omega) e
        omega
    rw [if_pos this]
theorem within_f {i n : Nat} (hi : i < 2 ^ 31) (hn : n < 2 ^ 31) (h : ¬ i < n) : f_U_within (nI i) (nI n) = 0 := by
  by_cases q : f_U_within (nI i) (nI n) = 0
  · exact q
  · obtain ⟨j, hj, e⟩ := (within_iff hn).mp q
    have := nI_inj hi (by omega) e
    omega
theorem c_plan {D : DT} {M : Mem} (hC : CRan D M) {i : Nat} (hi : i < 20) : f_Course_codeAt 68 M (nI i) = some (vPl D i) := by
  obtain ⟨c1, c2, c3, c4⟩ := hC.2.2.1
  unfold f_Course_codeAt vPl
  rw [c1]
  by_cases hc : i < (dCo D).length
  · have hc' : i < (fco (nI D.2.2) (dL D)).1.length := hc
    rw [within_t hc' (by omega), if_neg (by decide), if_pos hc, if_pos (gin_t (by omega) (by decide)), nI_clamp (by omega), (c3.fs hc).1]
    rfl
  · have hc' : ¬ i < (fco (nI D.2.2) (dL D)).1.length := hc
    rw [within_f (by omega) (by omega) hc', if_pos rfl, if_neg hc]
theorem c_pair {D : DT} {M : Mem} (hC : CRan D M) {i w : Nat} (hi : i < 10) (hw : w < 2) : f_U_pairPart M (nI i) (nI w) = some (vDo D i w) := by
  obtain ⟨c1, c2, c3⟩ := hC.2.2.2
  have c1' : M 71 3 = nI (dPs D).length := c1
  have c2' : (dPs D).length ≤ 10 := c2
  unfold f_U_pairPart vDo
  rw [c1']
  by_cases hc : i < (dPs D).length
  · have hs : M 72 i = fs1 (dPs D) i ∧ M 73 i = fs2 (dPs D) i := SH.fs (l := dPs D) c3 hc
    rw [within_t hc (by omega), if_neg (by decide), if_pos hc, if_pos (gin_t (by omega) (by decide)), if_pos (gin_t (by omega) (by decide)), nI_clamp (by omega), hs.1, hs.2]
    by_cases h0 : w = 0
    · rw [if_pos (show nI w = 0 by rw [h0]; rfl), if_pos h0]
    · rw [if_neg (nI_ne0 (by omega) (by omega)), if_neg h0]
  · rw [within_f (by omega) (by omega) hc, if_pos rfl, if_neg hc]
theorem c_likeL {M : Mem} {o a n : Nat} {f g : Nat → Int32} (hn : n ≤ 10) (hf : ∀ i, i < n → M (o + 1) i = f i) (hg : ∀ i, i < n → M (a + 1) i = g i) : ∀ (d i fuel : Nat), d + i = n → d < fuel → f_Report_isLike_l35 o a fuel (nI n) (nI i) M = some (if alk f g d i = true then 1 else 0) := by
  intro d
  induction d with
  | zero =>
    intro i fuel hi hf2
    obtain ⟨k, rfl⟩ : ∃ k, fuel = k + 1 := ⟨fuel - 1, by omega⟩
    have e : i = n := by omega
    subst e
    show f_Report_isLike_l35B o a _ _ _ _ = _
    unfold f_Report_isLike_l35B
    rw [if_pos (Int32.le_refl _)]
    rfl
  | succ d ih =>
    intro i fuel hi hf2
    obtain ⟨k, rfl⟩ : ∃ k, fuel = k + 1 := ⟨fuel - 1, by omega⟩
    show f_Report_isLike_l35B o a _ _ _ _ = _
    unfold f_Report_isLike_l35B
    rw [if_neg (fun q => by rw [nI_leI (by omega) (by omega)] at q; omega), if_pos (gin_t (by omega) (by decide)), if_pos (gin_t (by omega) (by decide)), nI_clamp (by omega), hf i (by omega), hg i (by omega), nI_1, ih (i + 1) k (by omega) (by omega)]
    show _ = some (if (if f i = g i then alk f g d (i + 1) else false) = true then 1 else 0)
    by_cases h : f i = g i
    · rw [if_pos h, if_pos h]
    · rw [if_neg h, if_neg h]
      rfl
theorem c_like {M : Mem} {o a n : Nat} {s t : RS} {cu cv : Nat} (hn : n ≤ 10) (h1 : RRel o M s cu) (h2 : RRel a M t cv) (l1 : s.1 = -1 → s.2.2.2.1.length = n) (l2 : t.1 = -1 → t.2.2.2.1.length = n) : f_Report_isLike (o + 8) (a + 8) M (nI n) = some (vLk s t n) := by
  unfold f_Report_isLike f_Report_isLike_b16 vLk
  rw [h1.1.1, h2.1.1]
  by_cases c1 : s.1 = -1
  · by_cases c2 : t.1 = -1
    · rw [if_pos c1, if_pos c2, if_pos (by rw [c1, c2]), if_pos c1]
      exact c_likeL hn (fun i hi => (h1.1.2.fs (by rw [l1 c1]; exact hi)).1) (fun i hi => (h2.1.2.fs (by rw [l2 c2]; exact hi)).1) n 0 FU rfl (Nat.lt_of_le_of_lt hn (Nat.lt_trans (by decide) fu_lt))
    · rw [if_pos c1, if_neg c2]
      have : ¬ s.1 = t.1 := fun q => c2 (by rw [← q]; exact c1)
      rw [if_neg this, if_neg this]
  · rw [if_neg c1, if_neg c1]
    by_cases c3 : s.1 = t.1
    · rw [if_pos c3, if_pos c3]
    · rw [if_neg c3, if_neg c3]
theorem toU_toI (u : UInt32) : (UInt32.toInt32 u).toUInt32 = u := rfl
theorem c_togL {M : Mem} {o e n : Nat} {l : List (Int32 × Int32)} (hn : n ≤ 10) (hl : l.length = n) (hS : SH (M (o + 1)) (M (o + 2)) l) (hA : ∀ y, y ∈ l → AnOk e y) (he : e < 9) : ∀ (d i fuel : Nat) (a a3 : Int32) (F : UInt32), d + i = n → d < fuel → Nice (144 + i) F → (e = 4 → UInt32.toInt32 F = a) → (¬ e = 4 → a3 = a) →
    f_Report_together_l19 o fuel (nI e) (nI n) a3 F (nI i) M = some (rto e (fs1 l) d i a) := by
  intro d
  induction d with
  | zero =>
    intro i fuel a a3 F hi hf hN h4 h3
    obtain ⟨k, rfl⟩ : ∃ k, fuel = k + 1 := ⟨fuel - 1, by omega⟩
    have ei : i = n := by omega
    subst ei
    show f_Report_together_l19B o _ _ _ _ _ _ _ = _
    unfold f_Report_together_l19B
    rw [if_pos (Int32.le_refl _)]
    by_cases c : e = 4
    · rw [if_pos (show nI e = 4 by rw [c]; rfl), fl_bits hN (by omega), h4 c]
      rfl
    · rw [if_neg (show ¬ nI e = 4 from fun q => c ((nI_eq (b := 4) (by omega) (by decide)).mp q)), h3 c]
      rfl
  | succ d ih =>
    intro i fuel a a3 F hi hf hN h4 h3
    obtain ⟨k, rfl⟩ : ∃ k, fuel = k + 1 := ⟨fuel - 1, by omega⟩
    have hil : i < l.length := by omega
    obtain ⟨s1, s2⟩ := hS.fs hil
    have hmem : l.getD i (0, 0) ∈ l := by
      rw [List.getD_eq_getElem?_getD, List.getElem?_eq_getElem hil]
      exact List.getElem_mem _
    obtain ⟨o1, mn, o2, o3, o4⟩ := hA _ hmem
    have o3' : fs2 l i = UInt32.toInt32 mn := o3
    have o4' : e = 4 → ¬ fs1 l i = -1 → fs2 l i = fs1 l i := o4
    show f_Report_together_l19B o _ _ _ _ _ _ _ = _
    have ec : (nI i).toNatClampNeg = i := nI_clamp (by omega)
    unfold f_Report_together_l19B f_Report_together_b58
    show _ = some (rto e (fs1 l) d (i + 1) (if fs1 l i = -1 then a else if e = 4 then (f_Mo_added a (fs1 l i)).getD 0 else a + fs1 l i))
    rw [if_neg (fun q => by rw [nI_leI (by omega) (by omega)] at q; omega), if_pos (gin_t (by omega) (by decide))]
    simp only [ec, s1, s2, o3', toU_toI, nI_1]
    by_cases c1 : fs1 l i = -1
    · rw [if_pos c1, if_pos c1]
      exact ih (i + 1) k a a3 F (by omega) (by omega) (by
        rcases hN with q | ⟨E, t, q1, q2, q3, q4⟩
        · exact Or.inl q
        · exact Or.inr ⟨E, t, q1, by omega, q3, q4⟩) h4 h3
    · have hmn : Nice (144 + i) mn := by
        rcases o2 with q | ⟨E, t, q1, q2, q3, q4⟩
        · exact Or.inl q
        · exact Or.inr ⟨E, t, q1, by omega, q3, q4⟩
      obtain ⟨f1, f2, f3⟩ := fl_add hN hmn (by omega)
      rw [if_neg c1, if_neg c1, if_pos (gin_t (by omega) (by decide)), bn, if_pos (gin_t (by omega) (by decide)), if_pos f1, bn]
      refine ih (i + 1) k _ _ _ (by omega) (by omega) f2 (fun c => ?_) (fun c => ?_)
      · rw [if_pos c, ← h4 c, ← o4' c c1, o3', f3]
        rfl
      · rw [if_neg c, h3 c]
theorem c_total {D : DT} (h : DOk D) {M : Mem} (hC : CRan D M) : f_Report_together 63 M (nI D.2.2) (nI (dO D).length) = some (vTo D) := by
  have hR := hC.1
  have hd := (dP_ok h (e := D.2.2) (p := 0) h.2.2.2).1
  have e0 : dP D D.2.2 0 = dR D D.2.2 (-1) := rfl
  rw [e0] at hd
  unfold f_Report_together vTo
  rw [show M 63 4 = (dR D D.2.2 (-1)).1 from hR.1.1]
  by_cases c : (dR D D.2.2 (-1)).1 = -1
  · rw [if_pos c, if_pos c]
    exact c_togL (o := 63) (dO_l h) (hd c).1 hR.1.2 (hd c).2 h.2.2.2 (dO D).length 0 FU 0 0 FP.fconst0 rfl (Nat.lt_of_le_of_lt (dO_l h) (Nat.lt_trans (by decide) fu_lt)) (Or.inl rfl) (fun _ => rfl) (fun _ => rfl)
  · rw [if_neg c, if_neg c]
theorem spL_or : ∀ (l : List (Int32 × Int32)) (i : Nat) (a b : Int32), spL (a ||| b) i l = spL a i l ||| b := by
  intro l
  induction l with
  | nil => intro i a b; rfl
  | cons x l ih =>
    intro i a b
    unfold spL
    rw [← ih]
    congr 1
    rw [Int32.or_assoc, Int32.or_assoc, Int32.or_comm b]
theorem c_spkL {M : Mem} {L : List (Int32 × Int32)} {fl : Int32} (hL : L.length ≤ 12) (hK : KdOk L) (hS : StpIs M fl L) : ∀ (l : List (Int32 × Int32)) (i fuel : Nat) (a : Int32), l = L.drop i → i ≤ L.length → l.length < fuel → f_Steps_speakingBits_l4 fuel a (nI i) M = some (spL a i l) := by
  intro l
  induction l with
  | nil =>
    intro i fuel a hl hi hf
    obtain ⟨k, rfl⟩ : ∃ k, fuel = k + 1 := ⟨fuel - 1, by have : 0 < fuel := hf; omega⟩
    have := dnil hl
    have e : i = L.length := by omega
    subst e
    show f_Steps_speakingBits_l4B _ _ _ _ = _
    unfold f_Steps_speakingBits_l4B
    rw [hS.2.1, if_pos (Int32.le_refl _)]
    rfl
  | cons x l ih =>
    intro i fuel a hl hi hf
    have hf' : l.length + 1 < fuel := hf
    obtain ⟨k, rfl⟩ : ∃ k, fuel = k + 1 := ⟨fuel - 1, by omega⟩
    obtain ⟨s1, s2, s3, s4⟩ := hS.at hl
    have hx : 1 ≤ x.1 := hK x (List.mem_of_mem_drop (by rw [← hl]; exact List.mem_cons_self))
    have ex := mo_in hx
    show f_Steps_speakingBits_l4B _ _ _ _ = _
    unfold f_Steps_speakingBits_l4B f_Steps_speaksAt f_Steps_speakingBits_b26 spL
    rw [hS.2.1, if_neg (fun q => by rw [nI_leI (by omega) (by omega)] at q; omega), if_pos (gin_t (by omega) (by decide)), nI_clamp (by omega), s1, nI_1]
    by_cases c : 4 < x.1
    · rw [if_pos c, Option.bind_some, if_pos rfl, if_pos (ex.mpr c), Int32.or_zero]
      exact ih (i + 1) k a s3 (by omega) (by omega)
    · rw [if_neg c, Option.bind_some, if_neg (by decide), bn, if_neg (fun q => c (ex.mp q))]
      exact ih (i + 1) k _ s3 (by omega) (by omega)
theorem c_speaks {D : DT} (h : DOk D) {M : Mem} (hE : EC D M) : f_U_speaks M = some (spn (nI D.2.2) (dL D)) := by
  have e6 : M 0 6 = nI D.2.2 := hE.2.2.2.2.2.2.2
  have e1 : f_Steps_speakingBits M = some (spL 0 0 (dL D)) := c_spkL (dL_l h) dL_K hE.2.2.2.2.2.2.1 (dL D) 0 FU 0 rfl (Nat.zero_le _) (Nat.lt_of_le_of_lt (dL_l h) (Nat.lt_trans (by decide) fu_lt))
  unfold f_U_speaks f_U_speaks_b27 spn
  rw [e1, Option.bind_some, e6]
  by_cases c : f_U_endSpeaks (nI D.2.2) = 0
  · rw [if_pos c, if_pos c, Int32.or_zero]
  · rw [if_neg c, if_neg c]
    have := spL_or (dL D) 0 0 4096
    rw [Int32.zero_or] at this
    rw [this]
theorem c_row {D : DT} (h : DOk D) {M : Mem} (hE : EC D M) {t i w : Nat} (ht : t < 2) (hi : i < 10) (hw : w < 2) : f_U_row M (nI t) (nI i) (nI w) = some (vRo D t i w) := by
  have hcase : t = 0 ∨ t = 1 := by omega
  have w2 : ¬ f_U_within (nI w) 2 = 0 := by
    have := within_t (j := w) (n := 2) hw (by decide)
    rw [show (2 : Int32) = nI 2 from rfl, this]; decide
  have t2 : ¬ f_U_within (nI t) 2 = 0 := by
    have := within_t (j := t) (n := 2) ht (by decide)
    rw [show (2 : Int32) = nI 2 from rfl, this]; decide
  have w0 : (nI w = 0) ↔ w = 0 := nI_eq (b := 0) (by omega) (by decide)
  unfold f_U_row f_U_row_b31 vRo
  rw [if_neg t2, if_neg w2]
  have key : ∀ (o : Nat) (l : List (Int32 × Int32)), M o 2 = nI l.length → l.length ≤ 10 → SH (M (o + 1)) (M (o + 2)) l → (if f_U_within (nI i) (M o 2) = 0 then some (-2) else if nI w = 0 then (if gin (nI i) 10 then some (M (o + 1) (nI i).toNatClampNeg) else none) else (if gin (nI i) 10 then some (M (o + 2) (nI i).toNatClampNeg) else none)) = some (if i < l.length then (if w = 0 then fs1 l i else fs2 l i) else -2) := by
    intro o l h1 h2 h3
    rw [h1]
    by_cases hc : i < l.length
    · obtain ⟨s1, s2⟩ := h3.fs hc
      rw [within_t hc (by omega), if_neg (by decide), if_pos hc, if_pos (gin_t (by omega) (by decide)), if_pos (gin_t (by omega) (by decide)), nI_clamp (by omega), s1, s2]
      by_cases h0 : w = 0
      · rw [if_pos (w0.mpr h0), if_pos h0]
      · rw [if_neg (fun q => h0 (w0.mp q)), if_neg h0]
    · rw [within_f (by omega) (by omega) hc, if_pos rfl, if_neg hc]
  rcases hcase with rfl | rfl
  · exact key 4 (dO D) hE.1 (dO_l h) hE.2.1
  · exact key 7 (dI D) hE.2.2.2.1 (dI_l h) hE.2.2.2.2.1
theorem c_step {D : DT} (h : DOk D) {M : Mem} (hE : EC D M) {i w : Nat} (hi : i < 12) (hw : w < 2) : f_U_step M (nI i) (nI w) = some (vSt D i w) := by
  have w2 : ¬ f_U_within (nI w) 2 = 0 := by
    have := within_t (j := w) (n := 2) hw (by decide)
    rw [show (2 : Int32) = nI 2 from rfl, this]; decide
  have w0 : (nI w = 0) ↔ w = 0 := nI_eq (b := 0) (by omega) (by decide)
  have hS := hE.2.2.2.2.2.2.1
  have hl := dL_l h
  unfold f_U_step f_U_step_b25 vSt
  rw [if_neg w2, hS.2.1]
  by_cases hc : i < (dL D).length
  · obtain ⟨s1, s2⟩ := hS.2.2.fs hc
    rw [within_t hc (by omega), if_neg (by decide), if_pos hc, if_pos (gin_t (by omega) (by decide)), if_pos (gin_t (by omega) (by decide)), nI_clamp (by omega), s1, s2]
    by_cases h0 : w = 0
    · rw [if_pos (w0.mpr h0), if_pos h0]
    · rw [if_neg (fun q => h0 (w0.mp q)), if_neg h0]
  · rw [within_f (by omega) (by omega) hc, if_pos rfl, if_neg hc]
theorem c_fault {D : DT} {M : Mem} (hE : EC D M) {t : Nat} (ht : t < 3) : f_U_fault M (nI t) = dFa D t := by
  have t2 : ¬ f_U_within (nI t) 3 = 0 := by
    have := within_t (j := t) (n := 3) ht (by decide)
    rw [show (3 : Int32) = nI 3 from rfl, this]; decide
  unfold f_U_fault
  rw [if_neg t2]
  have hcase : t = 0 ∨ t = 1 ∨ t = 2 := by omega
  rcases hcase with rfl | rfl | rfl
  · exact hE.2.2.1
  · exact hE.2.2.2.2.2.1
  · exact hE.2.2.2.2.2.2.1.1
