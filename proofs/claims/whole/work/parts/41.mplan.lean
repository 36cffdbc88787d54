-- ===== the plan of the reference =====
def PlIs (M : Mem) (l : List Int32) : Prop := M 91 35 = nI l.length ∧ l.length ≤ 20 ∧ AH (M 117) l
def PlP (c k : Nat) : Prop := c = 117 ∨ (c = 91 ∧ k = 35)
/-- one code more -/
theorem m_plan1 {M : Mem} {l : List Int32} {x : Int32} (h : PlIs M l) (hl : l.length < 20) : gin (M 91 35) 20 ∧ PlIs (mset (mset M 117 (M 91 35).toNatClampNeg x) 91 35 ((mset M 117 (M 91 35).toNatClampNeg x) 91 35 + 1)) (l ++ [x]) ∧ Out PlP M (mset (mset M 117 (M 91 35).toNatClampNeg x) 91 35 ((mset M 117 (M 91 35).toNatClampNeg x) 91 35 + 1)) := by
  have hc : (nI l.length).toNatClampNeg = l.length := nI_clamp (by omega)
  rw [h.1, hc, ms_c _ _ (show 91 ≠ 117 by decide), h.1, nI_1]
  refine ⟨gin_t hl (by decide), ⟨?_, ?_, ?_⟩, (Out.set (Or.inl rfl)).trans (Out.set (Or.inr ⟨rfl, rfl⟩))⟩
  · rw [ms_s, List.length_append]; rfl
  · rw [List.length_append]; show l.length + 1 ≤ 20; omega
  · refine h.2.2.snoc (fun j hj => ?_) ?_
    · rw [ms_c _ _ (by decide), ms_k _ _ (by omega)]
    · rw [ms_c _ _ (by decide), ms_s]
def plL (ja : Option Nat) : Nat → List (Int32 × Int32) → List Int32
  | i, [] => if ja = some i then [8] else []
  | i, x :: l => (if ja = some i then (if x.1 = 1 then [9] else [8, x.1]) else [x.1]) ++ plL ja (i + 1) l
def pln (en : Int32) (L : List (Int32 × Int32)) : List Int32 := 0 :: plL (jat en L) 0 L
theorem m_plansL {L : List (Int32 × Int32)} {sk : Int32} {ja : Option Nat} (hja : ∀ k, ja = some k → k < 2 ^ 31) : ∀ (l : List (Int32 × Int32)) (i fuel : Nat) (M : Mem) (a : List Int32), l = L.drop i → i ≤ L.length → l.length + 1 < fuel → StM M L sk → PlIs M a → a.length ≤ i + 2 → (∀ k, ja = some k → i ≤ k → a.length ≤ i + 1) →
    ∃ M', f_Mo_plans_l32 fuel (jnI ja) (nI i) M = some M' ∧ PlIs M' (a ++ plL ja i l) ∧ Out PlP M M' := by
  have nS : ∀ c k, PlP c k → ¬ ((c = 91 ∧ (k = 6 ∨ k = 11)) ∨ c = 98 ∨ c = 99) := fun c k q => by unfold PlP at q; omega
  intro l
  induction l with
  | nil =>
    intro i fuel M a hl hi hf hS hP ha hb
    have hL := hS.1
    have hf : 0 + 1 < fuel := hf
    obtain ⟨g, rfl⟩ : ∃ g, fuel = g + 1 + 1 := ⟨fuel - 2, by omega⟩
    have hi2 := dnil hl
    have fin : ∀ (M : Mem), StM M L sk → f_Mo_plans_l32 (g + 1) (jnI ja) (nI (L.length + 1)) M = some M := fun M hS => by
      show f_Mo_plans_l32B (f_Mo_plans_l32 g) (jnI ja) (nI (L.length + 1)) M = _
      unfold f_Mo_plans_l32B
      rw [hS.2.1, if_pos ((nI_ltI (by omega) (by omega)).mpr (by omega))]
    show ∃ M', f_Mo_plans_l32B (f_Mo_plans_l32 (g + 1)) (jnI ja) (nI i) M = _ ∧ _
    unfold f_Mo_plans_l32B f_Mo_plans_b62 f_Mo_plans_b63 f_Mo_plans_b94 f_Mo_plans_b141 plL
    rw [hS.2.1, show i = L.length by omega, if_neg (fun q => by have := (nI_ltI (by omega) (by omega)).mp q; omega), if_pos (Int32.le_refl _)]
    by_cases e : ja = some L.length
    · have e' : nI L.length = jnI ja := (jnI_eq (by omega) hja).mpr e
      obtain ⟨p1, p2, p3⟩ := m_plan1 (x := 8) hP (by omega)
      rw [if_pos e', if_pos rfl, if_pos p1, bn, bn, if_pos e]
      generalize mset (mset M 117 (M 91 35).toNatClampNeg 8) 91 35 ((mset M 117 (M 91 35).toNatClampNeg 8) 91 35 + 1) = M1 at p2 p3
      have hS1 := hS.out p3 nS
      rw [hS1.2.1, if_pos (Int32.le_refl _), nI_1, fin M1 hS1]
      exact ⟨M1, rfl, p2, p3⟩
    · have e' : ¬ nI L.length = jnI ja := fun q => e ((jnI_eq (by omega) hja).mp q)
      rw [if_neg e', if_pos (Int32.le_refl _), nI_1, fin M hS, if_neg e, List.append_nil]
      exact ⟨M, rfl, hP, Out.rfl⟩
  | cons x l ih =>
    intro i fuel M a hl hi hf hS hP ha hb
    have hL := hS.1
    have hf : l.length + 1 + 1 < fuel := hf
    obtain ⟨g, rfl⟩ : ∃ g, fuel = g + 1 := ⟨fuel - 1, by omega⟩
    obtain ⟨e1, e2, e3, e4⟩ := hS.2.2.1.at hl
    have G : gin (nI i) 12 := gin_t (by omega) (by decide)
    have hci : (nI i).toNatClampNeg = i := nI_clamp (by omega)
    show ∃ M', f_Mo_plans_l32B (f_Mo_plans_l32 g) (jnI ja) (nI i) M = _ ∧ _
    unfold f_Mo_plans_l32B plL
    rw [hS.2.1, if_neg (fun q => by have := (nI_ltI (by omega) (by omega)).mp q; omega), if_neg (fun q => by have := (nI_leI (by omega) (by omega)).mp q; omega), if_pos G, hci, e1]
    have next : ∀ (M : Mem) (c : List Int32), StM M L sk → PlIs M (a ++ c) → c.length ≤ 2 → (ja = some i → True) → (¬ ja = some i → c.length ≤ 1) → ∃ M', f_Mo_plans_l32 g (jnI ja) (nI (i + 1)) M = some M' ∧ PlIs M' (a ++ (c ++ plL ja (i + 1) l)) ∧ Out PlP M M' := fun M c hS hP hc h1 h2 => by
      have hlen : (a ++ c).length = a.length + c.length := List.length_append
      obtain ⟨M', q1, q2, q3⟩ := ih (i + 1) g M (a ++ c) e3 (by omega) (by omega) hS hP (by
        by_cases e : ja = some i
        · have := hb i e (Nat.le_refl _); omega
        · have := h2 e; omega) (fun k hk hik => by
        have := hb k hk (by omega)
        have := h2 (fun e => by rw [e] at hk; injection hk with hk; omega)
        omega)
      rw [List.append_assoc] at q2
      exact ⟨M', q1, q2, q3⟩
    -- a step's own code
    have own : ∀ (M : Mem) (c : List Int32), StM M L sk → PlIs M (a ++ c) → (a ++ c).length < 20 → c.length ≤ 1 → (¬ ja = some i → c = []) → ∃ M', f_Mo_plans_b124 (f_Mo_plans_l32 g) (jnI ja) (nI i) (M 91 35) M = some M' ∧ PlIs M' (a ++ ((c ++ [x.1]) ++ plL ja (i + 1) l)) ∧ Out PlP M M' := fun M c hS hP hlt hc h2 => by
      obtain ⟨p1, p2, p3⟩ := m_plan1 (x := x.1) hP hlt
      unfold f_Mo_plans_b124 f_Mo_plans_b130 f_Mo_plans_b141
      obtain ⟨w1, _, _, _⟩ := hS.2.2.1.at hl
      rw [if_pos G, hci, w1, if_pos p1, bn, bn, nI_1]
      generalize mset (mset M 117 (M 91 35).toNatClampNeg x.1) 91 35 ((mset M 117 (M 91 35).toNatClampNeg x.1) 91 35 + 1) = M1 at p2 p3
      rw [List.append_assoc] at p2
      obtain ⟨M', q1, q2, q3⟩ := next M1 (c ++ [x.1]) (hS.out p3 nS) p2 (by rw [List.length_append]; show c.length + 1 ≤ 2; omega) (fun _ => trivial) (fun h => by rw [h2 h]; exact Nat.le_refl _)
      exact ⟨M', q1, q2, p3.trans q3⟩
    have h6 : ∀ (M : Mem), StM M L sk → ¬ M 91 6 ≤ nI i := fun M hS q => by rw [hS.2.1] at q; have := (nI_leI (by omega) (by omega)).mp q; omega
    by_cases e : ja = some i
    · have e' : nI i = jnI ja := (jnI_eq (by omega) hja).mpr e
      have hbi := hb i e (Nat.le_refl _)
      rw [if_pos e]
      by_cases c1 : x.1 = 1
      · rw [if_pos c1, if_pos c1]
        unfold f_Mo_plans_b63 f_Mo_plans_b94 f_Mo_plans_b130 f_Mo_plans_b141
        rw [if_pos e', if_neg (by decide), if_neg (h6 M hS), if_pos e', if_neg (by decide)]
        obtain ⟨p1, p2, p3⟩ := m_plan1 (x := 9) hP (by omega)
        rw [if_pos p1, bn, bn, nI_1]
        generalize mset (mset M 117 (M 91 35).toNatClampNeg 9) 91 35 ((mset M 117 (M 91 35).toNatClampNeg 9) 91 35 + 1) = M1 at p2 p3
        obtain ⟨M', q1, q2, q3⟩ := next M1 [9] (hS.out p3 nS) p2 (by decide) (fun _ => trivial) (fun _ => by decide)
        exact ⟨M', q1, q2, p3.trans q3⟩
      · rw [if_neg c1, if_neg c1]
        unfold f_Mo_plans_b62 f_Mo_plans_b63 f_Mo_plans_b94
        obtain ⟨p1, p2, p3⟩ := m_plan1 (x := 8) hP (by omega)
        rw [if_pos e', if_pos rfl, if_pos p1, bn, bn]
        generalize mset (mset M 117 (M 91 35).toNatClampNeg 8) 91 35 ((mset M 117 (M 91 35).toNatClampNeg 8) 91 35 + 1) = M1 at p2 p3
        have hS1 := hS.out p3 nS
        rw [if_neg (h6 M1 hS1), if_pos e', if_pos rfl]
        obtain ⟨M', q1, q2, q3⟩ := own M1 [8] hS1 p2 (by rw [List.length_append]; show a.length + 1 < 20; omega) (by decide) (fun h => absurd e h)
        exact ⟨M', q1, q2, p3.trans q3⟩
    · have e' : ¬ nI i = jnI ja := fun q => e ((jnI_eq (by omega) hja).mp q)
      rw [if_neg e]
      have hgo : (if x.1 = 1 then f_Mo_plans_b63 (f_Mo_plans_l32 g) (jnI ja) (nI i) 1 M else f_Mo_plans_b62 (f_Mo_plans_l32 g) (jnI ja) (nI i) M) = f_Mo_plans_b124 (f_Mo_plans_l32 g) (jnI ja) (nI i) (M 91 35) M := by
        unfold f_Mo_plans_b62 f_Mo_plans_b63 f_Mo_plans_b94
        simp only [if_neg e', if_neg (h6 M hS)]
        split <;> rfl
      rw [hgo]
      obtain ⟨M', q1, q2, q3⟩ := own M [] hS (by rw [List.append_nil]; exact hP) (by rw [List.append_nil]; omega) (by decide) (fun _ => rfl)
      exact ⟨M', q1, q2, q3⟩
theorem jat_lt {en : Int32} {L : List (Int32 × Int32)} : ∀ k, jat en L = some k → k ≤ L.length := by
  intro k h
  unfold jat at h
  cases hf : fsp 0 L with
  | none =>
    rw [hf] at h
    have h : (if f_U_endSpeaks en = 0 then none else some L.length) = some k := h
    split at h
    · cases h
    · injection h with h; omega
  | some j =>
    rw [hf] at h
    have h : some j = some k := h
    injection h with h
    have := fsp_ge L 0 j hf
    omega
theorem m_plans {M : Mem} {L : List (Int32 × Int32)} {sk en : Int32} (hS : StM M L sk) (hE : M 91 10 = en) (hK : KdOk L) : ∃ M', f_Mo_plans M = some M' ∧ PlIs M' (pln en L) ∧ Out PlP M M' := by
  have hL := hS.1
  unfold f_Mo_plans
  rw [m_joinAt hS hE hK, Option.bind_some, bn]
  have o0 : Out PlP M (mset M 91 35 0) := Out.set (Or.inr ⟨rfl, rfl⟩)
  have h0 : PlIs (mset M 91 35 0) [] := ⟨by rw [ms_s]; rfl, Nat.zero_le _, AH.nil⟩
  have nS : ∀ c k, PlP c k → ¬ ((c = 91 ∧ (k = 6 ∨ k = 11)) ∨ c = 98 ∨ c = 99) := fun c k q => by unfold PlP at q; omega
  have hS0 := hS.out o0 nS
  generalize mset M 91 35 0 = M0' at o0 h0 hS0
  obtain ⟨p1, p2, p3⟩ := m_plan1 (x := 0) h0 (by decide)
  rw [if_pos p1, bn, bn]
  generalize mset (mset M0' 117 (M0' 91 35).toNatClampNeg 0) 91 35 ((mset M0' 117 (M0' 91 35).toNatClampNeg 0) 91 35 + 1) = M1 at p2 p3
  obtain ⟨M', q1, q2, q3⟩ := m_plansL (ja := jat en L) (fun k h => by have := jat_lt k h; omega) L 0 FU M1 _ rfl (Nat.zero_le _) (Nat.lt_trans (by omega) fu_lt) (hS0.out p3 nS) p2 (by decide) (fun _ _ _ => by decide)
  exact ⟨M', q1, q2, o0.trans (p3.trans q3)⟩
