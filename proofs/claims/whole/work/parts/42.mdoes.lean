-- ===== one step of the reference, all rows at once =====
theorem m_likeL {M : Mem} {out : List T3} {r : T3} {a : Nat} (ha : a < 300) (hO : OuIs M out) (h1 : M 105 a = r.1) (h2 : M 106 a = r.2.1) (h3 : M 107 a = r.2.2) : ∀ (l : List T3) (i fuel : Nat) (n : Bool), l = out.drop i → i ≤ out.length → l.length < fuel → (n = true ↔ r ∈ out.take i) → f_Mo_isLike_l4 fuel (nI a) (if n then 1 else 0) (nI i) M = some (if r ∈ out then 1 else 0) := by
  have hL := hO.2.1
  have Ga : gin (nI a) 300 := gin_t ha (by decide)
  have hca : (nI a).toNatClampNeg = a := nI_clamp (by omega)
  intro l
  induction l with
  | nil =>
    intro i fuel n hl hi hf hn
    have hf : 0 < fuel := hf
    obtain ⟨g, rfl⟩ : ∃ g, fuel = g + 1 := ⟨fuel - 1, by omega⟩
    have hi2 := dnil hl
    rw [List.take_of_length_le hi2] at hn
    show f_Mo_isLike_l4B (f_Mo_isLike_l4 g) (nI a) (if n then 1 else 0) (nI i) M = _
    unfold f_Mo_isLike_l4B
    rw [hO.1, show i = out.length by omega, if_pos (Int32.le_refl _)]
    cases n with
    | true => rw [if_pos (hn.mp rfl)]; rfl
    | false =>
      have hx : ¬ r ∈ out := fun q => absurd (hn.mpr q) (by decide)
      rw [if_neg hx]; rfl
  | cons y l ih =>
    intro i fuel n hl hi hf hn
    have hf : l.length + 1 < fuel := hf
    obtain ⟨g, rfl⟩ : ∃ g, fuel = g + 1 := ⟨fuel - 1, by omega⟩
    obtain ⟨e1, e2, e3, e4, e5⟩ := hO.2.2.at hl
    have Gi : gin (nI i) 300 := gin_t (by omega) (by decide)
    have hci : (nI i).toNatClampNeg = i := nI_clamp (by omega)
    have htk : out.take (i + 1) = out.take i ++ [y] := by
      rw [List.take_add_one, List.getElem?_eq_getElem e5]
      rw [List.drop_eq_getElem_cons e5] at hl
      injection hl with w1 w2
      rw [w1]; rfl
    have hb : f_Mo_isLike_l4B (f_Mo_isLike_l4 g) (nI a) (if n then 1 else 0) (nI i) M = f_Mo_isLike_l4 g (nI a) (if (n || decide (y = r)) then 1 else 0) (nI (i + 1)) M := by
      unfold f_Mo_isLike_l4B f_Mo_isLike_b61 f_Mo_isLike_b65 f_Mo_isLike_b66
      rw [hO.1, if_neg (fun q => by have := (nI_leI (by omega) (by omega)).mp q; omega), nI_1]
      cases n with
      | true => rfl
      | false =>
        rw [if_pos (show (if false = true then (1 : Int32) else 0) = 0 from rfl)]
        simp only [if_pos Gi, if_pos Ga, hci, hca]
        rw [e1, e2, e3, h1, h2, h3]
        by_cases c : y = r
        · rw [if_pos (by rw [c]), if_pos (by rw [c]), if_pos (by rw [c]), decide_eq_true c]; rfl
        · rw [decide_eq_false c]
          by_cases c1 : y.1 = r.1
          · rw [if_pos c1]
            by_cases c2 : y.2.1 = r.2.1
            · rw [if_pos c2, if_neg (fun q => c (Prod.ext c1 (Prod.ext c2 q)))]; rfl
            · rw [if_neg c2]; rfl
          · rw [if_neg c1]; rfl
    show f_Mo_isLike_l4B (f_Mo_isLike_l4 g) (nI a) (if n then 1 else 0) (nI i) M = _
    rw [hb]
    refine ih (i + 1) g (n || decide (y = r)) e4 (by omega) (by omega) ?_
    rw [htk, List.mem_append, List.mem_singleton, ← hn, Bool.or_eq_true, decide_eq_true_iff]
    exact ⟨fun h => h.imp id (fun q => q.symm), fun h => h.imp id (fun q => q.symm)⟩
theorem m_isLike {M : Mem} {out : List T3} {r : T3} {a : Nat} (ha : a < 300) (hO : OuIs M out) (h1 : M 105 a = r.1) (h2 : M 106 a = r.2.1) (h3 : M 107 a = r.2.2) : f_Mo_isLike M (nI a) = some (if r ∈ out then 1 else 0) :=
  m_likeL ha hO h1 h2 h3 out 0 FU false rfl (Nat.zero_le _) (Nat.lt_of_le_of_lt hO.2.1 (Nat.lt_trans (by decide) fu_lt)) (by rw [List.take_zero]; exact ⟨fun q => absurd q (by decide), fun q => absurd q List.not_mem_nil⟩)
def hkT (ps : List (Int32 × Int32)) (p : Int32) : Int32 := if p = -1 then -1 else fs1 ps p.toNatClampNeg
def VP (n : Nat) (rows : List T3) : Prop := ∀ r, r ∈ rows → r.2.2 = -1 ∨ ∃ q, q < n ∧ r.2.2 = nI q
def bs1 (c f : Int32) (ps : List (Int32 × Int32)) (out : List T3) (r : T3) : List T3 :=
  if f_Mo_stays c f r.1 r.2.1 (hkT ps r.2.2) = -2 then out
  else if c = 5 then (if r ∈ out then out else out ++ [(r.1, f_Mo_stays c f r.1 r.2.1 (hkT ps r.2.2), r.2.2)])
  else out ++ [(r.1, f_Mo_stays c f r.1 r.2.1 (hkT ps r.2.2), r.2.2)]
theorem bs1_len {c f : Int32} {ps : List (Int32 × Int32)} {out : List T3} {r : T3} : (bs1 c f ps out r).length ≤ out.length + 1 := by
  unfold bs1
  split
  · omega
  · split
    · split
      · omega
      · rw [List.length_append]; exact Nat.le_refl _
    · rw [List.length_append]; exact Nat.le_refl _
theorem m_doesL {L ps : List (Int32 × Int32)} {rows : List T3} {sk : Int32} {j : Nat} (hj : j < L.length) (hV : VP ps.length rows) : ∀ (l : List T3) (i fuel : Nat) (M : Mem) (out : List T3), l = rows.drop i → i ≤ rows.length → l.length < fuel → StM M L sk → DoIs M ps → RoIs M rows → OuIs M out → out.length ≤ i →
    ∃ M', f_Mo_does_l9 fuel (nI j) (fs1 L j) (nI i) M = f_Mo_does_l116 FU (fs1 L j) 0 M' ∧ OuIs M' (l.foldl (bs1 (fs1 L j) (fs2 L j) ps) out) ∧ Out OuP M M' := by
  intro l
  induction l with
  | nil =>
    intro i fuel M out hl hi hf hS hD hR hO ho
    have hf : 0 < fuel := hf
    obtain ⟨g, rfl⟩ : ∃ g, fuel = g + 1 := ⟨fuel - 1, by omega⟩
    have hi2 := dnil hl
    refine ⟨M, ?_, hO, Out.rfl⟩
    show f_Mo_does_l9B (f_Mo_does_l9 g) (nI j) (fs1 L j) (nI i) M = _
    unfold f_Mo_does_l9B
    rw [hR.1, show i = rows.length by omega, if_pos (Int32.le_refl _)]
  | cons x l ih =>
    intro i fuel M out hl hi hf hS hD hR hO ho
    have hL := hS.1
    have hrl := hR.2.1
    have hf : l.length + 1 < fuel := hf
    obtain ⟨g, rfl⟩ : ∃ g, fuel = g + 1 := ⟨fuel - 1, by omega⟩
    obtain ⟨e1, e2, e3, e4, e5⟩ := hR.2.2.at hl
    have hmem : x ∈ rows := by
      have : x ∈ rows.drop i := by rw [← hl]; exact List.mem_cons_self
      exact List.mem_of_mem_drop this
    have Gi : gin (nI i) 300 := gin_t (by omega) (by decide)
    have hci : (nI i).toNatClampNeg = i := nI_clamp (by omega)
    have Gj : gin (nI j) 12 := gin_t (by omega) (by decide)
    have hcj : (nI j).toNatClampNeg = j := nI_clamp (by omega)
    obtain ⟨s1, s2⟩ := hS.2.2.1.fs hj
    have hb : f_Mo_does_l9 (g + 1) (nI j) (fs1 L j) (nI i) M = f_Mo_does_b42 (f_Mo_does_l9 g) (nI j) (fs1 L j) (nI i) (hkT ps x.2.2) M := by
      show f_Mo_does_l9B (f_Mo_does_l9 g) (nI j) (fs1 L j) (nI i) M = _
      unfold f_Mo_does_l9B hkT
      rw [hR.1, if_neg (fun q => by have := (nI_leI (by omega) (by omega)).mp q; omega), if_pos Gi]
      simp only [hci]
      rw [e3]
      by_cases c : x.2.2 = -1
      · rw [if_pos c, if_pos c]
      · rw [if_neg c, if_neg c, if_pos Gi]
        rcases hV x hmem with w | ⟨q, hq, w⟩
        · exact absurd w c
        · have hd := hD.2.1
          have Gq : gin x.2.2 10 := by rw [w]; exact gin_t (by omega) (by decide)
          have hcq : x.2.2.toNatClampNeg = q := by rw [w]; exact nI_clamp (by omega)
          rw [if_pos Gq, hcq, (hD.2.2.fs hq).1]
    rw [hb]
    unfold f_Mo_does_b42 f_Mo_does_b108
    rw [if_pos Gj, if_pos Gi, if_pos Gi]
    simp only [hci, hcj]
    rw [bn, s2, e1, e2, nI_1]
    show ∃ M', _ = _ ∧ OuIs M' (l.foldl (bs1 (fs1 L j) (fs2 L j) ps) (bs1 (fs1 L j) (fs2 L j) ps out x)) ∧ _
    have put : ∃ M', f_Mo_does_b90 (f_Mo_does_l9 g) (nI j) (fs1 L j) (nI i) (f_Mo_stays (fs1 L j) (fs2 L j) x.1 x.2.1 (hkT ps x.2.2)) M = f_Mo_does_l116 FU (fs1 L j) 0 M' ∧ OuIs M' (l.foldl (bs1 (fs1 L j) (fs2 L j) ps) (out ++ [(x.1, f_Mo_stays (fs1 L j) (fs2 L j) x.1 x.2.1 (hkT ps x.2.2), x.2.2)])) ∧ Out OuP M M' := by
      unfold f_Mo_does_b90 f_Mo_does_b108
      rw [if_pos Gi, if_pos Gi]
      simp only [hci]
      rw [e1, e3]
      obtain ⟨M1, a1, a2, a3⟩ := m_puts (a := x.1) (b := f_Mo_stays (fs1 L j) (fs2 L j) x.1 x.2.1 (hkT ps x.2.2)) (c := x.2.2) hO (by omega)
      rw [a1, Option.bind_some, nI_1]
      have nO : ∀ (c k : Nat), OuP c k → (c = 108 ∨ c = 109 ∨ c = 110 ∨ (c = 91 ∧ k = 21)) := fun c k q => q
      obtain ⟨M2, b1, b2, b3⟩ := ih (i + 1) g M1 _ e4 (by omega) (by omega) (hS.out a3 (fun c k q => by have := nO c k q; omega)) ⟨by rw [a3 _ _ (fun q => by have := nO _ _ q; omega)]; exact hD.1, hD.2.1, hD.2.2.1.same (fun q _ => a3 _ _ (fun w => by have := nO _ _ w; omega)), hD.2.2.2.same (fun q _ => a3 _ _ (fun w => by have := nO _ _ w; omega))⟩ (hR.out a3 (fun c k q => by have := nO c k q; unfold RoP; omega)) a2 (by rw [List.length_append]; show out.length + 1 ≤ i + 1; omega)
      exact ⟨M2, b1, b2, a3.trans b3⟩
    have skip := ih (i + 1) g M out e4 (by omega) (by omega) hS hD hR hO (by omega)
    unfold bs1
    by_cases c2 : f_Mo_stays (fs1 L j) (fs2 L j) x.1 x.2.1 (hkT ps x.2.2) = -2
    · rw [if_pos c2, if_pos c2]
      exact skip
    · rw [if_neg c2, if_neg c2]
      by_cases c5 : fs1 L j = 5
      · rw [if_pos c5, if_pos c5, m_isLike (r := x) (by omega) hO e1 e2 e3, Option.bind_some]
        by_cases cm : x ∈ out
        · simp only [if_pos cm]
          rw [if_neg (show ¬ (1 : Int32) = 0 by decide)]
          exact skip
        · simp only [if_neg cm]
          rw [if_pos trivial]
          exact put
      · rw [if_neg c5, if_neg c5]
        exact put
/-- the pairs as rows, from a place on -/
def prT : Nat → List (Int32 × Int32) → List T3
  | _, [] => []
  | i, x :: l => (x.1, x.2, nI i) :: prT (i + 1) l
theorem prT_len : ∀ (l : List (Int32 × Int32)) (i : Nat), (prT i l).length = l.length := by
  intro l
  induction l with
  | nil => intro i; rfl
  | cons x l ih => intro i; show (prT (i + 1) l).length + 1 = l.length + 1; rw [ih]
theorem m_unitL {ps : List (Int32 × Int32)} : ∀ (l : List (Int32 × Int32)) (i fuel : Nat) (M : Mem) (out : List T3), l = ps.drop i → i ≤ ps.length → l.length < fuel → DoIs M ps → OuIs M out → out.length + l.length ≤ 300 →
    ∃ M', f_Mo_does_l116 fuel 4 (nI i) M = f_Mo_does_b152 4 M' ∧ OuIs M' (out ++ prT i l) ∧ Out OuP M M' := by
  intro l
  induction l with
  | nil =>
    intro i fuel M out hl hi hf hD hO ho
    have hf : 0 < fuel := hf
    obtain ⟨g, rfl⟩ : ∃ g, fuel = g + 1 := ⟨fuel - 1, by omega⟩
    have hi2 := dnil hl
    refine ⟨M, ?_, by unfold prT; rw [List.append_nil]; exact hO, Out.rfl⟩
    show f_Mo_does_l116B (f_Mo_does_l116 g) 4 (nI i) M = _
    unfold f_Mo_does_l116B
    rw [hD.1, show i = ps.length by omega, if_pos (Int32.le_refl _)]
  | cons x l ih =>
    intro i fuel M out hl hi hf hD hO ho
    have hd := hD.2.1
    have hf : l.length + 1 < fuel := hf
    have ho : out.length + (l.length + 1) ≤ 300 := ho
    obtain ⟨g, rfl⟩ : ∃ g, fuel = g + 1 := ⟨fuel - 1, by omega⟩
    obtain ⟨e1, e2, e3, e4⟩ := hD.2.2.at hl
    have Gi : gin (nI i) 10 := gin_t (by omega) (by decide)
    show ∃ M', f_Mo_does_l116B (f_Mo_does_l116 g) 4 (nI i) M = _ ∧ _
    unfold f_Mo_does_l116B
    rw [hD.1, if_neg (fun q => by have := (nI_leI (by omega) (by omega)).mp q; omega), if_pos rfl, if_pos Gi, if_pos Gi, nI_clamp (by omega), e1, e2]
    obtain ⟨M1, a1, a2, a3⟩ := m_puts (a := x.1) (b := x.2) (c := nI i) hO (by omega)
    rw [a1, Option.bind_some, nI_1]
    have nO : ∀ (c k : Nat), OuP c k → (c = 108 ∨ c = 109 ∨ c = 110 ∨ (c = 91 ∧ k = 21)) := fun c k q => q
    obtain ⟨M2, b1, b2, b3⟩ := ih (i + 1) g M1 _ e3 (by omega) (by omega) ⟨by rw [a3 _ _ (fun q => by have := nO _ _ q; omega)]; exact hD.1, hD.2.1, hD.2.2.1.same (fun q _ => a3 _ _ (fun w => by have := nO _ _ w; omega)), hD.2.2.2.same (fun q _ => a3 _ _ (fun w => by have := nO _ _ w; omega))⟩ a2 (by rw [List.length_append]; show out.length + 1 + l.length ≤ 300; omega)
    refine ⟨M2, b1, ?_, a3.trans b3⟩
    rw [List.append_assoc] at b2
    exact b2
theorem m_copyL {rows : List T3} : ∀ (l : List T3) (i fuel : Nat) (M : Mem) (out : List T3), l = rows.drop i → i ≤ rows.length → l.length < fuel → RoIs M rows → OuIs M out → out.length + l.length ≤ 300 →
    ∃ M', f_Mo_does_l164 fuel (nI i) M = f_Mo_does_b200 M' ∧ OuIs M' (out ++ l) ∧ Out OuP M M' := by
  intro l
  induction l with
  | nil =>
    intro i fuel M out hl hi hf hR hO ho
    have hf : 0 < fuel := hf
    obtain ⟨g, rfl⟩ : ∃ g, fuel = g + 1 := ⟨fuel - 1, by omega⟩
    have hi2 := dnil hl
    refine ⟨M, ?_, by rw [List.append_nil]; exact hO, Out.rfl⟩
    show f_Mo_does_l164B (f_Mo_does_l164 g) (nI i) M = _
    unfold f_Mo_does_l164B
    rw [hR.1, show i = rows.length by omega, if_pos (Int32.le_refl _)]
  | cons x l ih =>
    intro i fuel M out hl hi hf hR hO ho
    have hd := hR.2.1
    have hf : l.length + 1 < fuel := hf
    have ho : out.length + (l.length + 1) ≤ 300 := ho
    obtain ⟨g, rfl⟩ : ∃ g, fuel = g + 1 := ⟨fuel - 1, by omega⟩
    obtain ⟨e1, e2, e3, e4, e5⟩ := hR.2.2.at hl
    have Gi : gin (nI i) 300 := gin_t (by omega) (by decide)
    show ∃ M', f_Mo_does_l164B (f_Mo_does_l164 g) (nI i) M = _ ∧ _
    unfold f_Mo_does_l164B
    rw [hR.1, if_neg (fun q => by have := (nI_leI (by omega) (by omega)).mp q; omega), if_pos Gi, if_pos Gi, if_pos Gi, nI_clamp (by omega), e1, e2, e3]
    obtain ⟨M1, a1, a2, a3⟩ := m_puts (a := x.1) (b := x.2.1) (c := x.2.2) hO (by omega)
    rw [a1, Option.bind_some, nI_1]
    obtain ⟨M2, b1, b2, b3⟩ := ih (i + 1) g M1 _ e4 (by omega) (by omega) (hR.out a3 (fun c k q => by unfold OuP at q; unfold RoP; omega)) a2 (by rw [List.length_append]; show out.length + 1 + l.length ≤ 300; omega)
    refine ⟨M2, b1, ?_, a3.trans b3⟩
    rw [List.append_assoc] at b2
    exact b2
