-- ===== a whole step, and the join, of the reference =====
def bst (c f : Int32) (ps : List (Int32 × Int32)) (rows : List T3) : List T3 :=
  if c = 4 then rows.foldl (bs1 c f ps) [] ++ prT 0 ps
  else if c = 6 then grp (rows.foldl (bs1 c f ps) [])
  else rows.foldl (bs1 c f ps) []
theorem bsf_len {c f : Int32} {ps : List (Int32 × Int32)} : ∀ (rows out : List T3), (rows.foldl (bs1 c f ps) out).length ≤ out.length + rows.length := by
  intro rows
  induction rows with
  | nil => intro out; exact Nat.le_refl _
  | cons x rows ih =>
    intro out
    have h1 := ih (bs1 c f ps out x)
    have h2 := bs1_len (c := c) (f := f) (ps := ps) (out := out) (r := x)
    show (rows.foldl (bs1 c f ps) (bs1 c f ps out x)).length ≤ out.length + (rows.length + 1)
    omega
def DsP (c k : Nat) : Prop := OuP c k ∨ RoP c k ∨ (c = 91 ∧ k = 28)
theorem m_b200 {M : Mem} {out : List T3} (hO : OuIs M out) : ∃ M', f_Mo_does_b200 M = some M' ∧ OuIs M' out ∧ M' 91 28 = M 91 28 + nI out.length ∧ Out (fun c k => c = 91 ∧ k = 28) M M' := by
  unfold f_Mo_does_b200
  rw [bn, hO.1]
  have o1 : Out (fun c k => c = 91 ∧ k = 28) M (mset M 91 28 (M 91 28 + nI out.length)) := Out.set ⟨rfl, rfl⟩
  exact ⟨_, rfl, hO.out o1 (fun c k q => by unfold OuP; omega), ms_s _ _ _ _, o1⟩
theorem m_does {M : Mem} {L ps : List (Int32 × Int32)} {rows : List T3} {sk : Int32} {j : Nat} (hj : j < L.length) (hV : VP ps.length rows) (hS : StM M L sk) (hD : DoIs M ps) (hR : RoIs M rows) (hO : OuIs M []) (hl : rows.length + ps.length ≤ 299) :
    ∃ M', f_Mo_does M (nI j) = some M' ∧ OuIs M' (bst (fs1 L j) (fs2 L j) ps rows) ∧ M' 91 28 = M 91 28 + nI (bst (fs1 L j) (fs2 L j) ps rows).length ∧ Out DsP M M' := by
  have hL := hS.1
  have hd := hD.2.1
  unfold f_Mo_does
  rw [if_pos (gin_t (by omega) (by decide)), bn, nI_clamp (by omega), (hS.2.2.1.fs hj).1]
  obtain ⟨M1, a1, a2, a3⟩ := m_doesL hj hV rows 0 FU M [] rfl (Nat.zero_le _) (Nat.lt_trans (by omega) fu_lt) hS hD hR hO (Nat.le_refl _)
  have a1 : f_Mo_does_l9 FU (nI j) (fs1 L j) 0 M = f_Mo_does_l116 FU (fs1 L j) 0 M1 := a1
  rw [a1]
  have hfl := bsf_len (c := fs1 L j) (f := fs2 L j) (ps := ps) rows []
  have h0 : ([] : List T3).length = 0 := rfl
  have hD1 : DoIs M1 ps := ⟨by rw [a3 _ _ (by unfold OuP; omega)]; exact hD.1, hD.2.1, hD.2.2.1.same (fun q _ => a3 _ _ (by unfold OuP; omega)), hD.2.2.2.same (fun q _ => a3 _ _ (by unfold OuP; omega))⟩
  have x28 : M1 91 28 = M 91 28 := a3 _ _ (by unfold OuP; omega)
  unfold bst
  by_cases c4 : fs1 L j = 4
  · rw [if_pos c4]
    obtain ⟨M2, b1, b2, b3⟩ := m_unitL ps 0 FU M1 _ rfl (Nat.zero_le _) (Nat.lt_trans (by omega) fu_lt) hD1 a2 (by omega)
    obtain ⟨M3, d1, d2, d3, d4⟩ := m_b200 b2
    have b1 : f_Mo_does_l116 FU 4 0 M1 = f_Mo_does_b152 4 M2 := b1
    have y28 : M2 91 28 = M1 91 28 := b3 _ _ (by unfold OuP; omega)
    refine ⟨M3, ?_, d2, by rw [d3, y28, x28], (a3.mono (fun c k q => Or.inl q)).trans ((b3.mono (fun c k q => Or.inl q)).trans (d4.mono (fun c k q => Or.inr (Or.inr q))))⟩
    rw [c4, b1]
    unfold f_Mo_does_b152
    rw [if_neg (by decide)]
    exact d1
  · rw [if_neg c4]
    have hb : f_Mo_does_l116 FU (fs1 L j) 0 M1 = f_Mo_does_b152 (fs1 L j) M1 := by
      show f_Mo_does_l116B (f_Mo_does_l116 999) (fs1 L j) 0 M1 = _
      unfold f_Mo_does_l116B
      rw [if_neg c4]
      split <;> rfl
    rw [hb]
    unfold f_Mo_does_b152
    by_cases c6 : fs1 L j = 6
    · rw [if_pos c6, if_pos c6]
      obtain ⟨M2, b1, b2, b3, b4⟩ := m_groups (by omega) a2
      rw [b1, Option.bind_some]
      have hgl := grp_len (rows.foldl (bs1 (fs1 L j) (fs2 L j) ps) []) []
      obtain ⟨M3, d1, d2, d3⟩ := m_copyL (grp (rows.foldl (bs1 (fs1 L j) (fs2 L j) ps) [])) 0 FU M2 [] rfl (Nat.zero_le _) (Nat.lt_trans (by unfold grp; omega) fu_lt) b2 b3 (by unfold grp; omega)
      have d1 : f_Mo_does_l164 FU 0 M2 = f_Mo_does_b200 M3 := d1
      rw [d1]
      obtain ⟨M4, f1, f2, f3, f4⟩ := m_b200 d2
      rw [List.nil_append] at f2 f3
      have y28 : M3 91 28 = M 91 28 := by rw [d3 _ _ (by unfold OuP; omega), b4 _ _ (by unfold RoP; omega), x28]
      refine ⟨M4, f1, f2, by rw [f3, y28], (a3.mono (fun c k q => Or.inl q)).trans ((b4.mono (fun c k q => ?_)).trans ((d3.mono (fun c k q => Or.inl q)).trans (f4.mono (fun c k q => Or.inr (Or.inr q)))))⟩
      rcases q with q | q
      · exact Or.inr (Or.inl q)
      · exact Or.inl (Or.inr (Or.inr (Or.inr q)))
    · rw [if_neg c6, if_neg c6]
      obtain ⟨M4, f1, f2, f3, f4⟩ := m_b200 a2
      exact ⟨M4, f1, f2, by rw [f3, x28], (a3.mono (fun c k q => Or.inl q)).trans (f4.mono (fun c k q => Or.inr (Or.inr q)))⟩
def jnT (h : Int32) (r : T3) : Nat → List (Int32 × Int32) → List T3
  | _, [] => []
  | i, x :: l => if h = 0 then (r.1, r.2.1, nI i) :: jnT h r (i + 1) l else if f_Mo_stays 1 0 r.1 0 x.1 = -2 then jnT h r (i + 1) l else (r.1, r.2.1, nI i) :: jnT h r (i + 1) l
theorem jnT_len {h : Int32} {r : T3} : ∀ (l : List (Int32 × Int32)) (i : Nat), (jnT h r i l).length ≤ l.length := by
  intro l
  induction l with
  | nil => intro i; exact Nat.le_refl _
  | cons x l ih =>
    intro i
    have := ih (i + 1)
    unfold jnT
    split
    · show (jnT h r (i + 1) l).length + 1 ≤ l.length + 1; omega
    · split
      · show _ ≤ l.length + 1; omega
      · show (jnT h r (i + 1) l).length + 1 ≤ l.length + 1; omega
theorem m_join1 {ps : List (Int32 × Int32)} {h : Int32} {r : T3} {a : Nat} (ha : a < 300) (k2 : Int32 → Int32 → Mem → Option Mem) : ∀ (l : List (Int32 × Int32)) (i fuel : Nat) (M : Mem) (out : List T3), l = ps.drop i → i ≤ ps.length → l.length < fuel → DoIs M ps → OuIs M out → M 105 a = r.1 → M 106 a = r.2.1 → out.length + l.length ≤ 300 →
    ∃ M', f_Mo_joins_l12 k2 fuel h (nI a) (nI i) M = k2 h (nI (a + 1)) M' ∧ OuIs M' (out ++ jnT h r i l) ∧ Out OuP M M' := by
  have Ga : gin (nI a) 300 := gin_t ha (by decide)
  have hca : (nI a).toNatClampNeg = a := nI_clamp (by omega)
  intro l
  induction l with
  | nil =>
    intro i fuel M out hl hi hf hD hO h1 h2 ho
    have hf : 0 < fuel := hf
    obtain ⟨g, rfl⟩ : ∃ g, fuel = g + 1 := ⟨fuel - 1, by omega⟩
    have hi2 := dnil hl
    refine ⟨M, ?_, by unfold jnT; rw [List.append_nil]; exact hO, Out.rfl⟩
    show f_Mo_joins_l12B k2 (f_Mo_joins_l12 k2 g) h (nI a) (nI i) M = _
    unfold f_Mo_joins_l12B
    rw [hD.1, show i = ps.length by omega, if_pos (Int32.le_refl _), nI_1]
  | cons x l ih =>
    intro i fuel M out hl hi hf hD hO h1 h2 ho
    have hd := hD.2.1
    have hf : l.length + 1 < fuel := hf
    have ho : out.length + (l.length + 1) ≤ 300 := ho
    obtain ⟨g, rfl⟩ : ∃ g, fuel = g + 1 := ⟨fuel - 1, by omega⟩
    obtain ⟨e1, e2, e3, e4⟩ := hD.2.2.at hl
    have Gi : gin (nI i) 10 := gin_t (by omega) (by decide)
    have hci : (nI i).toNatClampNeg = i := nI_clamp (by omega)
    have put : ∃ M', f_Mo_joins_b47 k2 (f_Mo_joins_l12 k2 g) h (nI a) (nI i) M = k2 h (nI (a + 1)) M' ∧ OuIs M' (out ++ (r.1, r.2.1, nI i) :: jnT h r (i + 1) l) ∧ Out OuP M M' := by
      unfold f_Mo_joins_b47 f_Mo_joins_b64
      rw [if_pos Ga, if_pos Ga]
      simp only [hca]
      rw [h1, h2]
      obtain ⟨M1, a1, a2, a3⟩ := m_puts (a := r.1) (b := r.2.1) (c := nI i) hO (by omega)
      rw [a1, Option.bind_some, nI_1]
      obtain ⟨M2, b1, b2, b3⟩ := ih (i + 1) g M1 _ e3 (by omega) (by omega) ⟨by rw [a3 _ _ (by unfold OuP; omega)]; exact hD.1, hD.2.1, hD.2.2.1.same (fun q _ => a3 _ _ (by unfold OuP; omega)), hD.2.2.2.same (fun q _ => a3 _ _ (by unfold OuP; omega))⟩ a2 (by rw [a3 _ _ (by unfold OuP; omega)]; exact h1) (by rw [a3 _ _ (by unfold OuP; omega)]; exact h2) (by rw [List.length_append]; show out.length + 1 + l.length ≤ 300; omega)
      refine ⟨M2, b1, ?_, a3.trans b3⟩
      rw [List.append_assoc] at b2
      exact b2
    have skip := ih (i + 1) g M out e3 (by omega) (by omega) hD hO h1 h2 (by omega)
    show ∃ M', f_Mo_joins_l12B k2 (f_Mo_joins_l12 k2 g) h (nI a) (nI i) M = _ ∧ _
    unfold f_Mo_joins_l12B jnT
    rw [hD.1, if_neg (fun q => by have := (nI_leI (by omega) (by omega)).mp q; omega)]
    by_cases ch : h = 0
    · rw [if_pos ch, if_pos ch]
      exact put
    · rw [if_neg ch, if_neg ch, if_pos Ga, if_pos Gi]
      simp only [hca, hci]
      rw [h1, e1]
      by_cases cs : f_Mo_stays 1 0 r.1 0 x.1 = -2
      · rw [if_pos cs, if_pos cs]
        unfold f_Mo_joins_b64
        rw [nI_1]
        exact skip
      · rw [if_neg cs, if_neg cs]
        exact put
def jnA (h : Int32) (ps : List (Int32 × Int32)) (rows : List T3) : List T3 := rows.flatMap (fun r => jnT h r 0 ps)
theorem m_joinsL {ps : List (Int32 × Int32)} {rows : List T3} {h : Int32} (hr : rows.length ≤ 10) : ∀ (l : List T3) (i fuel : Nat) (M : Mem) (out : List T3), l = rows.drop i → i ≤ rows.length → l.length < fuel → DoIs M ps → RoIs M rows → OuIs M out → out.length + l.length * 10 ≤ 300 →
    ∃ M', f_Mo_joins_l2 fuel h (nI i) M = some M' ∧ OuIs M' (out ++ jnA h ps l) ∧ M' 91 28 = M 91 28 + nI (out ++ jnA h ps l).length ∧ Out DsP M M' := by
  intro l
  induction l with
  | nil =>
    intro i fuel M out hl hi hf hD hR hO ho
    have hf : 0 < fuel := hf
    obtain ⟨g, rfl⟩ : ∃ g, fuel = g + 1 := ⟨fuel - 1, by omega⟩
    have hi2 := dnil hl
    have hj : out ++ jnA h ps [] = out := List.append_nil _
    rw [hj]
    have o1 : Out (fun c k => c = 91 ∧ k = 28) M (mset M 91 28 (M 91 28 + nI out.length)) := Out.set ⟨rfl, rfl⟩
    refine ⟨mset M 91 28 (M 91 28 + nI out.length), ?_, hO.out o1 (fun c k q => by unfold OuP; omega), ms_s _ _ _ _, o1.mono (fun c k q => Or.inr (Or.inr q))⟩
    show f_Mo_joins_l2B (f_Mo_joins_l2 g) h (nI i) M = _
    unfold f_Mo_joins_l2B
    rw [hR.1, show i = rows.length by omega, if_pos (Int32.le_refl _), bn, hO.1]
  | cons x l ih =>
    intro i fuel M out hl hi hf hD hR hO ho
    have hd := hD.2.1
    have hf : l.length + 1 < fuel := hf
    have ho : out.length + (l.length + 1) * 10 ≤ 300 := ho
    obtain ⟨g, rfl⟩ : ∃ g, fuel = g + 1 := ⟨fuel - 1, by omega⟩
    obtain ⟨e1, e2, e3, e4, e5⟩ := hR.2.2.at hl
    show ∃ M', f_Mo_joins_l2B (f_Mo_joins_l2 g) h (nI i) M = _ ∧ _
    unfold f_Mo_joins_l2B
    rw [hR.1, if_neg (fun q => by have := (nI_leI (by omega) (by omega)).mp q; omega)]
    obtain ⟨M1, a1, a2, a3⟩ := m_join1 (h := h) (r := x) (a := i) (by omega) (f_Mo_joins_l2 g) ps 0 FU M out rfl (Nat.zero_le _) (Nat.lt_trans (by omega) fu_lt) hD hO e1 e2 (by omega)
    have a1 : f_Mo_joins_l12 (f_Mo_joins_l2 g) FU h (nI i) 0 M = f_Mo_joins_l2 g h (nI (i + 1)) M1 := a1
    rw [a1]
    have hjl := jnT_len (h := h) (r := x) ps 0
    have x28 : M1 91 28 = M 91 28 := a3 _ _ (by unfold OuP; omega)
    obtain ⟨M2, b1, b2, b3, b4⟩ := ih (i + 1) g M1 _ e4 (by omega) (by omega) ⟨by rw [a3 _ _ (by unfold OuP; omega)]; exact hD.1, hD.2.1, hD.2.2.1.same (fun q _ => a3 _ _ (by unfold OuP; omega)), hD.2.2.2.same (fun q _ => a3 _ _ (by unfold OuP; omega))⟩ (hR.out a3 (fun c k q => by unfold OuP at q; unfold RoP; omega)) a2 (by rw [List.length_append]; omega)
    have hj : out ++ jnA h ps (x :: l) = out ++ jnT h x 0 ps ++ jnA h ps l := by
      unfold jnA
      rw [List.flatMap_cons, List.append_assoc]
    rw [hj]
    exact ⟨M2, b1, b2, by rw [b3, x28], (a3.mono (fun c k q => Or.inl q)).trans b4⟩
theorem m_joins {M : Mem} {ps : List (Int32 × Int32)} {rows : List T3} {h : Int32} (hr : rows.length ≤ 10) (hD : DoIs M ps) (hR : RoIs M rows) (hO : OuIs M []) : ∃ M', f_Mo_joins M h = some M' ∧ OuIs M' (jnA h ps rows) ∧ M' 91 28 = M 91 28 + nI (jnA h ps rows).length ∧ Out DsP M M' := by
  have h0 : ([] : List T3).length = 0 := rfl
  obtain ⟨M', a1, a2, a3, a4⟩ := m_joinsL (h := h) hr rows 0 FU M [] rfl (Nat.zero_le _) (Nat.lt_trans (by omega) fu_lt) hD hR hO (by omega)
  rw [List.nil_append] at a2 a3
  exact ⟨M', a1, a2, a3, a4⟩
