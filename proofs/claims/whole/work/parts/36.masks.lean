-- ===== a stretch of steps, and a whole asking, in the reference =====
def GtP (c k : Nat) : Prop := GoP c k ∨ (c = 91 ∧ k = 29)
theorem m_rowsL {L rows' : List (Int32 × Int32)} {rows : List T3} {sk hk hv wd : Int32} {r to fr : Nat} (hr : r < 20) (hto : to ≤ L.length) (hft : fr ≤ to) (hrl : rows.length ≤ 10 + fr) : ∀ (l : List T3) (i fuel : Nat) (M : Mem) (s : GS), l = rows.drop i → i ≤ rows.length → l.length < fuel → StM M L sk → M 96 r = hk → M 97 r = hv → RoIs M rows → GRel M s → s.1.length ≤ i → (∀ q, fr ≤ q → q < to → (s.2.1 q).length ≤ i) →
    ∃ M', f_Mo_goThrough_l8 fuel (nI fr) (nI to) (nI r) wd (nI i) M = some M' ∧ GRel M' (gu (fs1 L) (fs2 L) sk hk hv wd (to - fr) fr (gr (fs1 L) (fs2 L) sk hk wd fr (to - fr) l (M 91 29) s).2) ∧ M' 91 29 = (gr (fs1 L) (fs2 L) sk hk wd fr (to - fr) l (M 91 29) s).1 ∧ (gu (fs1 L) (fs2 L) sk hk hv wd (to - fr) fr (gr (fs1 L) (fs2 L) sk hk wd fr (to - fr) l (M 91 29) s).2).1.length ≤ rows.length + (to - fr) ∧ (∀ q, q < fr ∨ to ≤ q → (gu (fs1 L) (fs2 L) sk hk hv wd (to - fr) fr (gr (fs1 L) (fs2 L) sk hk wd fr (to - fr) l (M 91 29) s).2).2.1 q = s.2.1 q) ∧ Out GtP M M' := by
  intro l
  have nG : ∀ c k, GtP c k → ¬ ((c = 91 ∧ (k = 6 ∨ k = 11)) ∨ c = 98 ∨ c = 99) := fun c k q => by unfold GtP GoP OuP HdP at q; omega
  have n96 : ∀ k, ¬ GtP 96 k := fun k q => by unfold GtP GoP OuP HdP at q; omega
  have n97 : ∀ k, ¬ GtP 97 k := fun k q => by unfold GtP GoP OuP HdP at q; omega
  have nR : ∀ c k, GtP c k → ¬ RoP c k := fun c k q => by unfold GtP GoP OuP HdP at q; unfold RoP; omega
  have fin : ∀ (M : Mem) (s : GS), StM M L sk → M 96 r = hk → M 97 r = hv → GRel M s → s.1.length ≤ rows.length → (∀ q, fr ≤ q → q < to → (s.2.1 q).length ≤ rows.length) → ∃ M', f_Mo_goThrough_b81 (nI fr) (nI to) (nI r) wd M = some M' ∧ GRel M' (gu (fs1 L) (fs2 L) sk hk hv wd (to - fr) fr s) ∧ M' 91 29 = M 91 29 ∧ (gu (fs1 L) (fs2 L) sk hk hv wd (to - fr) fr s).1.length ≤ rows.length + (to - fr) ∧ (∀ q, q < fr ∨ to ≤ q → (gu (fs1 L) (fs2 L) sk hk hv wd (to - fr) fr s).2.1 q = s.2.1 q) ∧ Out GtP M M' := fun M s hS hK hV hs hl hb => by
    have hL := hS.1
    obtain ⟨M', a1, a2, a3, a4, a5⟩ := m_union (wd := wd) (fr := fr) hr hto (to - fr) fr FU M s rows.length (by omega) (Nat.lt_trans (by omega) fu_lt) (Nat.le_refl _) hS hK hV hs hl hb (by omega)
    exact ⟨M', a1, a2, a5 _ _ (by unfold GoP OuP HdP; omega), a3, a4, a5.mono (fun c k q => Or.inl q)⟩
  induction l with
  | nil =>
    intro i fuel M s hl hi hf hS hK hV hR hs hlen hb
    have hf : 0 < fuel := hf
    obtain ⟨g, rfl⟩ : ∃ g, fuel = g + 1 := ⟨fuel - 1, by omega⟩
    have hi2 := dnil hl
    obtain ⟨M', a1, a2, a3, a4, a5, a6⟩ := fin M s hS hK hV hs (by omega) (fun q h1 h2 => Nat.le_trans (hb q h1 h2) hi)
    refine ⟨M', ?_, a2, a3, a4, a5, a6⟩
    show f_Mo_goThrough_l8B (f_Mo_goThrough_l8 g) (nI fr) (nI to) (nI r) wd (nI i) M = _
    unfold f_Mo_goThrough_l8B
    rw [hR.1, show i = rows.length by omega, if_pos (Int32.le_refl _)]
    exact a1
  | cons x l ih =>
    intro i fuel M s hl hi hf hS hK hV hR hs hlen hb
    have hL := hS.1
    have hf : l.length + 1 < fuel := hf
    obtain ⟨g, rfl⟩ : ∃ g, fuel = g + 1 := ⟨fuel - 1, by omega⟩
    obtain ⟨e1, e2, e3, e4, e5⟩ := hR.2.2.at hl
    have Gi : gin (nI i) 300 := gin_t (by omega) (by decide)
    have hci : (nI i).toNatClampNeg = i := nI_clamp (by omega)
    show ∃ M', f_Mo_goThrough_l8B (f_Mo_goThrough_l8 g) (nI fr) (nI to) (nI r) wd (nI i) M = _ ∧ _
    unfold f_Mo_goThrough_l8B gr
    rw [hR.1, if_neg (fun q => by have := (nI_leI (by omega) (by omega)).mp q; omega), hs.2.2.2]
    by_cases c0 : s.2.2.2 = 0
    · rw [if_pos c0, if_pos c0, bn, hs.2.2.1]
      have o2 : Out (fun c k => c = 91 ∧ k = 28) M (mset M 91 28 (s.2.2.1 + 1)) := Out.set ⟨rfl, rfl⟩
      have hs2 : GRel (mset M 91 28 (s.2.2.1 + 1)) (hd1 s) := ⟨hs.1.out o2 (fun c k q => by unfold OuP; omega), hs.2.1.out o2 (fun c k q => by unfold HdP; omega), ms_s _ _ _ _, by rw [ms_k _ _ (by decide)]; exact hs.2.2.2⟩
      have x29 : (mset M 91 28 (s.2.2.1 + 1)) 91 29 = M 91 29 := ms_k _ _ (by decide)
      have hb48 : (if nI fr = 0 then f_Mo_goThrough_b48 (f_Mo_goThrough_l8 g) (nI fr) (nI to) (nI r) wd (nI i) 1 ((mset M 91 28 (s.2.2.1 + 1)) 91 29) (mset M 91 28 (s.2.2.1 + 1)) else f_Mo_goThrough_b48 (f_Mo_goThrough_l8 g) (nI fr) (nI to) (nI r) wd (nI i) 0 ((mset M 91 28 (s.2.2.1 + 1)) 91 29) (mset M 91 28 (s.2.2.1 + 1))) = f_Mo_goThrough_b48 (f_Mo_goThrough_l8 g) (nI fr) (nI to) (nI r) wd (nI i) (if fr = 0 then 1 else 0) (M 91 29) (mset M 91 28 (s.2.2.1 + 1)) := by
        rw [x29]
        by_cases e : fr = 0
        · rw [if_pos (show nI fr = 0 by rw [e]; rfl), if_pos e]
        · rw [if_neg (show ¬ nI fr = 0 from nI_ne (b := 0) (by omega) (by decide) e), if_neg e]
      rw [hb48]
      generalize mset M 91 28 (s.2.2.1 + 1) = M1 at o2 hs2
      unfold f_Mo_goThrough_b48
      rw [bn, if_pos Gi, if_pos Gi]
      simp only [hci]
      have o3 : Out (fun c k => c = 91 ∧ k = 29) M1 (mset M1 91 29 (M 91 29 + if fr = 0 then 1 else 0)) := Out.set ⟨rfl, rfl⟩
      have hs3 : GRel (mset M1 91 29 (M 91 29 + if fr = 0 then 1 else 0)) (hd1 s) := ⟨hs2.1.out o3 (fun c k q => by unfold OuP; omega), hs2.2.1.out o3 (fun c k q => by unfold HdP; omega), by rw [ms_k _ _ (by decide)]; exact hs2.2.2.1, by rw [ms_k _ _ (by decide)]; exact hs2.2.2.2⟩
      have y29 : (mset M1 91 29 (M 91 29 + if fr = 0 then 1 else 0)) 91 29 = M 91 29 + if fr = 0 then 1 else 0 := ms_s _ _ _ _
      have o4 : Out GtP M (mset M1 91 29 (M 91 29 + if fr = 0 then 1 else 0)) := (o2.mono (fun c k q => Or.inl (Or.inr (Or.inr ⟨q.1, Or.inl q.2⟩)))).trans (o3.mono (fun c k q => Or.inr q))
      generalize mset M1 91 29 (M 91 29 + if fr = 0 then 1 else 0) = M2 at hs3 y29 o4
      have hR2 := hR.out o4 nR
      obtain ⟨f1, f2, _, _, _⟩ := hR2.2.2.at hl
      rw [f1, f2]
      unfold f_Mo_goes
      have hS2 := hS.out o4 nG
      have x96 : M2 96 r = hk := by rw [o4 _ _ (n96 _)]; exact hK
      obtain ⟨M3, b1, b2, b3⟩ := m_goes (sk := sk) (hk := hk) (wd := wd) (k := x.1) hr hto (to - fr) fr FU M2 x.2.1 (hd1 s) (by omega) (Nat.lt_trans (by omega) fu_lt) hS2 x96 hs3 (by show s.1.length < 300; omega) (fun q h1 h2 => by have := hb q h1 h2; show (s.2.1 q).length < 40; omega)
      rw [b1, Option.bind_some, nI_1]
      have o5 : Out GtP M M3 := o4.trans (b3.mono (fun c k q => Or.inl q))
      have z29 : M3 91 29 = M 91 29 + if fr = 0 then 1 else 0 := by rw [b3 _ _ (by unfold GoP OuP HdP; omega)]; exact y29
      obtain ⟨p1, p2, p3⟩ := gs_b (kd := fs1 L) (fg := fs2 L) (sk := sk) (hk := hk) (wd := wd) (k := x.1) (to - fr) fr x.2.1 (hd1 s)
      obtain ⟨M4, d1, d2, d3, d4, d5, d6⟩ := ih (i + 1) g M3 _ e4 (by omega) (by omega) (hS.out o5 nG) (by rw [o5 _ _ (n96 _)]; exact hK) (by rw [o5 _ _ (n97 _)]; exact hV) (hR.out o5 nR) b2 (by have : (hd1 s).1.length = s.1.length := rfl; omega) (fun q h1 h2 => by have := p2 q; have h3 : ((hd1 s).2.1 q).length = (s.2.1 q).length := rfl; have := hb q h1 h2; omega)
      rw [z29] at d2 d3 d4 d5
      exact ⟨M4, d1, d2, d3, d4, fun q hq => (d5 q hq).trans (p3 q (by omega)), o5.trans d6⟩
    · rw [if_neg c0, if_neg c0]
      exact fin M s hS hK hV hs (by omega) (fun q h1 h2 => Nat.le_trans (hb q h1 h2) hi)
/-- the rows gone through a stretch of steps -/
def gtr (kd fg : Nat → Int32) (sk hk hv wd : Int32) (fr to : Nat) (rows : List T3) (rd : Int32) (s : GS) : Int32 × GS :=
  ((gr kd fg sk hk wd fr (to - fr) rows rd ([], s.2)).1, gu kd fg sk hk hv wd (to - fr) fr (gr kd fg sk hk wd fr (to - fr) rows rd ([], s.2)).2)
theorem m_through {M : Mem} {L : List (Int32 × Int32)} {rows : List T3} {sk hk hv wd : Int32} {r to fr : Nat} {s : GS} (hr : r < 20) (hto : to ≤ L.length) (hft : fr ≤ to) (hrl : rows.length ≤ 10 + fr) (hS : StM M L sk) (hK : M 96 r = hk) (hV : M 97 r = hv) (hR : RoIs M rows) (hs : GRel M s) (hb : ∀ q, fr ≤ q → s.2.1 q = []) :
    ∃ M', f_Mo_goThrough M (nI fr) (nI to) (nI r) wd = some M' ∧ GRel M' (gtr (fs1 L) (fs2 L) sk hk hv wd fr to rows (M 91 29) s).2 ∧ M' 91 29 = (gtr (fs1 L) (fs2 L) sk hk hv wd fr to rows (M 91 29) s).1 ∧ (gtr (fs1 L) (fs2 L) sk hk hv wd fr to rows (M 91 29) s).2.1.length ≤ 10 + to ∧ (∀ q, to ≤ q → (gtr (fs1 L) (fs2 L) sk hk hv wd fr to rows (M 91 29) s).2.2.1 q = []) ∧ Out GtP M M' := by
  have hL := hS.1
  unfold f_Mo_goThrough
  rw [bn]
  have o1 : Out (fun c k => c = 91 ∧ k = 21) M (mset M 91 21 0) := Out.set ⟨rfl, rfl⟩
  have hs1 : GRel (mset M 91 21 0) ([], s.2) := ⟨⟨by rw [ms_s]; rfl, Nat.zero_le _, TH.nil⟩, hs.2.1.out o1 (fun c k q => by unfold HdP; omega), by rw [ms_k _ _ (by decide)]; exact hs.2.2.1, by rw [ms_k _ _ (by decide)]; exact hs.2.2.2⟩
  obtain ⟨M', a1, a2, a3, a4, a5, a6⟩ := m_rowsL (rows' := []) (wd := wd) (hk := hk) (hv := hv) hr hto hft hrl rows 0 FU (mset M 91 21 0) ([], s.2) rfl (Nat.zero_le _) (Nat.lt_trans (by omega) fu_lt) (hS.out o1 (fun c k q => by omega)) (by rw [ms_c _ _ (by decide)]; exact hK) (by rw [ms_c _ _ (by decide)]; exact hV) (hR.out o1 (fun c k q => by unfold RoP; omega)) hs1 (Nat.zero_le _) (fun q h1 h2 => by show (s.2.1 q).length ≤ 0; rw [hb q h1]; exact Nat.le_refl _)
  rw [ms_k _ _ (show 29 ≠ 21 by decide)] at a2 a3 a4 a5
  refine ⟨M', a1, a2, a3, ?_, fun q hq => ?_, (o1.mono (fun c k q => by unfold GtP GoP OuP; omega)).trans a6⟩
  · have : (gtr (fs1 L) (fs2 L) sk hk hv wd fr to rows (M 91 29) s).2.1.length ≤ rows.length + (to - fr) := a4
    omega
  · have h1 : (gtr (fs1 L) (fs2 L) sk hk hv wd fr to rows (M 91 29) s).2.2.1 q = s.2.1 q := a5 q (Or.inr hq)
    rw [h1, hb q (by omega)]
theorem grp_len : ∀ (l a : List T3), (l.foldl addG a).length ≤ a.length + l.length := by
  intro l
  induction l with
  | nil => intro a; exact Nat.le_refl _
  | cons x l ih =>
    intro a
    have h1 := ih (addG a x)
    have h2 := addG_len a x
    show (l.foldl addG (addG a x)).length ≤ a.length + (l.length + 1)
    omega
/-- how many rows the reference waits for -/
def wdF (en : Int32) : Int32 := if en = 6 then 1 else if en = 5 then 2 else -1
/-- all stretches between the groups -/
def asl (kd fg : Nat → Int32) (sk hk hv en : Int32) : Nat → Nat → Nat → List T3 → Int32 → GS → Int32 × GS
  | 0, j, fr, rows, rd, s => gtr kd fg sk hk hv (wdF en) fr j rows rd s
  | d + 1, j, fr, rows, rd, s =>
    if kd j = 6 then
      (if nI j = sk then asl kd fg sk hk hv en d (j + 1) fr rows rd s
       else asl kd fg sk hk hv en d (j + 1) (j + 1) (grp (gtr kd fg sk hk hv (-1) fr j rows rd s).2.1) (gtr kd fg sk hk hv (-1) fr j rows rd s).1 ([], (gtr kd fg sk hk hv (-1) fr j rows rd s).2.2))
    else asl kd fg sk hk hv en d (j + 1) fr rows rd s
def AsP (c k : Nat) : Prop := GtP c k ∨ RoP c k
theorem m_asksL {L : List (Int32 × Int32)} {sk hk hv en : Int32} {r : Nat} (hr : r < 20) : ∀ (d j fr fuel : Nat) (M : Mem) (rows : List T3) (s : GS), d + j = L.length → d < fuel → fr ≤ j → rows.length ≤ 10 + fr → StM M L sk → M 91 10 = en → M 96 r = hk → M 97 r = hv → RoIs M rows → GRel M s → (∀ q, fr ≤ q → s.2.1 q = []) →
    ∃ M', f_Mo_asksFor_l34 fuel (nI r) (nI fr) (nI j) M = some M' ∧ GRel M' (asl (fs1 L) (fs2 L) sk hk hv en d j fr rows (M 91 29) s).2 ∧ M' 91 29 = (asl (fs1 L) (fs2 L) sk hk hv en d j fr rows (M 91 29) s).1 ∧ Out AsP M M' := by
  have nG : ∀ c k, AsP c k → ¬ ((c = 91 ∧ (k = 6 ∨ k = 11)) ∨ c = 98 ∨ c = 99) := fun c k q => by unfold AsP GtP GoP OuP HdP RoP at q; omega
  have nX : ∀ c k, (c = 96 ∨ c = 97 ∨ (c = 91 ∧ k = 10)) → ¬ AsP c k := fun c k h q => by unfold AsP GtP GoP OuP HdP RoP at q; omega
  intro d
  induction d with
  | zero =>
    intro j fr fuel M rows s hd hf hfr hrl hS hE hK hV hR hs hb
    have hL := hS.1
    obtain ⟨g, rfl⟩ : ∃ g, fuel = g + 1 := ⟨fuel - 1, by omega⟩
    obtain ⟨M', a1, a2, a3, a4, a5, a6⟩ := m_through (wd := wdF en) hr (Nat.le_refl _) (show fr ≤ L.length by omega) hrl hS hK hV hR hs hb
    have hj : j = L.length := by omega
    refine ⟨M', ?_, by rw [hj]; exact a2, by rw [hj]; exact a3, a6.mono (fun c k q => Or.inl q)⟩
    show f_Mo_asksFor_l34B (f_Mo_asksFor_l34 g) (nI r) (nI fr) (nI j) M = _
    unfold f_Mo_asksFor_l34B f_Mo_asksFor_b116
    rw [hS.2.1, hj, if_pos (Int32.le_refl _), hE]
    unfold wdF at a1
    by_cases c6 : en = 6
    · rw [if_pos c6] at a1 ⊢
      rw [a1, Option.bind_some]
    · rw [if_neg c6] at a1 ⊢
      by_cases c5 : en = 5
      · rw [if_pos c5] at a1 ⊢
        rw [a1, Option.bind_some]
      · rw [if_neg c5] at a1 ⊢
        rw [a1, Option.bind_some]
  | succ d ih =>
    intro j fr fuel M rows s hd hf hfr hrl hS hE hK hV hR hs hb
    have hL := hS.1
    obtain ⟨g, rfl⟩ : ∃ g, fuel = g + 1 := ⟨fuel - 1, by omega⟩
    have Gj : gin (nI j) 12 := gin_t (by omega) (by decide)
    have hcj : (nI j).toNatClampNeg = j := nI_clamp (by omega)
    obtain ⟨e1, e2⟩ := hS.2.2.1.fs (j := j) (by omega)
    show ∃ M', f_Mo_asksFor_l34B (f_Mo_asksFor_l34 g) (nI r) (nI fr) (nI j) M = _ ∧ _
    unfold f_Mo_asksFor_l34B f_Mo_asksFor_b77 asl
    rw [hS.2.1, if_neg (fun q => by have := (nI_leI (by omega) (by omega)).mp q; omega), if_pos Gj]
    simp only [hcj]
    rw [e1, hS.2.2.2]
    by_cases c6 : fs1 L j = 6
    · rw [if_pos c6, if_pos c6]
      by_cases c1 : nI j = sk
      · rw [if_pos c1, if_pos c1, nI_1]
        exact ih (j + 1) fr g M rows s (by omega) (by omega) (by omega) hrl hS hE hK hV hR hs hb
      · rw [if_neg c1, if_neg c1]
        obtain ⟨M1, a1, a2, a3, a4, a5, a6⟩ := m_through (wd := -1) hr (show j ≤ L.length by omega) hfr hrl hS hK hV hR hs hb
        rw [a1, Option.bind_some]
        obtain ⟨M2, b1, b2, b3, b4⟩ := m_groups (by omega) a2.1
        rw [b1, Option.bind_some, bn, nI_1]
        have o2 : Out AsP M M2 := (a6.mono (fun c k q => Or.inl q)).trans (b4.mono (fun c k q => by
          rcases q with q | q
          · exact Or.inr q
          · exact Or.inl (Or.inl (Or.inl (by unfold OuP; omega)))))
        have x29 : M2 91 29 = (gtr (fs1 L) (fs2 L) sk hk hv (-1) fr j rows (M 91 29) s).1 := by rw [b4 _ _ (by unfold RoP; omega)]; exact a3
        have hgl := grp_len (gtr (fs1 L) (fs2 L) sk hk hv (-1) fr j rows (M 91 29) s).2.1 []
        have h0 : ([] : List T3).length = 0 := rfl
        have hs2 : GRel M2 ([], (gtr (fs1 L) (fs2 L) sk hk hv (-1) fr j rows (M 91 29) s).2.2) := ⟨b3, a2.2.1.out b4 (fun c k q => by unfold RoP at q; unfold HdP; omega), by rw [b4 _ _ (by unfold RoP; omega)]; exact a2.2.2.1, by rw [b4 _ _ (by unfold RoP; omega)]; exact a2.2.2.2⟩
        obtain ⟨M3, d1, d2, d3, d4⟩ := ih (j + 1) (j + 1) g M2 (grp (gtr (fs1 L) (fs2 L) sk hk hv (-1) fr j rows (M 91 29) s).2.1) _ (by omega) (by omega) (Nat.le_refl _) (by unfold grp; omega) (hS.out o2 nG) (by rw [o2 _ _ (nX _ _ (by omega))]; exact hE) (by rw [o2 _ _ (nX _ _ (by omega))]; exact hK) (by rw [o2 _ _ (nX _ _ (by omega))]; exact hV) b2 hs2 (fun q hq => a5 q (by omega))
        rw [x29] at d2 d3
        exact ⟨M3, d1, d2, d3, o2.trans d4⟩
    · rw [if_neg c6, if_neg c6, nI_1]
      exact ih (j + 1) fr g M rows s (by omega) (by omega) (by omega) hrl hS hE hK hV hR hs hb
theorem m_zeroL {r : Nat} : ∀ (d i fuel : Nat) (M : Mem), d + i = 12 → d < fuel → (∀ q, q < i → M 111 q = 0) →
    ∃ M', f_Mo_asksFor_l13 fuel (nI r) 0 (nI i) M = f_Mo_asksFor_l34 FU (nI r) 0 0 M' ∧ (∀ q, q < 12 → M' 111 q = 0) ∧ Out (fun c k => c = 111) M M' := by
  intro d
  induction d with
  | zero =>
    intro i fuel M hd hf hz
    obtain ⟨g, rfl⟩ : ∃ g, fuel = g + 1 := ⟨fuel - 1, by omega⟩
    refine ⟨M, ?_, fun q hq => hz q (by omega), Out.rfl⟩
    show f_Mo_asksFor_l13B (f_Mo_asksFor_l13 g) (nI r) 0 (nI i) M = _
    unfold f_Mo_asksFor_l13B
    rw [show i = 12 by omega, if_pos (by decide)]
  | succ d ih =>
    intro i fuel M hd hf hz
    obtain ⟨g, rfl⟩ : ∃ g, fuel = g + 1 := ⟨fuel - 1, by omega⟩
    obtain ⟨M', a1, a2, a3⟩ := ih (i + 1) g (mset M 111 i 0) (by omega) (by omega) (fun q hq => by
      by_cases e : q = i
      · rw [e, ms_s]
      · rw [ms_k _ _ e]; exact hz q (by omega))
    have o0 : Out (fun c k => c = 111) M (mset M 111 i 0) := Out.set rfl
    refine ⟨M', ?_, a2, o0.trans a3⟩
    show f_Mo_asksFor_l13B (f_Mo_asksFor_l13 g) (nI r) 0 (nI i) M = _
    unfold f_Mo_asksFor_l13B
    rw [if_neg (fun q => by have := (nI_leI (a := 12) (by decide) (by omega)).mp q; omega), if_pos (gin_t (by omega) (by decide)), nI_clamp (by omega), bn, nI_1]
    exact a1
/-- what one outer row gets from the reference: rows read, and the state with the rows out -/
def ask1 (L li : List (Int32 × Int32)) (sk en : Int32) (x : Int32 × Int32) (rd hd : Int32) : Int32 × GS :=
  asl (fs1 L) (fs2 L) sk x.1 x.2 en L.length 0 0 (inT li) rd ([], (fun _ => [] : HD), hd, 0)
theorem m_asks {M : Mem} {L li : List (Int32 × Int32)} {sk en : Int32} {x : Int32 × Int32} {r : Nat} (hr : r < 20) (hli : li.length ≤ 10) (hS : StM M L sk) (hE : M 91 10 = en) (hK : M 96 r = x.1) (hV : M 97 r = x.2) (h1 : M 95 1 = nI li.length) (hI : SH (fun j => M 96 (10 + j)) (fun j => M 97 (10 + j)) li) :
    ∃ M', f_Mo_asksFor M (nI r) = some M' ∧ GRel M' (ask1 L li sk en x (M 91 29) (M 91 28)).2 ∧ M' 91 29 = (ask1 L li sk en x (M 91 29) (M 91 28)).1 ∧ Out AsP M M' := by
  have hL := hS.1
  unfold f_Mo_asksFor
  rw [bn]
  have o0 : Out (fun c k => c = 91 ∧ k = 30) M (mset M 91 30 0) := Out.set ⟨rfl, rfl⟩
  obtain ⟨M1, a1, a2, a3, a4⟩ := m_inner hli (M := mset M 91 30 0) (by rw [ms_c _ _ (by decide)]; exact h1) ⟨hI.1.same (fun j _ => by show (mset M 91 30 0) 96 _ = _; rw [ms_c _ _ (by decide)]), hI.2.same (fun j _ => by show (mset M 91 30 0) 97 _ = _; rw [ms_c _ _ (by decide)])⟩
  rw [a1, Option.bind_some]
  obtain ⟨M2, b1, b2, b3⟩ := m_zeroL (r := r) 12 0 FU M1 (by omega) (by decide) (fun q h => absurd h (Nat.not_lt_zero q))
  have b1 : f_Mo_asksFor_l13 FU (nI r) 0 0 M1 = f_Mo_asksFor_l34 FU (nI r) 0 0 M2 := b1
  rw [b1]
  have o1 : Out (fun c k => RoP c k ∨ (c = 91 ∧ (k = 21 ∨ k = 30)) ∨ c = 111) M M2 := (o0.mono (fun c k q => by omega)).trans ((a4.mono (fun c k q => by rcases q with q | q; exact Or.inl q; exact Or.inr (Or.inl ⟨q.1, Or.inl q.2⟩))).trans (b3.mono (fun c k q => Or.inr (Or.inr q))))
  have hs2 : GRel M2 ([], (fun _ => [] : HD), M 91 28, 0) := by
    refine ⟨a3.out b3 (fun c k q => by unfold OuP; omega), fun j hj => ⟨?_, Nat.zero_le _, AH.nil, AH.nil⟩, ?_, ?_⟩
    · rw [b2 j hj]; rfl
    · exact o1 _ _ (by unfold RoP; omega)
    · show M2 91 30 = 0
      rw [b3 _ _ (by omega), a4 _ _ (by unfold RoP; omega), ms_s]
  have hR2 := a2.out b3 (fun c k q => by unfold RoP; omega)
  obtain ⟨M3, d1, d2, d3, d4⟩ := m_asksL (sk := sk) (en := en) (hk := x.1) (hv := x.2) hr L.length 0 0 FU M2 (inT li) _ (by omega) (Nat.lt_trans (by omega) fu_lt) (Nat.le_refl _) (by unfold inT; rw [List.length_map]; omega) (hS.out o1 (fun c k q => by unfold RoP at q; omega)) (by rw [o1 _ _ (by unfold RoP; omega)]; exact hE) (by rw [o1 _ _ (by unfold RoP; omega)]; exact hK) (by rw [o1 _ _ (by unfold RoP; omega)]; exact hV) hR2 hs2 (fun q _ => rfl)
  rw [o1 91 29 (by unfold RoP; omega)] at d2 d3
  refine ⟨M3, d1, d2, d3, (o1.mono (fun c k q => ?_)).trans d4⟩
  unfold AsP GtP GoP OuP HdP
  unfold RoP at q ⊢
  omega
