-- ===== the reference, free, whole =====
theorem fsp_pre : ∀ (l : List (Int32 × Int32)) (i0 i : Nat) (x : Int32 × Int32), l[i]? = some x → (∀ k, fsp i0 l = some k → i0 + i < k) → 4 < x.1 := by
  intro l
  induction l with
  | nil => intro i0 i x h _; rw [List.getElem?_nil] at h; cases h
  | cons y l ih =>
    intro i0 i x h hk
    unfold fsp at hk
    by_cases c : 4 < y.1
    · rw [if_pos c] at hk
      cases i with
      | zero =>
        have h : some y = some x := h
        injection h with h
        rw [← h]; exact c
      | succ i =>
        rw [List.getElem?_cons_succ] at h
        exact ih (i0 + 1) i x h (fun k q => by have := hk k q; omega)
    · rw [if_neg c] at hk
      have := hk i0 rfl
      omega
theorem jat_pre {en : Int32} {L : List (Int32 × Int32)} : ∀ i x, L[i]? = some x → (∀ k, jat en L = some k → i < k) → ¬ x.1 = 4 := by
  intro i x h hk q
  have := fsp_pre L 0 i x h (fun k w => by
    have := hk k (by unfold jat; rw [w])
    omega)
  rw [q] at this
  exact absurd this (by decide)
def FrP (c k : Nat) : Prop := (c = 91 ∧ (k = 17 ∨ k = 21 ∨ k = 28 ∨ k = 29 ∨ k = 31 ∨ k = 35)) ∨ (c = 100 ∧ k = 1) ∨ (c = 101 ∧ 10 ≤ k ∧ k < 20) ∨ (c = 102 ∧ 5 ≤ k ∧ k < 10) ∨ (c = 103 ∧ k = 1) ∨ (c = 104 ∧ 200 ≤ k ∧ k < 400) ∨ (105 ≤ c ∧ c ≤ 110) ∨ (114 ≤ c ∧ c ≤ 117)
/-- the rows and the rows handed on, of the free asking -/
def frF (en : Int32) (L lo li : List (Int32 × Int32)) : List T3 × Int32 := frR (jat en L) (dps en L lo) 0 L (inT li) (nI li.length)
def plf (en : Int32) (L : List (Int32 × Int32)) : Nat → Int32 := fun j => (pln en L).getD j 0
def FreIs (M : Mem) (en : Int32) (L lo li : List (Int32 × Int32)) (an : Nat → Int32) : Prop :=
  M 100 1 = erD an lo.length (-1) ∧ (∀ i, i < lo.length → M 101 (10 + i) = an i) ∧ LgIs M 1 (tells (tells [] (cds (plf en L) (pln en L).length 0)) (cdx (plf en L) (pln en L).length)) ∧ M 102 5 = nI li.length ∧ M 102 6 = (frF en L lo li).2 ∧ M 102 7 = 0 + nI (pln en L).length ∧ M 102 8 = nI (pln en L).length ∧ M 102 9 = 0 ∧ DoIs M (dps en L lo) ∧ PlIs M (pln en L)
set_option maxHeartbeats 20000000 in
theorem m_free {M : Mem} {L lo li : List (Int32 × Int32)} {sk en : Int32} {an : Nat → Int32} (hS : StM M L sk) (hE : M 91 10 = en) (hT : TbM M lo li) (hK : KdOk L)
    (han : ∀ i, i < lo.length → afin en (frv (jat en L) (dps en L lo) (gpl (fuv en L) [] lo) i) ((frF en L lo li).1.foldl (af (frp (jat en L) (gpl (fuv en L) [] lo) i) (frv (jat en L) (dps en L lo) (gpl (fuv en L) [] lo) i)) af0) = some (an i)) :
    ∃ M', f_Mo_free M = some M' ∧ FreIs M' en L lo li an ∧ Out FrP M M' := by
  have hlo := hT.1
  have hli := hT.2.1
  have hL := hS.1
  have nF : ∀ (c k : Nat), (c = 95 ∨ c = 96 ∨ c = 97 ∨ c = 98 ∨ c = 99 ∨ (c = 91 ∧ (k = 6 ∨ k = 10 ∨ k = 11))) → ¬ FrP c k := fun c k h q => by unfold FrP at q; omega
  have st : ∀ {M' : Mem}, Out FrP M M' → StM M' L sk := fun o => hS.out o (fun c k q w => nF c k (by omega) q)
  have te : ∀ {M' : Mem}, Out FrP M M' → M' 91 10 = en := fun o => by rw [o _ _ (nF _ _ (by omega))]; exact hE
  have tb : ∀ {M' : Mem}, Out FrP M M' → TbM M' lo li := fun o => hT.out o (fun c k q w => nF c k (by omega) q)
  obtain ⟨M1, a1, a2, a3, a4, a5, a6, a7⟩ := m_begins (M := M) (w := 1) (by decide)
  have a1 : f_Mo_begins M 1 = some M1 := a1
  have o1 : Out FrP M M1 := a7.mono (fun c k q => by unfold BnP at q; unfold FrP; omega)
  obtain ⟨M2, b1, b2, b3, b4⟩ := m_domain (st o1) (te o1) (tb o1) hK
  have o2 : Out FrP M M2 := o1.trans (b4.mono (fun c k q => by unfold DoP at q; unfold FrP; omega))
  obtain ⟨M3, c1, c2, c3⟩ := m_plans (st o2) (te o2) hK
  have o3 : Out FrP M M3 := o2.trans (c3.mono (fun c k q => by unfold PlP at q; unfold FrP; omega))
  have hpl := c2.2.1
  unfold f_Mo_free
  rw [a1, Option.bind_some, b1, Option.bind_some, c1, Option.bind_some]
  have e31 : ∀ c k, (c = 100 ∨ c = 102 ∨ c = 103 ∨ c = 104) → M3 c k = M1 c k := fun c k h => by rw [c3 _ _ (by unfold PlP; omega), b4 _ _ (by unfold DoP; omega)]
  have lg3 : LgIs M3 1 [] := ⟨by rw [e31 _ _ (by omega)]; exact a2.1, Nat.zero_le _, AH.nil⟩
  obtain ⟨M4, d1, d2, d3, d4⟩ := m_opensL (w := 1) (by decide) (f := plf en L) (n := (pln en L).length) (fun M => PlIs M (pln en L))
    (fun M => (f_Mo_comesOfInner M).bind fun q4 => bnd (mset q4 91 29 (q4 91 17)) fun M5 => bnd (mset M5 91 28 (M5 91 17)) fun M6 => (f_Mo_joinAt M6).bind fun q7 => f_Mo_free_l67 FU q7 0 M6)
    (fun fuel j M => f_Mo_free_l15 fuel j M)
    (fun M M' h o => ⟨by rw [o _ _ (by unfold OpP LgP; omega)]; exact h.1, h.2.1, h.2.2.same (fun j _ => o _ _ (by unfold OpP LgP; omega))⟩)
    (fun fuel j M hj hM => by
      show f_Mo_free_l15B (f_Mo_free_l15 fuel) (nI j) M = _
      unfold f_Mo_free_l15B
      rw [hM.1, if_neg (fun q => by have := (nI_leI (by omega) (by omega)).mp q; omega), if_pos (gin_t (by omega) (by decide)), nI_clamp (by omega), hM.2.2 j hj, nI_1]
      rfl)
    (fun fuel M hM => by
      show f_Mo_free_l15B (f_Mo_free_l15 fuel) (nI (pln en L).length) M = _
      unfold f_Mo_free_l15B
      rw [hM.1, if_pos (Int32.le_refl _)])
    (pln en L).length 0 FU M3 [] (by omega) (Nat.lt_trans (by omega) fu_lt) c2 lg3
  have d1 : f_Mo_free_l15 FU 0 M3 = _ := d1
  rw [d1]
  have o4 : Out FrP M M4 := o3.trans (d4.mono (fun c k q => by unfold OpP LgP at q; unfold FrP; omega))
  have hT4 := tb o4
  obtain ⟨M5, f1, f2, f3, f4⟩ := m_inner hli hT4.2.2.2.1 hT4.2.2.2.2.2
  rw [f1, Option.bind_some, bn, bn, ms_k _ _ (show 17 ≠ 29 by decide), f2.1]
  have hil : (inT li).length = li.length := by unfold inT; rw [List.length_map]
  rw [hil]
  have o5 : Out (fun c k => c = 91 ∧ (k = 28 ∨ k = 29)) M5 (mset (mset M5 91 29 (nI li.length)) 91 28 (nI li.length)) := (Out.set ⟨rfl, Or.inr rfl⟩).trans (Out.set ⟨rfl, Or.inl rfl⟩)
  have v28 : (mset (mset M5 91 29 (nI li.length)) 91 28 (nI li.length)) 91 28 = nI li.length := ms_s _ _ _ _
  have v29 : (mset (mset M5 91 29 (nI li.length)) 91 28 (nI li.length)) 91 29 = nI li.length := by rw [ms_k _ _ (by decide), ms_s]
  generalize mset (mset M5 91 29 (nI li.length)) 91 28 (nI li.length) = M6 at o5 v28 v29
  have o6 : Out FrP M M6 := o4.trans ((f4.mono (fun c k q => by unfold RoP at q; unfold FrP; omega)).trans (o5.mono (fun c k q => by unfold FrP; omega)))
  have e63 : ∀ c k, (c = 114 ∨ c = 115 ∨ c = 116 ∨ c = 117 ∨ c = 100 ∨ (c = 91 ∧ (k = 31 ∨ k = 35))) → M6 c k = M3 c k := fun c k h => by rw [o5 _ _ (by omega), f4 _ _ (by unfold RoP; omega), d4 _ _ (by unfold OpP LgP; omega)]
  have e62 : ∀ c k, (c = 114 ∨ c = 115 ∨ c = 116 ∨ (c = 91 ∧ k = 31)) → M6 c k = M2 c k := fun c k h => by rw [e63 _ _ (by omega), c3 _ _ (by unfold PlP; omega)]
  have hD6 : DoIs M6 (dps en L lo) := ⟨by rw [e62 _ _ (by omega)]; exact b2.1, b2.2.1, b2.2.2.1.same (fun q _ => e62 _ _ (by omega)), b2.2.2.2.same (fun q _ => e62 _ _ (by omega))⟩
  have hP6 : PlIs M6 (pln en L) := ⟨by rw [e63 _ _ (by omega)]; exact c2.1, c2.2.1, c2.2.2.same (fun q _ => e63 _ _ (by omega))⟩
  rw [m_joinAt (st o6) (te o6) hK, Option.bind_some]
  have hVP : VP (dps en L lo).length (inT li) := fun r hr => by
    unfold inT at hr
    obtain ⟨x, _, rfl⟩ := List.mem_map.mp hr
    exact Or.inl rfl
  obtain ⟨M7, g1, g2, g3, g4, g5, g6⟩ := m_stepsF (ps := dps en L lo) (ja := jat en L) (fun k h => jat_lt k h) jat_pre L 0 FU M6 (inT li) rfl (Nat.zero_le _) (Nat.lt_trans (by omega) fu_lt) (st o6) hD6 (f2.out o5 (fun c k q => by unfold RoP; omega)) (f3.out o5 (fun c k q => by unfold OuP; omega)) hVP (by omega) (fun _ => by omega)
  have g1 : f_Mo_free_l67 FU (jnI (jat en L)) 0 M6 = _ := g1
  rw [v28] at g2 g4 g5
  rw [g1, bn, g2.1]
  have nDs : ∀ c k, DsP c k → ((105 ≤ c ∧ c ≤ 110) ∨ (c = 91 ∧ (k = 17 ∨ k = 21 ∨ k = 28))) := fun c k q => by unfold DsP OuP RoP at q; omega
  have o7 : Out FrP M M7 := o6.trans (g6.mono (fun c k q => by have := nDs c k q; unfold FrP; omega))
  have o8' : Out (fun c k => c = 91 ∧ k = 21) M7 (mset M7 91 21 (nI (frR (jat en L) (dps en L lo) 0 L (inT li) (nI li.length)).1.length)) := Out.set ⟨rfl, rfl⟩
  have v21 : (mset M7 91 21 (nI (frR (jat en L) (dps en L lo) 0 L (inT li) (nI li.length)).1.length)) 91 21 = nI (frR (jat en L) (dps en L lo) 0 L (inT li) (nI li.length)).1.length := ms_s _ _ _ _
  generalize mset M7 91 21 (nI (frR (jat en L) (dps en L lo) 0 L (inT li) (nI li.length)).1.length) = M8 at o8' v21
  obtain ⟨M9, h1, h2, h3⟩ := m_outL (ja := jnI (jat en L)) (frR (jat en L) (dps en L lo) 0 L (inT li) (nI li.length)).1 0 FU M8 rfl (Nat.zero_le _) (Nat.lt_of_le_of_lt g2.2.1 (Nat.lt_trans (by decide) fu_lt)) (g2.out o8' (fun c k q => by unfold RoP; omega)) v21 (by rw [List.take_zero]; exact TH.nil)
  have h1 : f_Mo_free_l155 FU (jnI (jat en L)) 0 M8 = _ := h1
  have o9 : Out FrP M M9 := o7.trans ((o8'.mono (fun c k q => by unfold FrP; omega)).trans (h3.mono (fun c k q => by unfold FrP; omega)))
  have e96 : ∀ c k, ¬ ((105 ≤ c ∧ c ≤ 110) ∨ (c = 91 ∧ (k = 17 ∨ k = 21 ∨ k = 28))) → M9 c k = M6 c k := fun c k h => by rw [h3 _ _ (by omega), o8' _ _ (by omega), g6 _ _ (fun q => h (nDs c k q))]
  have x95 : M9 95 0 = nI lo.length := (tb o9).2.2.1
  rw [h1, bn, x95, show nI lo.length - 1 = nI lo.length + (-1) from Int32.sub_eq_add_neg _ _]
  have hD9 : DoIs M9 (dps en L lo) := ⟨by rw [e96 _ _ (by omega)]; exact hD6.1, hD6.2.1, hD6.2.2.1.same (fun q _ => e96 _ _ (by omega)), hD6.2.2.2.same (fun q _ => e96 _ _ (by omega))⟩
  obtain ⟨M10, i1, i2, i3, i4⟩ := m_ansL (rows := (frF en L lo li).1) (ps := dps en L lo) (P := gpl (fuv en L) [] lo) (ja := jat en L) (en := en) (an := an) hlo (fun k h => by have := jat_lt k h; omega) (fun c => ⟨gpl_len _ _ _, fun p hp => by
      have := gpl_lt _ _ _ _ hp
      unfold dps
      rw [if_neg c]
      exact this⟩) han lo.length FU M9 (Nat.le_refl _) (Nat.lt_trans (by omega) fu_lt) h2 hD9 (te o9) (fun c q hq => by rw [e96 _ _ (by omega), e62 _ _ (by omega)]; exact b3 c q hq) (fun q h1 h2 => by omega)
  rw [i1, bn]
  have o10 : Out FrP M M10 := o9.trans (i4.mono (fun c k q => by unfold FrP; omega))
  have hP10 : PlIs M10 (pln en L) := ⟨by rw [i4 _ _ (by omega), e96 _ _ (by omega)]; exact hP6.1, hP6.2.1, hP6.2.2.same (fun q _ => by rw [i4 _ _ (by omega), e96 _ _ (by omega)])⟩
  rw [hP10.1, show nI (pln en L).length - 1 = nI (pln en L).length + (-1) from Int32.sub_eq_add_neg _ _]
  have e104 : ∀ c k, (c = 102 ∨ c = 103 ∨ c = 104) → M10 c k = M4 c k := fun c k h => by rw [i4 _ _ (by omega), e96 _ _ (by omega), o5 _ _ (by omega), f4 _ _ (by unfold RoP; omega)]
  have lg10 : LgIs M10 1 (tells [] (cds (plf en L) (pln en L).length 0)) := ⟨by rw [e104 _ _ (by omega)]; exact d2.1, d2.2.1, d2.2.2.same (fun j _ => e104 _ _ (by omega))⟩
  obtain ⟨M11, j1, j2, j3⟩ := m_shutsL (w := 1) (by decide) (f := plf en L) (n := (pln en L).length) (fun M => PlIs M (pln en L))
    (fun M => bnd (mset M 102 5 (M 91 29)) fun M11 => bnd (mset M11 102 6 (M11 91 28)) fun M12 => bnd (mset M12 102 8 (M12 91 35)) fun M13 => some M13)
    (fun fuel j M => f_Mo_free_l306 fuel j M)
    (fun M M' h o => ⟨by rw [o _ _ (by unfold LgP; omega)]; exact h.1, h.2.1, h.2.2.same (fun j _ => o _ _ (by unfold LgP; omega))⟩)
    (fun fuel j M hj hM => by
      show f_Mo_free_l306B (f_Mo_free_l306 fuel) (nI j) M = _
      unfold f_Mo_free_l306B
      rw [if_neg (fun q => by have := (nI_ltI (a := j) (b := 0) (by omega) (by decide)).mp q; omega), if_pos (gin_t (by omega) (by decide)), nI_clamp (by omega), hM.2.2 j hj]
      rfl)
    (fun fuel M hM => by
      show f_Mo_free_l306B (f_Mo_free_l306 fuel) (nI 0 + (-1)) M = _
      unfold f_Mo_free_l306B
      rw [if_pos (by decide)]
      rfl)
    (pln en L).length FU M10 _ (Nat.le_refl _) (Nat.lt_trans (by omega) fu_lt) hP10 lg10
  have j1 : f_Mo_free_l306 FU (nI (pln en L).length + (-1)) M10 = _ := j1
  rw [j1, bn, bn, bn]
  have e1110 : ∀ c k, ¬ (c = 103 ∨ c = 104) → M11 c k = M10 c k := fun c k h => j3 _ _ (by unfold LgP; omega)
  have e116 : ∀ k, (k = 29 ∨ k = 35) → M11 91 k = M6 91 k := fun k h => by rw [e1110 _ _ (by omega), i4 _ _ (by omega), e96 _ _ (by omega)]
  have w28 : M11 91 28 = (frF en L lo li).2 := by rw [e1110 _ _ (by omega), i4 _ _ (by omega), h3 _ _ (by omega), o8' _ _ (by omega)]; exact g4
  rw [ms_c _ _ (show 91 ≠ 102 by decide), ms_c _ _ (show 91 ≠ 102 by decide), ms_c _ _ (show 91 ≠ 102 by decide), e116 29 (by omega), v29, w28, e116 35 (by omega), hP6.1]
  have oS : ∀ (M : Mem) (k : Nat) (v : Int32), (k = 5 ∨ k = 6 ∨ k = 8) → Out (fun c k => c = 102 ∧ (k = 5 ∨ k = 6 ∨ k = 8)) M (mset M 102 k v) := fun M k v h => Out.set ⟨rfl, h⟩
  have o12 : Out (fun c k => c = 102 ∧ (k = 5 ∨ k = 6 ∨ k = 8)) M11 (mset (mset (mset M11 102 5 (nI li.length)) 102 6 (frF en L lo li).2) 102 8 (nI (pln en L).length)) := (oS _ _ _ (by omega)).trans ((oS _ _ _ (by omega)).trans (oS _ _ _ (by omega)))
  refine ⟨_, rfl, ⟨?_, fun i hi => ?_, ?_, ?_, ?_, ?_, ?_, ?_, ?_, ?_⟩, ?_⟩
  · rw [o12 _ _ (by omega), e1110 _ _ (by omega), i3, e96 _ _ (by omega), e63 _ _ (by omega), e31 _ _ (by omega), a3]
  · rw [o12 _ _ (by omega), e1110 _ _ (by omega)]; exact i2 i hi
  · exact j2.out o12 (fun c k q => by unfold LgP; omega)
  · rw [ms_k _ _ (by decide), ms_k _ _ (by decide), ms_s]
  · rw [ms_k _ _ (by decide), ms_s]
  · rw [o12 _ _ (by omega), e1110 _ _ (by omega), e104 _ _ (by omega)]
    have d3 : M4 102 7 = M3 102 7 + nI (pln en L).length := d3
    rw [d3, e31 _ _ (by omega), show M1 102 7 = 0 from a4 2 (by decide)]
  · rw [ms_s]
  · rw [o12 _ _ (by omega), e1110 _ _ (by omega), e104 _ _ (by omega), d4 _ _ (by unfold OpP LgP; omega), e31 _ _ (by omega)]
    exact a4 4 (by decide)
  · have e : ∀ c k, (c = 114 ∨ c = 115 ∨ (c = 91 ∧ k = 31)) → (mset (mset (mset M11 102 5 (nI li.length)) 102 6 (frF en L lo li).2) 102 8 (nI (pln en L).length)) c k = M9 c k := fun c k h => by rw [o12 _ _ (by omega), e1110 _ _ (by omega), i4 _ _ (by omega)]
    exact ⟨by rw [e _ _ (by omega)]; exact hD9.1, hD9.2.1, hD9.2.2.1.same (fun q _ => e _ _ (by omega)), hD9.2.2.2.same (fun q _ => e _ _ (by omega))⟩
  · have e : ∀ c k, (c = 117 ∨ (c = 91 ∧ k = 35)) → (mset (mset (mset M11 102 5 (nI li.length)) 102 6 (frF en L lo li).2) 102 8 (nI (pln en L).length)) c k = M10 c k := fun c k h => by rw [o12 _ _ (by omega), e1110 _ _ (by omega)]
    exact ⟨by rw [e _ _ (by omega)]; exact hP10.1, hP10.2.1, hP10.2.2.same (fun q _ => e _ _ (by omega))⟩
  · exact o10.trans ((j3.mono (fun c k q => by unfold LgP at q; unfold FrP; omega)).trans (o12.mono (fun c k q => by unfold FrP; omega)))
