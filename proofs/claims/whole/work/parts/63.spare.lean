-- ===== spare =====
def spl (D : DT) : Nat → Nat → Int32 → Int32
  | 0, _, a => a
  | d + 1, i, a => spl D d (i + 1) (if vLk (dR D D.2.2 (nI i)) (dR D D.2.2 (-1)) (dO D).length = 0 then a else a ||| ((1 : Int32) <<< (nI i &&& 31)))
def vSp (D : DT) : Int32 := spl D (dL D).length 0 0
theorem dR_len {D : DT} (h : DOk D) {i : Nat} (hi : i < 12) : (dR D D.2.2 (nI i)).1 = -1 → (dR D D.2.2 (nI i)).2.2.2.1.length = (dO D).length := by
  obtain ⟨-, m, a2, a3, a4, a5⟩ := dR_ok h h.2.2.2 (sk_some (dL_l h) hi)
  exact a4
theorem dR_len0 {D : DT} (h : DOk D) {e : Nat} (he : e < 9) : (dR D e (-1)).1 = -1 → (dR D e (-1)).2.2.2.1.length = (dO D).length := by
  obtain ⟨-, m, a2, a3, a4, a5⟩ := dR_ok h he (sk_none (dL_l h))
  exact a4
theorem Ak79_S {c k : Nat} (h : AkP 79 c k) : UrP c k := by unfold AkP KpP at h; unfold UrP; omega
theorem c_spareL {D : DT} (h : DOk D) : ∀ (d i fuel : Nat) (a : Int32) (M : Mem), d + i = (dL D).length → d < fuel → EC D M → CRan D M → M 0 8 = 0 → ∃ M', f_U_spareBits_l4 fuel a (nI i) M = some (spl D d i a, M') ∧ EC D M' ∧ CRan D M' ∧ M' 0 8 = 0 ∧ Out UrP M M' := by
  have hl := dL_l h
  intro d
  induction d with
  | zero =>
    intro i fuel a M hi hf hE hC h8
    obtain ⟨k, rfl⟩ : ∃ k, fuel = k + 1 := ⟨fuel - 1, by omega⟩
    have ei : i = (dL D).length := by omega
    refine ⟨M, ?_, hE, hC, h8, Out.rfl⟩
    show f_U_spareBits_l4B _ _ _ _ = _
    unfold f_U_spareBits_l4B
    rw [hE.2.2.2.2.2.2.1.2.1, ei, if_pos (Int32.le_refl _)]
    rfl
  | succ d ih =>
    intro i fuel a M hi hf hE hC h8
    obtain ⟨k, rfl⟩ : ∃ k, fuel = k + 1 := ⟨fuel - 1, by omega⟩
    obtain ⟨M1, a1, a2, a3⟩ := c_askR (o := 79) h hE (by unfold isRun; omega) h.2.2.2 (sk_some hl (show i < 12 by omega))
    have hE1 : EC D M1 := hE.out a3 (fun c k q w => by unfold AkP KpP at q; unfold ECP at w; omega)
    have hC1 : CRan D M1 := hC.out a3 (fun c k q w => by unfold AkP KpP at q; omega)
    have h81 : M1 0 8 = 0 := by rw [a3 _ _ (fun q => by unfold AkP KpP at q; omega)]; exact h8
    have hk := c_like (o := 79) (a := 55) (dO_l h) a2 hC1.1 (dR_len h (by omega)) (dR_len0 h h.2.2.2)
    have hk' : f_Report_isLike 87 63 M1 (nI (dO D).length) = some (vLk (dR D D.2.2 (nI i)) (dR D D.2.2 (-1)) (dO D).length) := hk
    obtain ⟨M2, b1, b2, b3, b4, b5⟩ := ih (i + 1) k (if vLk (dR D D.2.2 (nI i)) (dR D D.2.2 (-1)) (dO D).length = 0 then a else a ||| ((1 : Int32) <<< (nI i &&& 31))) M1 (by omega) (by omega) hE1 hC1 h81
    refine ⟨M2, ?_, b2, b3, b4, (a3.mono (fun c k q => Ak79_S q)).trans b5⟩
    show f_U_spareBits_l4B _ _ _ _ = _
    unfold f_U_spareBits_l4B f_U_spareBits_b64 f_U_hosts
    rw [hE.2.2.2.2.2.2.1.2.1, if_neg (fun q => by rw [nI_leI (by omega) (by omega)] at q; omega), hE.2.2.2.2.2.2.2, a1, Option.bind_some, hE1.1, hk', Option.bind_some, nI_1]
    show _ = some (spl D d (i + 1) (if vLk (dR D D.2.2 (nI i)) (dR D D.2.2 (-1)) (dO D).length = 0 then a else a ||| ((1 : Int32) <<< (nI i &&& 31))), M2)
    rw [← b1]
    by_cases c : vLk (dR D D.2.2 (nI i)) (dR D D.2.2 (-1)) (dO D).length = 0
    · rw [if_pos c, if_pos c]
    · rw [if_neg c, if_neg c]
      rfl
theorem c_spare {D : DT} (h : DOk D) {M : Mem} (hE : EC D M) (hC : CRan D M) (h8 : M 0 8 = 0) : ∃ M', f_U_spareBits M = some (vSp D, M') ∧ EC D M' ∧ CRan D M' ∧ M' 0 8 = 0 ∧ Out UrP M M' :=
  c_spareL h (dL D).length 0 FU 0 M rfl (Nat.lt_of_le_of_lt (dL_l h) (Nat.lt_trans (by decide) fu_lt)) hE hC h8
-- the reference
theorem m_sp82 {D : DT} (h : DOk D) {M : Mem} {f g : Nat → Int32} {own a2 a3 : Int32} (k45 : Int32 → Int32 → Int32 → Mem → Option (Int32 × Mem)) (hT : TbM M (dO D) (dI D)) (h1 : own = -1) : ∀ (d i fuel : Nat) (b : Bool), d + i = (dO D).length → d < fuel → (b = true → ∀ j, j < (dO D).length → M 101 j = f j ∧ M 118 j = g j) →
    f_Mo_spareOf_l82 k45 fuel own a2 a3 (if b = true then 1 else 0) (nI i) M = f_Mo_spareOf_b133 k45 own a2 a3 (if b = true then (if alk f g d i = true then 1 else 0) else 0) M := by
  have hl := dO_l h
  intro d
  induction d with
  | zero =>
    intro i fuel b hi hf _
    obtain ⟨k, rfl⟩ : ∃ k, fuel = k + 1 := ⟨fuel - 1, by omega⟩
    have ei : i = (dO D).length := by omega
    show f_Mo_spareOf_l82B _ _ _ _ _ _ _ _ = _
    unfold f_Mo_spareOf_l82B
    rw [cl0, hT.2.2.1, ei, if_pos (Int32.le_refl _)]
    cases b <;> rfl
  | succ d ih =>
    intro i fuel b hi hf hb
    obtain ⟨k, rfl⟩ : ∃ k, fuel = k + 1 := ⟨fuel - 1, by omega⟩
    have i0 := ih (i + 1) k false (by omega) (by omega) (fun q => absurd q (by decide))
    simp only [Bool.false_eq_true, if_false] at i0
    show f_Mo_spareOf_l82B _ _ _ _ _ _ _ _ = _
    unfold f_Mo_spareOf_l82B f_Mo_spareOf_b124 f_Mo_spareOf_b125
    rw [cl0, hT.2.2.1, if_neg (fun q => by rw [nI_leI (by omega) (by omega)] at q; omega), if_pos h1, nI_1]
    cases b with
    | false =>
      simp only [Bool.false_eq_true, if_false, if_true]
      exact i0
    | true =>
      have i1 := ih (i + 1) k true (by omega) (by omega) hb
      simp only [if_true] at i1
      obtain ⟨q1, q2⟩ := hb rfl i (by omega)
      simp only [if_true, show ¬ (1 : Int32) = 0 by decide, if_false]
      rw [if_pos (gin_t (by omega) (by decide)), if_pos (gin_t (by omega) (by decide)), nI_clamp (by omega), q1, q2, i0, i1]
      show _ = f_Mo_spareOf_b133 k45 own a2 a3 (if (if f i = g i then alk f g d (i + 1) else false) = true then 1 else 0) M
      by_cases c : f i = g i
      · rw [if_pos c, if_pos c]
      · rw [if_neg c, if_neg c]
        rfl
theorem m_sp45 {D : DT} (h : DOk D) : ∀ (d i fuel : Nat) (a sk : Int32) (M : Mem), d + i = (dL D).length → d < fuel → StM M (dL D) sk → TbM M (dO D) (dI D) → M 91 10 = nI D.2.2 → ((dR D D.2.2 (-1)).1 = -1 → ∀ j, j < (dO D).length → M 118 j = fs1 (dR D D.2.2 (-1)).2.2.2.1 j) →
    ∃ M', f_Mo_spareOf_l45 fuel (dR D D.2.2 (-1)).1 a (nI i) M = some (spl D d i a, M') ∧ Out MoS M M' := by
  have hl := dL_l h
  have hlo := dO_l h
  intro d
  induction d with
  | zero =>
    intro i fuel a sk M hi hf hS hT hN hO
    obtain ⟨k, rfl⟩ : ∃ k, fuel = k + 1 := ⟨fuel - 1, by omega⟩
    have ei : i = (dL D).length := by omega
    refine ⟨M, ?_, Out.rfl⟩
    show f_Mo_spareOf_l45B _ _ _ _ _ = _
    unfold f_Mo_spareOf_l45B
    rw [hS.2.1, ei, if_pos (Int32.le_refl _)]
    rfl
  | succ d ih =>
    intro i fuel a sk M hi hf hS hT hN hO
    obtain ⟨k, rfl⟩ : ∃ k, fuel = k + 1 := ⟨fuel - 1, by omega⟩
    have o1 : Out (fun c k => c = 91 ∧ k = 11) M (mset M 91 11 (nI i)) := Out.set ⟨rfl, rfl⟩
    have hS1 : StM (mset M 91 11 (nI i)) (dL D) (nI i) := ⟨hl, by rw [o1 _ _ (fun q => by omega)]; exact hS.2.1, hS.2.2.1.out (fun j => o1 _ _ (fun q => by omega)) (fun j => o1 _ _ (fun q => by omega)), ms_s _ _ _ _⟩
    have hT1 : TbM (mset M 91 11 (nI i)) (dO D) (dI D) := hT.out o1 (fun c k q w => by omega)
    have hN1 : mset M 91 11 (nI i) 91 10 = nI D.2.2 := by rw [o1 _ _ (fun q => by omega)]; exact hN
    obtain ⟨M1, a1, a2, a3⟩ := m_rows h h.2.2.2 (sk_some hl (show i < 12 by omega)) hS1 hT1 hN1
    have hS2 : StM M1 (dL D) (nI i) := hS1.out a3 (fun c k q w => by unfold RwP AsP GtP GoP OuP HdP RoP OpP LgP at q; omega)
    have hT2 : TbM M1 (dO D) (dI D) := hT1.out a3 (fun c k q w => by unfold RwP AsP GtP GoP OuP HdP RoP OpP LgP at q; omega)
    have hN2 : M1 91 10 = nI D.2.2 := by rw [a3 _ _ (fun q => by unfold RwP AsP GtP GoP OuP HdP RoP OpP LgP at q; omega)]; exact hN1
    have hO2 : (dR D D.2.2 (-1)).1 = -1 → ∀ j, j < (dO D).length → M1 118 j = fs1 (dR D D.2.2 (-1)).2.2.2.1 j := fun q j hj => by
      rw [a3 _ _ (fun q => by unfold RwP AsP GtP GoP OuP HdP RoP OpP LgP at q; omega), o1 _ _ (fun q => by omega)]; exact hO q j hj
    obtain ⟨M2, b1, b2⟩ := ih (i + 1) k (if vLk (dR D D.2.2 (nI i)) (dR D D.2.2 (-1)) (dO D).length = 0 then a else a ||| ((1 : Int32) <<< (nI i &&& 31))) (nI i) M1 (by omega) (by omega) hS2 hT2 hN2 hO2
    refine ⟨M2, ?_, ((o1.mono (fun c k q => by unfold MoS; omega)).trans (a3.mono (fun c k q => RwP_S q))).trans b2⟩
    have hfin : ∀ r : Int32, (r = 0 ∨ r = 1) → r = vLk (dR D D.2.2 (nI i)) (dR D D.2.2 (-1)) (dO D).length → f_Mo_spareOf_b133 (f_Mo_spareOf_l45 k) (dR D D.2.2 (-1)).1 a (nI i) r M1 = some (spl D (d + 1) i a, M2) := by
      intro r hr er
      unfold f_Mo_spareOf_b133 f_Mo_spareOf_b146
      rw [nI_1]
      show _ = some (spl D d (i + 1) (if vLk (dR D D.2.2 (nI i)) (dR D D.2.2 (-1)) (dO D).length = 0 then a else a ||| ((1 : Int32) <<< (nI i &&& 31))), M2)
      rw [← b1, ← er]
      by_cases c : r = 0
      · rw [if_pos c, if_pos c, bn, Int32.or_zero]
      · rw [if_neg c, if_neg c, bn]
    show f_Mo_spareOf_l45B _ _ _ _ _ = _
    unfold f_Mo_spareOf_l45B f_Mo_spareOf_b77
    rw [hS.2.1, if_neg (fun q => by rw [nI_leI (by omega) (by omega)] at q; omega), bn, a1, Option.bind_some, cl0, a2.1]
    have hFU : (dO D).length < FU := Nat.lt_of_le_of_lt hlo (Nat.lt_trans (by decide) fu_lt)
    by_cases own : (dR D D.2.2 (-1)).1 = -1
    · by_cases c : (dR D D.2.2 (nI i)).1 = (dR D D.2.2 (-1)).1
      · rw [if_pos c]
        have hs : (dR D D.2.2 (nI i)).1 = -1 := by rw [c]; exact own
        have := m_sp82 h (f := fs1 (dR D D.2.2 (nI i)).2.2.2.1) (g := fs1 (dR D D.2.2 (-1)).2.2.2.1) (a2 := a) (a3 := nI i) (f_Mo_spareOf_l45 k) hT2 own (dO D).length 0 FU true rfl hFU (fun _ j hj => ⟨a2.2.1 hs j hj, hO2 own j hj⟩)
        simp only [if_true] at this
        refine Eq.trans this (hfin _ ?_ ?_)
        · split
          · exact Or.inr rfl
          · exact Or.inl rfl
        · unfold vLk
          rw [if_pos c, if_pos hs]
      · rw [if_neg c]
        have := m_sp82 h (f := fs1 (dR D D.2.2 (nI i)).2.2.2.1) (g := fs1 (dR D D.2.2 (-1)).2.2.2.1) (a2 := a) (a3 := nI i) (f_Mo_spareOf_l45 k) hT2 own (dO D).length 0 FU false rfl hFU (fun q => absurd q (by decide))
        simp only [Bool.false_eq_true, if_false] at this
        refine Eq.trans this (hfin _ (Or.inl rfl) ?_)
        unfold vLk
        rw [if_neg c]
    · have hz : ∀ r : Int32, f_Mo_spareOf_l82 (f_Mo_spareOf_l45 k) FU (dR D D.2.2 (-1)).1 a (nI i) r 0 M1 = f_Mo_spareOf_b133 (f_Mo_spareOf_l45 k) (dR D D.2.2 (-1)).1 a (nI i) r M1 := by
        intro r
        obtain ⟨g, hg⟩ : ∃ g, FU = g + 1 := ⟨FU - 1, by omega⟩
        rw [hg]
        show f_Mo_spareOf_l82B _ _ _ _ _ _ _ _ = _
        unfold f_Mo_spareOf_l82B
        split
        · rfl
        · first | rfl | rw [if_neg own]
      rw [hz, hz]
      by_cases c : (dR D D.2.2 (nI i)).1 = (dR D D.2.2 (-1)).1
      · rw [if_pos c]
        refine hfin _ (Or.inr rfl) ?_
        unfold vLk
        rw [if_pos c, if_neg (by rw [c]; exact own)]
      · rw [if_neg c]
        refine hfin _ (Or.inl rfl) ?_
        unfold vLk
        rw [if_neg c]
theorem m_sp15 {D : DT} (h : DOk D) {x2 : Int32} : ∀ (d i fuel : Nat) (M : Mem), d + i = (dO D).length → d < fuel → TbM M (dO D) (dI D) → (∀ j, j < i → M 118 j = M 101 j) →
    ∃ M', f_Mo_spareOf_l15 fuel x2 0 (nI i) M = f_Mo_spareOf_l45 FU x2 0 0 M' ∧ (∀ j, j < (dO D).length → M' 118 j = M' 101 j) ∧ Out (fun c k => c = 118) M M' := by
  have hlo := dO_l h
  intro d
  induction d with
  | zero =>
    intro i fuel M hi hf hT hj
    obtain ⟨k, rfl⟩ : ∃ k, fuel = k + 1 := ⟨fuel - 1, by omega⟩
    have ei : i = (dO D).length := by omega
    refine ⟨M, ?_, by rw [← ei]; exact hj, Out.rfl⟩
    show f_Mo_spareOf_l15B _ _ _ _ _ = _
    unfold f_Mo_spareOf_l15B
    rw [cl0, hT.2.2.1, ei, if_pos (Int32.le_refl _)]
  | succ d ih =>
    intro i fuel M hi hf hT hj
    obtain ⟨k, rfl⟩ : ∃ k, fuel = k + 1 := ⟨fuel - 1, by omega⟩
    have o1 : Out (fun c k => c = 118) M (mset M 118 i (M 101 i)) := Out.set rfl
    obtain ⟨M', b1, b2, b3⟩ := ih (i + 1) k (mset M 118 i (M 101 i)) (by omega) (by omega) (hT.out o1 (fun c k q w => by omega)) (fun j hj2 => by
      rw [ms_c _ _ (show (101 : Nat) ≠ 118 by decide)]
      by_cases e : j = i
      · rw [e, ms_s]
      · rw [ms_k _ _ e]; exact hj j (by omega))
    refine ⟨M', ?_, b2, o1.trans b3⟩
    rw [← b1]
    show f_Mo_spareOf_l15B _ _ _ _ _ = _
    unfold f_Mo_spareOf_l15B
    rw [cl0, hT.2.2.1, if_neg (fun q => by rw [nI_leI (by omega) (by omega)] at q; omega), if_pos (gin_t (by omega) (by decide)), if_pos (gin_t (by omega) (by decide)), bn, nI_clamp (by omega), nI_1]
theorem mv_spare {D : DT} {M : Mem} (h : DOk D) (hE : EM D M) : ∃ M', f_Mo_spareOf M = some (vSp D, M') ∧ Out MoS M M' := by
  obtain ⟨M1, a1, a2, a3, a4⟩ := m_told h hE
  obtain ⟨M2, b1, b2, b3⟩ := m_sp15 h (x2 := (dR D D.2.2 (-1)).1) (dO D).length 0 FU M1 rfl (Nat.lt_of_le_of_lt (dO_l h) (Nat.lt_trans (by decide) fu_lt)) a2.2.2.2.1 (fun j hj => absurd hj (Nat.not_lt_zero j))
  obtain ⟨M3, c1, c2⟩ := m_sp45 h (dL D).length 0 FU 0 (-1) M2 rfl (Nat.lt_of_le_of_lt (dL_l h) (Nat.lt_trans (by decide) fu_lt)) (a2.2.2.1.out b3 (fun c k q w => by omega)) (a2.2.2.2.1.out b3 (fun c k q w => by omega)) (by rw [b3 _ _ (fun q => by omega)]; exact a2.2.2.2.2) (fun q j hj => by
    rw [b2 j hj, b3 _ _ (fun q => by omega)]
    exact a2.1.2.1 q j hj)
  refine ⟨M3, ?_, (a4.trans (b3.mono (fun c k q => by unfold MoS; omega))).trans c2⟩
  have e0 : M1 100 0 = (dR D D.2.2 (-1)).1 := a2.1.1
  unfold f_Mo_spareOf
  rw [a1, Option.bind_some, bn, cl0, e0]
  exact b1.trans c1
