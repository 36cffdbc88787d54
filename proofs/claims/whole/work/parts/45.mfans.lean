-- ===== the answers of the reference, free =====
theorem m_outL {rows : List T3} {ja : Int32} : ∀ (l : List T3) (i fuel : Nat) (M : Mem), l = rows.drop i → i ≤ rows.length → l.length < fuel → RoIs M rows → M 91 21 = nI rows.length → TH (M 108) (M 109) (M 110) (rows.take i) →
    ∃ M', f_Mo_free_l155 fuel ja (nI i) M = (bnd ((M' 95 0) - 1) fun x9 => f_Mo_free_l214 FU ja x9 M') ∧ OuIs M' rows ∧ Out (fun c k => c = 108 ∨ c = 109 ∨ c = 110) M M' := by
  intro l
  induction l with
  | nil =>
    intro i fuel M hl hi hf hR h21 hT
    have hf : 0 < fuel := hf
    obtain ⟨g, rfl⟩ : ∃ g, fuel = g + 1 := ⟨fuel - 1, by omega⟩
    have hi2 := dnil hl
    refine ⟨M, ?_, ⟨h21, hR.2.1, ?_⟩, Out.rfl⟩
    · show f_Mo_free_l155B (f_Mo_free_l155 g) ja (nI i) M = _
      unfold f_Mo_free_l155B
      rw [hR.1, show i = rows.length by omega, if_pos (Int32.le_refl _), cl0]
    · rw [List.take_of_length_le hi2] at hT
      exact hT
  | cons x l ih =>
    intro i fuel M hl hi hf hR h21 hT
    have hrl := hR.2.1
    have hf : l.length + 1 < fuel := hf
    obtain ⟨g, rfl⟩ : ∃ g, fuel = g + 1 := ⟨fuel - 1, by omega⟩
    obtain ⟨e1, e2, e3, e4, e5⟩ := hR.2.2.at hl
    have G : gin (nI i) 300 := gin_t (by omega) (by decide)
    have hci : (nI i).toNatClampNeg = i := nI_clamp (by omega)
    have hb : f_Mo_free_l155 (g + 1) ja (nI i) M = f_Mo_free_l155 g ja (nI (i + 1)) (mset (mset (mset M 108 i x.1) 109 i x.2.1) 110 i x.2.2) := by
      show f_Mo_free_l155B (f_Mo_free_l155 g) ja (nI i) M = _
      unfold f_Mo_free_l155B
      rw [hR.1, if_neg (fun q => by have := (nI_leI (by omega) (by omega)).mp q; omega), if_pos G, if_pos G]
      simp only [hci]
      rw [bn, if_pos G, if_pos G, bn, if_pos G, if_pos G, bn, nI_1, e1, ms_c _ _ (show 106 ≠ 108 by decide), e2, ms_c _ _ (show 107 ≠ 109 by decide), ms_c _ _ (show 107 ≠ 108 by decide), e3]
    have o0 : ∀ (M : Mem) (c k : Nat) (v : Int32), (c = 108 ∨ c = 109 ∨ c = 110) → Out (fun c k => c = 108 ∨ c = 109 ∨ c = 110) M (mset M c k v) := fun M c k v h => Out.set h
    have p5 : Out (fun c k => c = 108 ∨ c = 109 ∨ c = 110) M (mset (mset (mset M 108 i x.1) 109 i x.2.1) 110 i x.2.2) := (o0 _ _ _ _ (by omega)).trans ((o0 _ _ _ _ (by omega)).trans (o0 _ _ _ _ (by omega)))
    have hlt : (rows.take i).length = i := by rw [List.length_take]; omega
    have hx : rows.take (i + 1) = rows.take i ++ [x] := by
      rw [List.take_add_one, List.getElem?_eq_getElem e5]
      rw [List.drop_eq_getElem_cons e5] at hl
      injection hl with w1 w2
      rw [w1]; rfl
    obtain ⟨M', a1, a2, a3⟩ := ih (i + 1) g (mset (mset (mset M 108 i x.1) 109 i x.2.1) 110 i x.2.2) e4 (by omega) (by omega) (hR.out p5 (fun c k q => by unfold RoP; omega)) (by rw [p5 _ _ (by omega)]; exact h21) (by
      rw [hx]
      refine hT.snoc (fun j hj => ?_) (fun j hj => ?_) (fun j hj => ?_) ?_ ?_ ?_
      · rw [ms_c _ _ (by decide), ms_c _ _ (by decide), ms_k _ _ (by omega)]
      · rw [ms_c _ _ (by decide), ms_k _ _ (by omega), ms_c _ _ (by decide)]
      · rw [ms_k _ _ (by omega), ms_c _ _ (by decide), ms_c _ _ (by decide)]
      · rw [hlt, ms_c _ _ (by decide), ms_c _ _ (by decide), ms_s]
      · rw [hlt, ms_c _ _ (by decide), ms_s]
      · rw [hlt, ms_s])
    exact ⟨M', by rw [hb]; exact a1, a2, p5.trans a3⟩
/-- the pair and the value that an outer row asks with -/
def frp (ja : Option Nat) (P : List Nat) (i : Nat) : Int32 := if ja = none then -1 else nI (P.getD i 0)
def frv (ja : Option Nat) (ps : List (Int32 × Int32)) (P : List Nat) (i : Nat) : Int32 := if ja = none then -1 else fs2 ps (P.getD i 0)
def erD (an : Nat → Int32) : Nat → Int32 → Int32
  | 0, e => e
  | d + 1, e => erD an d (if an d = -2 then nI d else e)
theorem m_ansL {rows : List T3} {ps : List (Int32 × Int32)} {P : List Nat} {ja : Option Nat} {en : Int32} {an : Nat → Int32} {n : Nat} (hn : n ≤ 10) (hj : ∀ k, ja = some k → k < 2 ^ 31) (hP : ¬ ja = none → P.length = n ∧ ∀ p, p ∈ P → p < ps.length)
    (han : ∀ i, i < n → afin en (frv ja ps P i) (rows.foldl (af (frp ja P i) (frv ja ps P i)) af0) = some (an i)) : ∀ (d fuel : Nat) (M : Mem), d ≤ n → d < fuel → OuIs M rows → DoIs M ps → M 91 10 = en → (¬ ja = none → NH (M 116) P 0) → (∀ i, d ≤ i → i < n → M 101 (10 + i) = an i) →
    ∃ M', f_Mo_free_l214 fuel (jnI ja) (nI d + (-1)) M = (bnd ((M' 91 35) - 1) fun x10 => f_Mo_free_l306 FU x10 M') ∧ (∀ i, i < n → M' 101 (10 + i) = an i) ∧ M' 100 1 = erD an d (M 100 1) ∧ Out (fun c k => (c = 101 ∧ 10 ≤ k ∧ k < 20) ∨ (c = 100 ∧ k = 1)) M M' := by
  have hj1 : jnI ja = -1 ↔ ja = none := by
    cases ja with
    | none => exact ⟨fun _ => rfl, fun _ => rfl⟩
    | some k => exact ⟨fun h => absurd h (nI_nm1 (hj k rfl)), fun h => by cases h⟩
  intro d
  induction d with
  | zero =>
    intro fuel M hd hf hO hD hE hN hA
    obtain ⟨g, rfl⟩ : ∃ g, fuel = g + 1 := ⟨fuel - 1, by omega⟩
    refine ⟨M, ?_, fun i hi => hA i (Nat.zero_le _) hi, rfl, Out.rfl⟩
    show f_Mo_free_l214B (f_Mo_free_l214 g) (jnI ja) (nI 0 + (-1)) M = _
    unfold f_Mo_free_l214B
    rw [if_pos (by decide)]
  | succ d ih =>
    intro fuel M hd hf hO hD hE hN hA
    have hdd := hD.2.1
    obtain ⟨g, rfl⟩ : ∃ g, fuel = g + 1 := ⟨fuel - 1, by omega⟩
    have h10 : (10 : Int32) + nI d = nI (10 + d) := nI_add 10 d
    have G20 : gin ((10 : Int32) + nI d) 20 := by rw [h10]; exact gin_t (by omega) (by decide)
    have hc20 : ((10 : Int32) + nI d).toNatClampNeg = 10 + d := by rw [h10]; exact nI_clamp (by omega)
    have hb : f_Mo_free_l214 (g + 1) (jnI ja) (nI (d + 1) + (-1)) M = f_Mo_free_b259 (f_Mo_free_l214 g) (jnI ja) (nI d) (frv ja ps P d) (frp ja P d) (10 + nI d) M := by
      show f_Mo_free_l214B (f_Mo_free_l214 g) (jnI ja) (nI (d + 1) + (-1)) M = _
      unfold f_Mo_free_l214B f_Mo_free_b233 frv frp
      rw [nI_m1 (by omega), show d + 1 - 1 = d by omega, if_neg (fun q => by have := (nI_ltI (a := d) (b := 0) (by omega) (by decide)).mp q; omega)]
      by_cases c : ja = none
      · rw [if_pos (hj1.mpr c), if_pos rfl, if_pos c, if_pos c]
      · obtain ⟨p1, p2⟩ := hP c
        have hpd : P.getD d 0 < ps.length := by
          rw [List.getD_eq_getElem?_getD, List.getElem?_eq_getElem (by omega)]
          exact p2 _ (List.getElem_mem _)
        have hnh : M 116 d = nI (P.getD d 0) := by have := hN c d (by omega); rwa [Nat.zero_add] at this
        rw [if_neg (fun q => c (hj1.mp q)), if_pos (gin_t (by omega) (by decide)), nI_clamp (show d < 2 ^ 31 by omega), hnh, if_neg (nI_nm1 (by omega)), if_pos (gin_t (by omega) (by decide)), nI_clamp (by omega), (hD.2.2.fs hpd).2, if_neg c, if_neg c]
    rw [hb]
    unfold f_Mo_free_b259 f_Mo_free_b292
    rw [m_answer hO hE, han d (by omega), Option.bind_some, if_pos G20]
    simp only [hc20]
    rw [bn, if_pos G20, ms_s]
    have hgo : (if an d = -2 then (if gin 1 2 then bnd (mset (mset M 101 (10 + d) (an d)) 100 (1 : Int32).toNatClampNeg (nI d)) fun M24 => f_Mo_free_l214 g (jnI ja) (nI d + (-1)) M24 else none) else (if gin 1 2 then bnd (mset (mset M 101 (10 + d) (an d)) 100 (1 : Int32).toNatClampNeg ((mset M 101 (10 + d) (an d)) 100 (1 : Int32).toNatClampNeg)) fun M24 => f_Mo_free_l214 g (jnI ja) (nI d + (-1)) M24 else none)) = f_Mo_free_l214 g (jnI ja) (nI d + (-1)) (mset (mset M 101 (10 + d) (an d)) 100 1 (if an d = -2 then nI d else M 100 1)) := by
      have G1 : gin 1 2 := by decide
      by_cases c : an d = -2
      · rw [if_pos c, if_pos c, if_pos G1, bn, cl1]
      · rw [if_neg c, if_neg c, if_pos G1, bn, cl1, ms_c _ _ (show 100 ≠ 101 by decide)]
    rw [hgo]
    have o1 : Out (fun c k => (c = 101 ∧ k = 10 + d) ∨ (c = 100 ∧ k = 1)) M (mset (mset M 101 (10 + d) (an d)) 100 1 (if an d = -2 then nI d else M 100 1)) := (Out.set (Or.inl ⟨rfl, rfl⟩)).trans (Out.set (Or.inr ⟨rfl, rfl⟩))
    have v1 : (mset (mset M 101 (10 + d) (an d)) 100 1 (if an d = -2 then nI d else M 100 1)) 101 (10 + d) = an d := by rw [ms_c _ _ (by decide), ms_s]
    have v2 : (mset (mset M 101 (10 + d) (an d)) 100 1 (if an d = -2 then nI d else M 100 1)) 100 1 = (if an d = -2 then nI d else M 100 1) := ms_s _ _ _ _
    generalize mset (mset M 101 (10 + d) (an d)) 100 1 (if an d = -2 then nI d else M 100 1) = M1 at o1 v1 v2
    have e : ∀ c k, ¬ ((c = 101 ∧ k = 10 + d) ∨ (c = 100 ∧ k = 1)) → M1 c k = M c k := fun c k h => o1 c k h
    obtain ⟨M2, b1, b2, b3, b4⟩ := ih g M1 (by omega) (by omega) (hO.out o1 (fun c k q => by unfold OuP; omega)) ⟨by rw [e _ _ (by omega)]; exact hD.1, hD.2.1, hD.2.2.1.same (fun q _ => e _ _ (by omega)), hD.2.2.2.same (fun q _ => e _ _ (by omega))⟩ (by rw [e _ _ (by omega)]; exact hE) (fun c q hq => by rw [e _ _ (by omega)]; exact hN c q hq) (fun i h1 h2 => by
      by_cases c : i = d
      · rw [c]; exact v1
      · rw [e _ _ (by omega)]; exact hA i (by omega) h2)
    refine ⟨M2, b1, b2, ?_, (o1.mono (fun c k q => by omega)).trans b4⟩
    rw [b3, v2]
    rfl
