-- ===== a row going through, in the reference =====
abbrev GS : Type := List T3 × HD × Int32 × Int32
def GRel (M : Mem) (s : GS) : Prop := OuIs M s.1 ∧ HRel M s.2.1 ∧ M 91 28 = s.2.2.1 ∧ M 91 30 = s.2.2.2
def GoP (c k : Nat) : Prop := OuP c k ∨ HdP c k ∨ (c = 91 ∧ (k = 28 ∨ k = 30))
def StM (M : Mem) (L : List (Int32 × Int32)) (sk : Int32) : Prop := L.length ≤ 12 ∧ M 91 6 = nI L.length ∧ SH (M 98) (M 99) L ∧ M 91 11 = sk
theorem StM.out {M M' : Mem} {L : List (Int32 × Int32)} {sk : Int32} {P : Nat → Nat → Prop} (h : StM M L sk) (o : Out P M M') (hp : ∀ c k, P c k → ¬ ((c = 91 ∧ (k = 6 ∨ k = 11)) ∨ c = 98 ∨ c = 99)) : StM M' L sk :=
  ⟨h.1, by rw [o _ _ (fun q => hp _ _ q (by omega))]; exact h.2.1, ⟨h.2.2.1.1.same (fun j _ => o _ _ (fun q => hp _ _ q (by omega))), h.2.2.1.2.same (fun j _ => o _ _ (fun q => hp _ _ q (by omega)))⟩, by rw [o _ _ (fun q => hp _ _ q (by omega))]; exact h.2.2.2⟩
def gs (kd fg : Nat → Int32) (sk hk wd k : Int32) : Nat → Nat → Int32 → GS → GS
  | 0, _, v, s => (s.1 ++ [(k, v, -1)], s.2.1, s.2.2.1, if nI (s.1.length + 1) = wd then 1 else 0)
  | d + 1, j, v, s =>
    if nI j = sk then gs kd fg sk hk wd k d (j + 1) v s
    else if f_Mo_stays (kd j) (fg j) k v hk = -2 then s
    else if kd j = 5 then
      (if (k, f_Mo_stays (kd j) (fg j) k v hk) ∈ s.2.1 j then s
       else gs kd fg sk hk wd k d (j + 1) (f_Mo_stays (kd j) (fg j) k v hk) (s.1, upH s.2.1 j (s.2.1 j ++ [(k, f_Mo_stays (kd j) (fg j) k v hk)]), s.2.2.1 + 1, s.2.2.2))
    else gs kd fg sk hk wd k d (j + 1) (f_Mo_stays (kd j) (fg j) k v hk) (s.1, s.2.1, s.2.2.1 + 1, s.2.2.2)
theorem gs_b {kd fg : Nat → Int32} {sk hk wd k : Int32} : ∀ (d j : Nat) (v : Int32) (s : GS), (gs kd fg sk hk wd k d j v s).1.length ≤ s.1.length + 1 ∧ (∀ i, ((gs kd fg sk hk wd k d j v s).2.1 i).length ≤ (s.2.1 i).length + 1) ∧ (∀ i, i < j ∨ j + d ≤ i → (gs kd fg sk hk wd k d j v s).2.1 i = s.2.1 i) := by
  intro d
  induction d with
  | zero =>
    intro j v s
    exact ⟨by show (s.1 ++ [_]).length ≤ _; rw [List.length_append]; exact Nat.le_refl _, fun i => Nat.le_succ _, fun i _ => rfl⟩
  | succ d ih =>
    intro j v s
    have base : s.1.length ≤ s.1.length + 1 ∧ (∀ i, (s.2.1 i).length ≤ (s.2.1 i).length + 1) ∧ (∀ i, i < j ∨ j + (d + 1) ≤ i → s.2.1 i = s.2.1 i) := ⟨Nat.le_succ _, fun i => Nat.le_succ _, fun i _ => rfl⟩
    unfold gs
    split
    · obtain ⟨a, b, c⟩ := ih (j + 1) v s
      exact ⟨a, b, fun i hi => c i (by omega)⟩
    · split
      · exact base
      · split
        · split
          · exact base
          · obtain ⟨a, b, c⟩ := ih (j + 1) (f_Mo_stays (kd j) (fg j) k v hk) (s.1, upH s.2.1 j (s.2.1 j ++ [(k, f_Mo_stays (kd j) (fg j) k v hk)]), s.2.2.1 + 1, s.2.2.2)
            refine ⟨a, fun i => ?_, fun i hi => ?_⟩
            · by_cases e : i = j
              · rw [e, c j (by omega)]
                show (upH s.2.1 j _ j).length ≤ _
                rw [upH_s, List.length_append]
                exact Nat.le_refl _
              · have := b i
                have h2 : (upH s.2.1 j (s.2.1 j ++ [(k, f_Mo_stays (kd j) (fg j) k v hk)])) i = s.2.1 i := upH_n _ _ e
                rw [show (s.1, upH s.2.1 j (s.2.1 j ++ [(k, f_Mo_stays (kd j) (fg j) k v hk)]), s.2.2.1 + 1, s.2.2.2).2.1 i = s.2.1 i from h2] at this
                exact this
            · rw [c i (by omega)]
              exact upH_n _ _ (by omega)
        · obtain ⟨a, b, c⟩ := ih (j + 1) (f_Mo_stays (kd j) (fg j) k v hk) (s.1, s.2.1, s.2.2.1 + 1, s.2.2.2)
          exact ⟨a, b, fun i hi => c i (by omega)⟩
theorem m_goes {L : List (Int32 × Int32)} {sk hk wd k : Int32} {r to : Nat} (hr : r < 20) (hto : to ≤ L.length) : ∀ (d j fuel : Nat) (M : Mem) (v : Int32) (s : GS), d + j = to → d < fuel → StM M L sk → M 96 r = hk → GRel M s → s.1.length < 300 → (∀ i, j ≤ i → i < to → (s.2.1 i).length < 40) →
    ∃ M', f_Mo_goes_l7 fuel (nI to) k (nI r) wd v (nI j) M = some M' ∧ GRel M' (gs (fs1 L) (fs2 L) sk hk wd k d j v s) ∧ Out GoP M M' := by
  intro d
  have Gr : gin (nI r) 20 := gin_t hr (by decide)
  have hcr : (nI r).toNatClampNeg = r := nI_clamp (by omega)
  induction d with
  | zero =>
    intro j fuel M v s hd hf hS hK hs hl hb
    have hL := hS.1
    obtain ⟨g, rfl⟩ : ∃ g, fuel = g + 1 := ⟨fuel - 1, by omega⟩
    show ∃ M', f_Mo_goes_l7B (f_Mo_goes_l7 g) (nI to) k (nI r) wd v (nI j) M = _ ∧ _
    unfold f_Mo_goes_l7B f_Mo_goes_b121 gs
    rw [if_pos ((nI_leI (by omega) (by omega)).mpr (by omega))]
    obtain ⟨M1, a1, a2, a3⟩ := m_puts (a := k) (b := v) (c := -1) hs.1 hl
    have hlen : (s.1 ++ [(k, v, (-1 : Int32))]).length = s.1.length + 1 := by rw [List.length_append]; rfl
    rw [a1, Option.bind_some, a2.1, hlen]
    have hH1 := hs.2.1.out a3 (fun c k q => by unfold OuP at q; unfold HdP; omega)
    have x28 : M1 91 28 = s.2.2.1 := by rw [a3 _ _ (by unfold OuP; omega)]; exact hs.2.2.1
    have fin : ∀ (w : Int32), (w = 0 ∨ w = 1) → ∃ M', (if w = 0 ∨ w = 1 then bnd (mset M1 91 30 w) fun M2 => some M2 else none) = some M' ∧ GRel M' (s.1 ++ [(k, v, -1)], s.2.1, s.2.2.1, w) ∧ Out GoP M M' := fun w hw => by
      have o1 : Out (fun c k => c = 91 ∧ k = 30) M1 (mset M1 91 30 w) := Out.set ⟨rfl, rfl⟩
      refine ⟨mset M1 91 30 w, by rw [if_pos hw, bn], ⟨a2.out o1 (fun c k q => by unfold OuP; omega), hH1.out o1 (fun c k q => by unfold HdP; omega), ?_, ?_⟩, (a3.mono (fun c k q => Or.inl q)).trans (o1.mono (fun c k q => Or.inr (Or.inr ⟨q.1, Or.inr q.2⟩)))⟩
      · rw [ms_k _ _ (by decide)]; exact x28
      · rw [ms_s]
    by_cases e : nI (s.1.length + 1) = wd
    · rw [if_pos e, if_pos e]
      exact fin 1 (Or.inr rfl)
    · rw [if_neg e, if_neg e]
      exact fin 0 (Or.inl rfl)
  | succ d ih =>
    intro j fuel M v s hd hf hS hK hs hl hb
    have hL := hS.1
    obtain ⟨g, rfl⟩ : ∃ g, fuel = g + 1 := ⟨fuel - 1, by omega⟩
    have Gj : gin (nI j) 12 := gin_t (by omega) (by decide)
    have hcj : (nI j).toNatClampNeg = j := nI_clamp (by omega)
    obtain ⟨e1, e2⟩ := hS.2.2.1.fs (j := j) (by omega)
    have nG : ∀ c k, GoP c k → ¬ ((c = 91 ∧ (k = 6 ∨ k = 11)) ∨ c = 98 ∨ c = 99) := fun c k q => by unfold GoP OuP HdP at q; omega
    have n96 : ∀ k, ¬ GoP 96 k := fun k q => by unfold GoP OuP HdP at q; omega
    show ∃ M', f_Mo_goes_l7B (f_Mo_goes_l7 g) (nI to) k (nI r) wd v (nI j) M = _ ∧ _
    unfold f_Mo_goes_l7B f_Mo_goes_b82 f_Mo_goes_b92 gs
    rw [if_neg (fun q => by have := (nI_leI (by omega) (by omega)).mp q; omega), hS.2.2.2]
    by_cases c1 : nI j = sk
    · rw [if_pos c1, if_pos c1, nI_1]
      exact ih (j + 1) g M v s (by omega) (by omega) hS hK hs hl (fun i h1 h2 => hb i (by omega) h2)
    · rw [if_neg c1, if_neg c1, if_pos Gj, if_pos Gj, if_pos Gr]
      simp only [hcj, hcr]
      rw [bn, e1, e2, hK]
      by_cases c2 : f_Mo_stays (fs1 L j) (fs2 L j) k v hk = -2
      · rw [if_pos c2, if_pos c2]
        exact ⟨M, rfl, hs, Out.rfl⟩
      · rw [if_neg c2, if_neg c2, if_pos Gj]
        by_cases c3 : fs1 L j = 5
        · rw [if_pos c3, if_pos c3]
          obtain ⟨M1, a1, a2, a3⟩ := m_isNew (x := (k, f_Mo_stays (fs1 L j) (fs2 L j) k v hk)) (by omega) (hb j (Nat.le_refl _) (by omega)) hs.2.1
          have a1 : f_Mo_isNew M (nI j) k (f_Mo_stays (fs1 L j) (fs2 L j) k v hk) = some (if (k, f_Mo_stays (fs1 L j) (fs2 L j) k v hk) ∈ s.2.1 j then 0 else 1, M1) := a1
          rw [a1, Option.bind_some]
          have o1 : Out GoP M M1 := a3.mono (fun c k q => Or.inr (Or.inl q))
          have hO1 := hs.1.out a3 (fun c k q => by unfold HdP at q; unfold OuP; omega)
          have x28 : M1 91 28 = s.2.2.1 := by rw [a3 _ _ (by unfold HdP; omega)]; exact hs.2.2.1
          have x30 : M1 91 30 = s.2.2.2 := by rw [a3 _ _ (by unfold HdP; omega)]; exact hs.2.2.2
          by_cases c4 : (k, f_Mo_stays (fs1 L j) (fs2 L j) k v hk) ∈ s.2.1 j
          · rw [if_pos c4] at a2
            simp only [if_pos c4]
            exact ⟨M1, rfl, ⟨hO1, a2, x28, x30⟩, o1⟩
          · rw [if_neg c4] at a2
            simp only [if_neg c4]
            rw [if_neg (show ¬ (1 : Int32) = 0 by decide), bn, x28, nI_1]
            have o2 : Out (fun c k => c = 91 ∧ k = 28) M1 (mset M1 91 28 (s.2.2.1 + 1)) := Out.set ⟨rfl, rfl⟩
            have o3 : Out GoP M (mset M1 91 28 (s.2.2.1 + 1)) := o1.trans (o2.mono (fun c k q => Or.inr (Or.inr ⟨q.1, Or.inl q.2⟩)))
            obtain ⟨M2, b1, b2, b3⟩ := ih (j + 1) g (mset M1 91 28 (s.2.2.1 + 1)) (f_Mo_stays (fs1 L j) (fs2 L j) k v hk) (s.1, upH s.2.1 j (s.2.1 j ++ [(k, f_Mo_stays (fs1 L j) (fs2 L j) k v hk)]), s.2.2.1 + 1, s.2.2.2) (by omega) (by omega) (hS.out o3 nG) (by rw [o3 _ _ (n96 _)]; exact hK) ⟨hO1.out o2 (fun c k q => by unfold OuP; omega), a2.out o2 (fun c k q => by unfold HdP; omega), ms_s _ _ _ _, by rw [ms_k _ _ (by decide)]; exact x30⟩ hl (fun i h1 h2 => by
              show ((upH s.2.1 j _) i).length < 40
              rw [upH_n _ _ (by omega)]
              exact hb i (by omega) h2)
            exact ⟨M2, b1, b2, o3.trans b3⟩
        · rw [if_neg c3, if_neg c3, bn, hs.2.2.1, nI_1]
          have o2 : Out (fun c k => c = 91 ∧ k = 28) M (mset M 91 28 (s.2.2.1 + 1)) := Out.set ⟨rfl, rfl⟩
          have o3 : Out GoP M (mset M 91 28 (s.2.2.1 + 1)) := o2.mono (fun c k q => Or.inr (Or.inr ⟨q.1, Or.inl q.2⟩))
          obtain ⟨M2, b1, b2, b3⟩ := ih (j + 1) g (mset M 91 28 (s.2.2.1 + 1)) (f_Mo_stays (fs1 L j) (fs2 L j) k v hk) (s.1, s.2.1, s.2.2.1 + 1, s.2.2.2) (by omega) (by omega) (hS.out o3 nG) (by rw [o3 _ _ (n96 _)]; exact hK) ⟨hs.1.out o2 (fun c k q => by unfold OuP; omega), hs.2.1.out o2 (fun c k q => by unfold HdP; omega), ms_s _ _ _ _, by rw [ms_k _ _ (by decide)]; exact hs.2.2.2⟩ hl (fun i h1 h2 => hb i (by omega) h2)
          exact ⟨M2, b1, b2, o3.trans b3⟩
-- the rows of a stretch of steps, and the rows united in it
def hd1 (s : GS) : GS := (s.1, s.2.1, s.2.2.1 + 1, s.2.2.2)
def gu (kd fg : Nat → Int32) (sk hk hv wd : Int32) : Nat → Nat → GS → GS
  | 0, _, s => s
  | d + 1, j, s =>
    if s.2.2.2 = 0 then
      (if kd j = 4 then (if nI j = sk then gu kd fg sk hk hv wd d (j + 1) s else gu kd fg sk hk hv wd d (j + 1) (gs kd fg sk hk wd hk d (j + 1) hv (hd1 s)))
       else gu kd fg sk hk hv wd d (j + 1) s)
    else s
def gr (kd fg : Nat → Int32) (sk hk wd : Int32) (fr d : Nat) : List T3 → Int32 → GS → Int32 × GS
  | [], rd, s => (rd, s)
  | x :: l, rd, s => if s.2.2.2 = 0 then gr kd fg sk hk wd fr d l (rd + if fr = 0 then 1 else 0) (gs kd fg sk hk wd x.1 d fr x.2.1 (hd1 s)) else (rd, s)
theorem m_union {L : List (Int32 × Int32)} {sk hk hv wd : Int32} {r to fr : Nat} (hr : r < 20) (hto : to ≤ L.length) : ∀ (d j fuel : Nat) (M : Mem) (s : GS) (b : Nat), d + j = to → d < fuel → fr ≤ j → StM M L sk → M 96 r = hk → M 97 r = hv → GRel M s → s.1.length ≤ b → (∀ i, fr ≤ i → i < to → (s.2.1 i).length ≤ b) → b + d ≤ 40 →
    ∃ M', f_Mo_goThrough_l84 fuel (nI to) (nI r) wd (nI j) M = some M' ∧ GRel M' (gu (fs1 L) (fs2 L) sk hk hv wd d j s) ∧ (gu (fs1 L) (fs2 L) sk hk hv wd d j s).1.length ≤ b + d ∧ (∀ i, i < fr ∨ to ≤ i → (gu (fs1 L) (fs2 L) sk hk hv wd d j s).2.1 i = s.2.1 i) ∧ Out GoP M M' := by
  intro d
  have Gr : gin (nI r) 20 := gin_t hr (by decide)
  have hcr : (nI r).toNatClampNeg = r := nI_clamp (by omega)
  have nG : ∀ c k, GoP c k → ¬ ((c = 91 ∧ (k = 6 ∨ k = 11)) ∨ c = 98 ∨ c = 99) := fun c k q => by unfold GoP OuP HdP at q; omega
  have n96 : ∀ k, ¬ GoP 96 k := fun k q => by unfold GoP OuP HdP at q; omega
  have n97 : ∀ k, ¬ GoP 97 k := fun k q => by unfold GoP OuP HdP at q; omega
  induction d with
  | zero =>
    intro j fuel M s b hd hf hfj hS hK hV hs hl hb hbd
    have hL := hS.1
    obtain ⟨g, rfl⟩ : ∃ g, fuel = g + 1 := ⟨fuel - 1, by omega⟩
    refine ⟨M, ?_, hs, hl, fun i _ => rfl, Out.rfl⟩
    show f_Mo_goThrough_l84B (f_Mo_goThrough_l84 g) (nI to) (nI r) wd (nI j) M = _
    unfold f_Mo_goThrough_l84B
    rw [if_pos ((nI_leI (by omega) (by omega)).mpr (by omega))]
  | succ d ih =>
    intro j fuel M s b hd hf hfj hS hK hV hs hl hb hbd
    have hL := hS.1
    obtain ⟨g, rfl⟩ : ∃ g, fuel = g + 1 := ⟨fuel - 1, by omega⟩
    have Gj : gin (nI j) 12 := gin_t (by omega) (by decide)
    have hcj : (nI j).toNatClampNeg = j := nI_clamp (by omega)
    obtain ⟨e1, e2⟩ := hS.2.2.1.fs (j := j) (by omega)
    show ∃ M', f_Mo_goThrough_l84B (f_Mo_goThrough_l84 g) (nI to) (nI r) wd (nI j) M = _ ∧ _
    unfold f_Mo_goThrough_l84B f_Mo_goThrough_b151 gu
    rw [if_neg (fun q => by have := (nI_leI (by omega) (by omega)).mp q; omega), hs.2.2.2]
    by_cases c0 : s.2.2.2 = 0
    · rw [if_pos c0, if_pos c0, if_pos Gj]
      simp only [hcj]
      rw [e1, hS.2.2.2]
      have next : ∀ (M : Mem) (s' : GS) (b' : Nat), StM M L sk → M 96 r = hk → M 97 r = hv → GRel M s' → s'.1.length ≤ b' → (∀ i, fr ≤ i → i < to → (s'.2.1 i).length ≤ b') → b' ≤ b + 1 → (∀ i, i < fr ∨ to ≤ i → s'.2.1 i = s.2.1 i) → ∃ M', f_Mo_goThrough_l84 g (nI to) (nI r) wd (nI (j + 1)) M = some M' ∧ GRel M' (gu (fs1 L) (fs2 L) sk hk hv wd d (j + 1) s') ∧ (gu (fs1 L) (fs2 L) sk hk hv wd d (j + 1) s').1.length ≤ b + (d + 1) ∧ (∀ i, i < fr ∨ to ≤ i → (gu (fs1 L) (fs2 L) sk hk hv wd d (j + 1) s').2.1 i = s.2.1 i) ∧ Out GoP M M' := fun M s' b' h1 h2 h3 h4 h5 h6 h7 h8 => by
        obtain ⟨M', a1, a2, a3, a4, a5⟩ := ih (j + 1) g M s' b' (by omega) (by omega) (by omega) h1 h2 h3 h4 h5 h6 (by omega)
        exact ⟨M', a1, a2, by omega, fun i hi => (a4 i hi).trans (h8 i hi), a5⟩
      by_cases c4 : fs1 L j = 4
      · rw [if_pos c4, if_pos c4]
        by_cases c1 : nI j = sk
        · rw [if_pos c1, if_pos c1, nI_1]
          exact next M s b hS hK hV hs hl hb (by omega) (fun i _ => rfl)
        · rw [if_neg c1, if_neg c1, bn, if_pos Gr, if_pos Gr, nI_1, hs.2.2.1]
          simp only [hcr]
          have o2 : Out (fun c k => c = 91 ∧ k = 28) M (mset M 91 28 (s.2.2.1 + 1)) := Out.set ⟨rfl, rfl⟩
          have o3 : Out GoP M (mset M 91 28 (s.2.2.1 + 1)) := o2.mono (fun c k q => Or.inr (Or.inr ⟨q.1, Or.inl q.2⟩))
          have hs2 : GRel (mset M 91 28 (s.2.2.1 + 1)) (hd1 s) := ⟨hs.1.out o2 (fun c k q => by unfold OuP; omega), hs.2.1.out o2 (fun c k q => by unfold HdP; omega), ms_s _ _ _ _, by rw [ms_k _ _ (by decide)]; exact hs.2.2.2⟩
          generalize mset M 91 28 (s.2.2.1 + 1) = M1 at o2 o3 hs2
          have x96 : M1 96 r = hk := by rw [o3 _ _ (n96 _)]; exact hK
          have x97 : M1 97 r = hv := by rw [o3 _ _ (n97 _)]; exact hV
          rw [x96, x97]
          unfold f_Mo_goes
          obtain ⟨M2, b1, b2, b3⟩ := m_goes (sk := sk) (hk := hk) (wd := wd) (k := hk) hr hto d (j + 1) FU M1 hv (hd1 s) (by omega) (Nat.lt_trans (by omega) fu_lt) (hS.out o3 nG) x96 hs2 (by show s.1.length < 300; omega) (fun i h1 h2 => by have := hb i (by omega) h2; show (s.2.1 i).length < 40; omega)
          rw [b1, Option.bind_some]
          have o4 := o3.trans b3
          obtain ⟨p1, p2, p3⟩ := gs_b (kd := fs1 L) (fg := fs2 L) (sk := sk) (hk := hk) (wd := wd) (k := hk) d (j + 1) hv (hd1 s)
          obtain ⟨M3, d1, d2, d3, d4, d5⟩ := next M2 _ (b + 1) (hS.out o4 nG) (by rw [o4 _ _ (n96 _)]; exact hK) (by rw [o4 _ _ (n97 _)]; exact hV) b2 (by have : (hd1 s).1.length = s.1.length := rfl; omega) (fun i h1 h2 => by have := p2 i; have h3 : ((hd1 s).2.1 i).length = (s.2.1 i).length := rfl; have := hb i h1 h2; omega) (by omega) (fun i hi => p3 i (by omega))
          exact ⟨M3, d1, d2, d3, d4, o4.trans d5⟩
      · rw [if_neg c4, if_neg c4, nI_1]
        exact next M s b hS hK hV hs hl hb (by omega) (fun i _ => rfl)
    · rw [if_neg c0, if_neg c0]
      exact ⟨M, rfl, hs, by omega, fun i _ => rfl, Out.rfl⟩
