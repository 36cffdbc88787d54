-- ===== the reference, row by row =====
theorem m_opensL {w : Nat} (hw : w < 2) {f : Nat → Int32} {n : Nat} (I : Mem → Prop) (k : Mem → Option Mem) (g : Nat → Int32 → Mem → Option Mem)
    (keep : ∀ M M', I M → Out (OpP w) M M' → I M')
    (step : ∀ fuel j M, j < n → I M → g (fuel + 1) (nI j) M = (f_Mo_opens M (nI w) (f j)).bind fun q => g fuel (nI (j + 1)) q)
    (last : ∀ fuel M, I M → g (fuel + 1) (nI n) M = k M) : ∀ (d j fuel : Nat) (M : Mem) (lg : List Int32), d + j = n → d < fuel → I M → LgIs M w lg →
    ∃ M', g fuel (nI j) M = k M' ∧ LgIs M' w (tells lg (cds f d j)) ∧ M' 102 (5 * w + 2) = M 102 (5 * w + 2) + nI d ∧ Out (OpP w) M M' := by
  intro d
  induction d with
  | zero =>
    intro j fuel M lg hd hf hM hl
    obtain ⟨e, rfl⟩ : ∃ e, fuel = e + 1 := ⟨fuel - 1, by omega⟩
    refine ⟨M, by rw [show j = n by omega]; exact last e M hM, hl, ?_, Out.rfl⟩
    rw [show nI 0 = 0 from rfl, Int32.add_zero]
  | succ d ih =>
    intro j fuel M lg hd hf hM hl
    obtain ⟨e, rfl⟩ : ∃ e, fuel = e + 1 := ⟨fuel - 1, by omega⟩
    obtain ⟨M1, a1, a2, a3, a4⟩ := m_opens (x := f j) hw hl
    obtain ⟨M2, b1, b2, b3, b4⟩ := ih (j + 1) e M1 _ (by omega) (by omega) (keep _ _ hM a4) a2
    refine ⟨M2, ?_, b2, ?_, a4.trans b4⟩
    · rw [step e j M (by omega) hM, a1, Option.bind_some]
      exact b1
    · rw [b3, a3, Int32.add_assoc, show (1 : Int32) = nI 1 from rfl, nI_add, Nat.add_comm 1 d]
theorem m_shutsL {w : Nat} (hw : w < 2) {f : Nat → Int32} {n : Nat} (I : Mem → Prop) (k : Mem → Option Mem) (g : Nat → Int32 → Mem → Option Mem)
    (keep : ∀ M M', I M → Out (LgP w) M M' → I M')
    (step : ∀ fuel j M, j < n → I M → g (fuel + 1) (nI j) M = (f_Mo_logs M (nI w) (10 + f j)).bind fun q => g fuel (nI j + (-1)) q)
    (last : ∀ fuel M, I M → g (fuel + 1) (nI 0 + (-1)) M = k M) : ∀ (d fuel : Nat) (M : Mem) (lg : List Int32), d ≤ n → d < fuel → I M → LgIs M w lg →
    ∃ M', g fuel (nI d + (-1)) M = k M' ∧ LgIs M' w (tells lg (cdx f d)) ∧ Out (LgP w) M M' := by
  intro d
  induction d with
  | zero =>
    intro fuel M lg hd hf hM hl
    obtain ⟨e, rfl⟩ : ∃ e, fuel = e + 1 := ⟨fuel - 1, by omega⟩
    exact ⟨M, last e M hM, hl, Out.rfl⟩
  | succ d ih =>
    intro fuel M lg hd hf hM hl
    obtain ⟨e, rfl⟩ : ∃ e, fuel = e + 1 := ⟨fuel - 1, by omega⟩
    obtain ⟨M1, a1, a2, a4⟩ := m_logs (x := 10 + f d) hw hl
    obtain ⟨M2, b1, b2, b4⟩ := ih e M1 _ (by omega) (by omega) (keep _ _ hM a4) a2
    refine ⟨M2, ?_, b2, a4.trans b4⟩
    rw [nI_m1 (by omega), show d + 1 - 1 = d by omega, step e d M (by omega) hM, a1, Option.bind_some]
    exact b1
/-- what the reference has read of the tables -/
def TbM (M : Mem) (lo li : List (Int32 × Int32)) : Prop := lo.length ≤ 10 ∧ li.length ≤ 10 ∧ M 95 0 = nI lo.length ∧ M 95 1 = nI li.length ∧ SH (M 96) (M 97) lo ∧ SH (fun j => M 96 (10 + j)) (fun j => M 97 (10 + j)) li
theorem TbM.out {M M' : Mem} {lo li : List (Int32 × Int32)} {P : Nat → Nat → Prop} (h : TbM M lo li) (o : Out P M M') (hp : ∀ c k, P c k → ¬ (c = 95 ∨ c = 96 ∨ c = 97)) : TbM M' lo li :=
  ⟨h.1, h.2.1, by rw [o _ _ (fun q => hp _ _ q (by omega))]; exact h.2.2.1, by rw [o _ _ (fun q => hp _ _ q (by omega))]; exact h.2.2.2.1, ⟨h.2.2.2.2.1.1.same (fun j _ => o _ _ (fun q => hp _ _ q (by omega))), h.2.2.2.2.1.2.same (fun j _ => o _ _ (fun q => hp _ _ q (by omega)))⟩, ⟨h.2.2.2.2.2.1.same (fun j _ => o _ _ (fun q => hp _ _ q (by omega))), h.2.2.2.2.2.2.same (fun j _ => o _ _ (fun q => hp _ _ q (by omega)))⟩⟩
/-- the reference while it asks row by row: row in error, read, handed on, answers, log, opened, most open -/
abbrev MS : Type := Int32 × Int32 × Int32 × List Int32 × List Int32 × Int32 × Int32
def MRel (M : Mem) (s : MS) : Prop := M 100 0 = s.1 ∧ M 91 29 = s.2.1 ∧ M 91 28 = s.2.2.1 ∧ AH (M 101) s.2.2.2.1 ∧ LgIs M 0 s.2.2.2.2.1 ∧ M 102 2 = s.2.2.2.2.2.1 ∧ M 102 3 = s.2.2.2.2.2.2
def ms0 : MS := (-1, 0, 0, [], [], 0, 0)
def mr1 (L li : List (Int32 × Int32)) (sk en : Int32) (x : Int32 × Int32) (s : MS) : Option MS :=
  (afin en x.2 ((ask1 L li sk en x s.2.1 s.2.2.1).2.1.foldl (af (-1) x.2) af0)).bind fun q =>
    some (if q = -2 then nI s.2.2.2.1.length else -1, (ask1 L li sk en x s.2.1 s.2.2.1).1, (ask1 L li sk en x s.2.1 s.2.2.1).2.2.2.1, s.2.2.2.1 ++ [q], tellF (tells (tells (tellF s.2.2.2.2.1 0) (cds (fs1 L) L.length 0)) (cdx (fs1 L) L.length)) 10, s.2.2.2.2.2.1 + 1 + nI L.length, nI L.length + 1)
def mrA (L li : List (Int32 × Int32)) (sk en : Int32) : List (Int32 × Int32) → MS → Option MS
  | [], s => some s
  | x :: l, s => if s.1 = -1 then (mr1 L li sk en x s).bind (mrA L li sk en l) else some s
def RbP (c k : Nat) : Prop := AsP c k ∨ OpP 0 c k ∨ (c = 100 ∧ k = 0) ∨ (c = 101 ∧ k < 10) ∨ (c = 102 ∧ k = 3)
theorem m_rbA {L lo li : List (Int32 × Int32)} {sk en : Int32} : ∀ (l : List (Int32 × Int32)) (i fuel : Nat) (M : Mem) (s s' : MS), l = lo.drop i → i ≤ lo.length → l.length < fuel → s.2.2.2.1.length = i → StM M L sk → M 91 10 = en → TbM M lo li → MRel M s → mrA L li sk en l s = some s' →
    ∃ M', f_Mo_rowByRow_l7 fuel (nI i) M = f_Mo_rowByRow_b160 M' ∧ MRel M' s' ∧ Out RbP M M' := by
  intro l
  induction l with
  | nil =>
    intro i fuel M s s' hl hi hf hlen hS hE hT hs hx
    have hf : 0 < fuel := hf
    obtain ⟨g, rfl⟩ : ∃ g, fuel = g + 1 := ⟨fuel - 1, by omega⟩
    have hi2 := dnil hl
    have hx : some s = some s' := hx
    injection hx with hx
    subst hx
    refine ⟨M, ?_, hs, Out.rfl⟩
    show f_Mo_rowByRow_l7B (f_Mo_rowByRow_l7 g) (nI i) M = _
    unfold f_Mo_rowByRow_l7B
    rw [cl0, hT.2.2.1, show i = lo.length by omega, if_pos (Int32.le_refl _)]
  | cons x l ih =>
    intro i fuel M s s' hl hi hf hlen hS hE hT hs hx
    have hlo := hT.1
    have hL := hS.1
    have hf : l.length + 1 < fuel := hf
    obtain ⟨g, rfl⟩ : ∃ g, fuel = g + 1 := ⟨fuel - 1, by omega⟩
    obtain ⟨e1, e2, e3, e4⟩ := hT.2.2.2.2.1.at hl
    have Gi : gin (nI i) 20 := gin_t (by omega) (by decide)
    have hci : (nI i).toNatClampNeg = i := nI_clamp (by omega)
    show ∃ M', f_Mo_rowByRow_l7B (f_Mo_rowByRow_l7 g) (nI i) M = _ ∧ _
    unfold f_Mo_rowByRow_l7B
    rw [cl0, hT.2.2.1, if_neg (fun q => by have := (nI_leI (by omega) (by omega)).mp q; omega), hs.1]
    unfold mrA at hx
    by_cases c0 : s.1 = -1
    · rw [if_pos c0] at hx ⊢
      cases hr : mr1 L li sk en x s with
      | none => rw [hr] at hx; cases hx
      | some s1 =>
        rw [hr, Option.bind_some] at hx
        unfold mr1 at hr
        cases hq : afin en x.2 ((ask1 L li sk en x s.2.1 s.2.2.1).2.1.foldl (af (-1) x.2) af0) with
        | none => rw [hq] at hr; cases hr
        | some q =>
          rw [hq, Option.bind_some] at hr
          injection hr with hr
          obtain ⟨M1, a1, a2, a3, a4⟩ := m_opens (w := 0) (x := 0) (by decide) hs.2.2.2.2.1
          have a1 : f_Mo_opens M 0 0 = some M1 := a1
          rw [a1, Option.bind_some]
          have nO : ∀ c k, OpP 0 c k → (c = 102 ∨ c = 103 ∨ c = 104) := fun c k q => by unfold OpP LgP at q; omega
          -- the steps opened
          obtain ⟨M2, b1, b2, b3, b4⟩ := m_opensL (w := 0) (by decide) (f := fs1 L) (n := L.length) (fun M => StM M L sk)
            (fun M => (f_Mo_asksFor M (nI i)).bind fun q5 => (f_Mo_answerOf q5 (-1) (q5 97 i)).bind fun q7 => bnd (mset q5 101 i q7) fun M9 => if (M9 101 i) = (-2) then f_Mo_rowByRow_b103 (f_Mo_rowByRow_l7 g) (nI i) (nI i) 0 M9 else f_Mo_rowByRow_b103 (f_Mo_rowByRow_l7 g) (nI i) (-1) 0 M9)
            (fun fuel j M => f_Mo_rowByRow_l35 (f_Mo_rowByRow_l7 g) fuel (nI i) j M)
            (fun M M' h o => h.out o (fun c k q => by have := nO c k q; omega))
            (fun fuel j M hj hM => by
              show f_Mo_rowByRow_l35B (f_Mo_rowByRow_l7 g) (f_Mo_rowByRow_l35 (f_Mo_rowByRow_l7 g) fuel) (nI i) (nI j) M = _
              unfold f_Mo_rowByRow_l35B
              rw [hM.2.1, if_neg (fun q => by have := (nI_leI (by omega) (by omega)).mp q; omega), if_pos (gin_t (by omega) (by decide)), nI_clamp (by omega), (hM.2.2.1.fs hj).1, nI_1]
              rfl)
            (fun fuel M hM => by
              show f_Mo_rowByRow_l35B (f_Mo_rowByRow_l7 g) (f_Mo_rowByRow_l35 (f_Mo_rowByRow_l7 g) fuel) (nI i) (nI L.length) M = _
              unfold f_Mo_rowByRow_l35B
              rw [hM.2.1, if_pos (Int32.le_refl _)]
              simp only [if_pos Gi, hci])
            L.length 0 FU M1 _ (by omega) (Nat.lt_trans (by omega) fu_lt) (hS.out a4 (fun c k q => by have := nO c k q; omega)) a2
          have b1 : f_Mo_rowByRow_l35 (f_Mo_rowByRow_l7 g) FU (nI i) 0 M1 = _ := b1
          rw [b1]
          have o2 := a4.trans b4
          have hS2 := hS.out o2 (fun c k q => by have := nO c k q; omega)
          have hT2 := hT.out o2 (fun c k q => by have := nO c k q; omega)
          have no2 : ∀ (c k : Nat), ¬ (c = 102 ∨ c = 103 ∨ c = 104) → ¬ OpP 0 c k := fun c k h q => h (nO c k q)
          obtain ⟨M3, d1, d2, d3, d4⟩ := m_asks (sk := sk) (en := en) (x := x) (r := i) (by omega) hT.2.1 hS2 (by rw [o2 _ _ (no2 _ _ (by omega))]; exact hE) (by rw [o2 _ _ (no2 _ _ (by omega))]; exact e1) (by rw [o2 _ _ (no2 _ _ (by omega))]; exact e2) hT2.2.2.2.1 hT2.2.2.2.2.2
          rw [o2 91 29 (no2 _ _ (by omega)), o2 91 28 (no2 _ _ (by omega)), hs.2.1, hs.2.2.1] at d2 d3
          rw [d1, Option.bind_some]
          have nA : ∀ (c k : Nat), (c = 95 ∨ c = 96 ∨ c = 97 ∨ c = 98 ∨ c = 99 ∨ c = 100 ∨ c = 101 ∨ c = 102 ∨ c = 103 ∨ c = 104 ∨ (c = 91 ∧ (k = 6 ∨ k = 10 ∨ k = 11))) → ¬ AsP c k := fun c k h q => by unfold AsP GtP GoP OuP HdP RoP at q; omega
          have x97 : M3 97 i = x.2 := by rw [d4 _ _ (nA _ _ (by omega)), o2 _ _ (no2 _ _ (by omega))]; exact e2
          have hE3 : M3 91 10 = en := by rw [d4 _ _ (nA _ _ (by omega)), o2 _ _ (no2 _ _ (by omega))]; exact hE
          rw [x97, m_answer d2.1 hE3, hq, Option.bind_some, bn, ms_s]
          have hbb : (if q = -2 then f_Mo_rowByRow_b103 (f_Mo_rowByRow_l7 g) (nI i) (nI i) 0 (mset M3 101 i q) else f_Mo_rowByRow_b103 (f_Mo_rowByRow_l7 g) (nI i) (-1) 0 (mset M3 101 i q)) = f_Mo_rowByRow_l111 (f_Mo_rowByRow_l7 g) FU (nI i) (nI L.length + (-1)) (mset (mset M3 101 i q) 100 0 (if q = -2 then nI i else -1)) := by
            have h6 : ∀ v, (mset (mset M3 101 i q) 100 0 v) 91 6 = nI L.length := fun v => by rw [ms_c _ _ (by decide), ms_c _ _ (by decide), d4 _ _ (nA _ _ (by omega))]; exact hS2.2.1
            unfold f_Mo_rowByRow_b103
            by_cases c : q = -2
            · rw [if_pos c, if_pos c, if_pos (by decide), cl0, bn, bn, h6, Int32.sub_eq_add_neg]
            · rw [if_neg c, if_neg c, if_pos (by decide), cl0, bn, bn, h6, Int32.sub_eq_add_neg]
          rw [hbb]
          have o4 : Out (fun c k => (c = 101 ∧ k = i) ∨ (c = 100 ∧ k = 0)) M3 (mset (mset M3 101 i q) 100 0 (if q = -2 then nI i else -1)) := (Out.set (Or.inl ⟨rfl, rfl⟩)).trans (Out.set (Or.inr ⟨rfl, rfl⟩))
          have v100 : (mset (mset M3 101 i q) 100 0 (if q = -2 then nI i else -1)) 100 0 = if q = -2 then nI i else -1 := ms_s _ _ _ _
          have v101 : (mset (mset M3 101 i q) 100 0 (if q = -2 then nI i else -1)) 101 i = q := by rw [ms_c _ _ (by decide), ms_s]
          generalize mset (mset M3 101 i q) 100 0 (if q = -2 then nI i else -1) = M4 at o4 v100 v101
          have hS4 : StM M4 L sk := (hS2.out d4 (fun c k q w => nA c k (by omega) q)).out o4 (fun c k q => by omega)
          have hl4 : LgIs M4 0 (tells (tellF s.2.2.2.2.1 0) (cds (fs1 L) L.length 0)) := (b2.out d4 (fun c k q w => nA c k (by unfold LgP at w; omega) q)).out o4 (fun c k q => by unfold LgP; omega)
          obtain ⟨M5, f1, f2, f3⟩ := m_shutsL (w := 0) (by decide) (f := fs1 L) (n := L.length) (fun M => StM M L sk)
            (fun M => (f_Mo_logs M 0 10).bind fun q14 => bnd (mset q14 102 3 ((q14 91 6) + 1)) fun M15 => f_Mo_rowByRow_l7 g (nI i + 1) M15)
            (fun fuel j M => f_Mo_rowByRow_l111 (f_Mo_rowByRow_l7 g) fuel (nI i) j M)
            (fun M M' h o => h.out o (fun c k q => by unfold LgP at q; omega))
            (fun fuel j M hj hM => by
              show f_Mo_rowByRow_l111B (f_Mo_rowByRow_l7 g) (f_Mo_rowByRow_l111 (f_Mo_rowByRow_l7 g) fuel) (nI i) (nI j) M = _
              unfold f_Mo_rowByRow_l111B
              rw [if_neg (fun q => by have := (nI_ltI (a := j) (b := 0) (by omega) (by decide)).mp q; omega), if_pos (gin_t (by omega) (by decide)), nI_clamp (by omega), (hM.2.2.1.fs hj).1]
              rfl)
            (fun fuel M hM => by
              show f_Mo_rowByRow_l111B (f_Mo_rowByRow_l7 g) (f_Mo_rowByRow_l111 (f_Mo_rowByRow_l7 g) fuel) (nI i) (nI 0 + (-1)) M = _
              unfold f_Mo_rowByRow_l111B
              rw [if_pos (by decide)]
              rfl)
            L.length FU M4 _ (Nat.le_refl _) (Nat.lt_trans (by omega) fu_lt) hS4 hl4
          have f1 : f_Mo_rowByRow_l111 (f_Mo_rowByRow_l7 g) FU (nI i) (nI L.length + (-1)) M4 = _ := f1
          rw [f1]
          obtain ⟨M6, g1, g2, g3⟩ := m_logs (w := 0) (x := 10) (by decide) f2
          have g1 : f_Mo_logs M5 0 10 = some M6 := g1
          rw [g1, Option.bind_some, bn, nI_1]
          have nL : ∀ (c k : Nat), ¬ (c = 103 ∨ c = 104) → ¬ LgP 0 c k := fun c k h q => by unfold LgP at q; omega
          have e64 : ∀ c k, ¬ (c = 103 ∨ c = 104) → M6 c k = M4 c k := fun c k h => by rw [g3 _ _ (nL c k h), f3 _ _ (nL c k h)]
          have x6 : M6 91 6 = nI L.length := by rw [e64 _ _ (by omega)]; exact hS4.2.1
          rw [x6]
          have o6 : Out (fun c k => c = 102 ∧ k = 3) M6 (mset M6 102 3 (nI L.length + 1)) := Out.set ⟨rfl, rfl⟩
          have hall : Out RbP M (mset M6 102 3 (nI L.length + 1)) := by
            refine (o2.mono (fun c k q => Or.inr (Or.inl q))).trans ((d4.mono (fun c k q => Or.inl q)).trans ((o4.mono (fun c k q => ?_)).trans ((f3.mono (fun c k q => Or.inr (Or.inl (Or.inl q)))).trans ((g3.mono (fun c k q => Or.inr (Or.inl (Or.inl q)))).trans (o6.mono (fun c k q => ?_))))))
            · rcases q with q | q
              · exact Or.inr (Or.inr (Or.inr (Or.inl ⟨q.1, by omega⟩)))
              · exact Or.inr (Or.inr (Or.inl q))
            · exact Or.inr (Or.inr (Or.inr (Or.inr q)))
          have hs7 : MRel (mset M6 102 3 (nI L.length + 1)) s1 := by
            rw [← hr, hlen]
            refine ⟨?_, ?_, ?_, ?_, ?_, ?_, ?_⟩
            · rw [ms_c _ _ (by decide), e64 _ _ (by omega)]; exact v100
            · rw [ms_c _ _ (by decide), e64 _ _ (by omega), o4 _ _ (by omega)]; exact d3
            · rw [ms_c _ _ (by decide), e64 _ _ (by omega), o4 _ _ (by omega)]; exact d2.2.2.1
            · refine hs.2.2.2.1.snoc (fun j hj => ?_) ?_
              · rw [ms_c _ _ (by decide), e64 _ _ (by omega), o4 _ _ (by omega), d4 _ _ (nA _ _ (by omega)), o2 _ _ (no2 _ _ (by omega))]
              · rw [hlen, ms_c _ _ (by decide), e64 _ _ (by omega)]; exact v101
            · exact g2.out o6 (fun c k q => by unfold LgP; omega)
            · rw [ms_k _ _ (by decide), e64 _ _ (by omega), o4 _ _ (by omega), d4 _ _ (nA _ _ (by omega))]
              have b3 : M2 102 2 = M1 102 2 + nI L.length := b3
              have a3 : M1 102 2 = M 102 2 + 1 := a3
              rw [b3, a3, hs.2.2.2.2.2.1]
            · rw [ms_s]
          have hlen1 : s1.2.2.2.1.length = i + 1 := by
            rw [← hr]
            show (s.2.2.2.1 ++ [q]).length = i + 1
            rw [List.length_append, hlen]; rfl
          generalize mset M6 102 3 (nI L.length + 1) = M7 at hall hs7
          have nR : ∀ (c k : Nat), (c = 95 ∨ c = 96 ∨ c = 97 ∨ c = 98 ∨ c = 99 ∨ (c = 91 ∧ (k = 6 ∨ k = 10 ∨ k = 11))) → ¬ RbP c k := fun c k h q => by unfold RbP OpP LgP AsP GtP GoP OuP HdP RoP at q; omega
          obtain ⟨M8, z1, z2, z3⟩ := ih (i + 1) g M7 s1 s' e3 (by omega) (by omega) hlen1 (hS.out hall (fun c k q w => nR c k (by omega) q)) (by rw [hall _ _ (nR _ _ (by omega))]; exact hE) (hT.out hall (fun c k q w => nR c k (by omega) q)) hs7 hx
          exact ⟨M8, z1, z2, hall.trans z3⟩
    · rw [if_neg c0] at hx ⊢
      injection hx with hx
      subst hx
      exact ⟨M, rfl, hs, Out.rfl⟩
