-- ===== count and digest =====
def EX (D : DT) (M : Mem) : Prop := M 13 1 = nI (D.1 0) ∧ M 15 1 = nI (D.1 1) ∧ M 17 1 = nI (D.1 2)
def vCt (D : DT) (w : Nat) : Int32 := if w = 0 then nI (dO D).length else if w = 1 then nI (dI D).length else if w = 2 then nI (dL D).length else if w = 3 then nI D.2.2 else if w = 4 then nI (D.1 0) + nI (D.1 1) + nI (D.1 2) else if w = 5 then nI (dPs D).length else if w = 6 then nI (dCo D).length else (dR D D.2.2 (-1)).2.1
theorem c_counted {D : DT} {M : Mem} (hE : EC D M) (hX : EX D M) (hC : CRan D M) {w : Nat} (hw : w < 8) : f_U_counted M (nI w) = vCt D w := by
  have hc : w = 0 ∨ w = 1 ∨ w = 2 ∨ w = 3 ∨ w = 4 ∨ w = 5 ∨ w = 6 ∨ w = 7 := by omega
  rcases hc with rfl | rfl | rfl | rfl | rfl | rfl | rfl | rfl
  · exact hE.1
  · exact hE.2.2.2.1
  · exact hE.2.2.2.2.2.2.1.2.1
  · exact hE.2.2.2.2.2.2.2
  · show M (13 + 2 * (0 : Int32).toNatClampNeg) 1 + M (13 + 2 * (1 : Int32).toNatClampNeg) 1 + M (13 + 2 * (2 : Int32).toNatClampNeg) 1 = nI (D.1 0) + nI (D.1 1) + nI (D.1 2)
    rw [cl0, cl1, cl2, ← hX.1, ← hX.2.1, ← hX.2.2]
  · exact hC.2.2.2.1
  · exact hC.2.2.1.1
  · exact hC.1.2.1
theorem EM.S {D : DT} {M M' : Mem} (h : EM D M) (o : Out MoS M M') : EM D M' := h.out o (fun c k q w => by unfold MoS at q; unfold EMP at w; omega)
theorem mv_tell {D : DT} {M : Mem} (h : DOk D) (hE : EM D M) {w : Nat} (hw : w = 0 ∨ w = 1 ∨ w = 2 ∨ w = 5 ∨ w = 6) : ∃ M', f_Mo_tellOf M (nI w) = some (vCt D w, M') ∧ Out MoS M M' := by
  obtain ⟨M', a1, a2, a3, a4⟩ := m_told h hE
  refine ⟨M', ?_, a4⟩
  have hd : DoIs M' (dPs D) := a2.2.1.2.2.2.2.2.2.2.2.1
  have hp : PlIs M' ((dCo D).map Prod.fst) := a2.2.1.2.2.2.2.2.2.2.2.2
  have hl2 : ((dCo D).map Prod.fst).length = (dCo D).length := List.length_map _
  unfold f_Mo_tellOf
  rw [a1, Option.bind_some]
  rcases hw with rfl | rfl | rfl | rfl | rfl
  · rw [if_neg (by decide), if_pos (gin_t (by decide) (by decide)), nI_clamp (by decide), a2.2.2.2.1.2.2.1]; rfl
  · rw [if_neg (by decide), if_pos (gin_t (by decide) (by decide)), nI_clamp (by decide), a2.2.2.2.1.2.2.2.1]; rfl
  · rw [if_pos (by decide), if_pos (show nI 2 = 2 from rfl), a2.2.2.1.2.1]; rfl
  · rw [if_pos (by decide), if_neg (by decide), if_pos (show nI 5 = 5 from rfl), hd.1]; rfl
  · rw [if_pos (by decide), if_neg (by decide), if_neg (by decide), hp.1, hl2]; rfl
theorem mv_count {D : DT} {M : Mem} (h : DOk D) (hE : EM D M) {w : Nat} (hw : w < 8) : ∃ M', f_Mo_count M (nI w) = some (vCt D w, M') ∧ Out MoS M M' := by
  have hc : w = 0 ∨ w = 1 ∨ w = 2 ∨ w = 3 ∨ w = 4 ∨ w = 5 ∨ w = 6 ∨ w = 7 := by omega
  rcases hc with rfl | rfl | rfl | rfl | rfl | rfl | rfl | rfl
  · obtain ⟨M', a1, a2⟩ := mv_tell h hE (w := 0) (by omega)
    refine ⟨M', ?_, a2⟩
    show (f_Mo_tellOf M (nI 0)).bind (fun q2 => some (q2.1, q2.2)) = _
    rw [a1]; rfl
  · obtain ⟨M', a1, a2⟩ := mv_tell h hE (w := 1) (by omega)
    refine ⟨M', ?_, a2⟩
    show (f_Mo_tellOf M (nI 1)).bind (fun q2 => some (q2.1, q2.2)) = _
    rw [a1]; rfl
  · obtain ⟨M', a1, a2⟩ := mv_tell h hE (w := 2) (by omega)
    refine ⟨M', ?_, a2⟩
    show (f_Mo_tellOf M (nI 2)).bind (fun q2 => some (q2.1, q2.2)) = _
    rw [a1]; rfl
  · refine ⟨M, ?_, Out.rfl⟩
    show some (M 91 9, M) = _
    rw [hE.2.2.2]; rfl
  · refine ⟨M, ?_, Out.rfl⟩
    show some (M 92 (0 : Int32).toNatClampNeg + M 92 (1 : Int32).toNatClampNeg + M 92 (2 : Int32).toNatClampNeg, M) = _
    rw [cl0, cl1, cl2, hE.1.1, hE.2.1.1, hE.2.2.1.1]; rfl
  · obtain ⟨M', a1, a2⟩ := mv_tell h hE (w := 5) (by omega)
    refine ⟨M', ?_, a2⟩
    show (f_Mo_tellOf M (nI 5)).bind (fun q2 => some (q2.1, q2.2)) = _
    rw [a1]; rfl
  · obtain ⟨M', a1, a2⟩ := mv_tell h hE (w := 6) (by omega)
    refine ⟨M', ?_, a2⟩
    show (f_Mo_tellOf M (nI 6)).bind (fun q2 => some (q2.1, q2.2)) = _
    rw [a1]; rfl
  · obtain ⟨M', a1, a2⟩ := mv_cost h hE (p := 0) (w := 0) (by decide) (by decide)
    refine ⟨M', ?_, a2⟩
    show (f_Mo_costOf M (nI 0) (nI 0)).bind (fun q2 => some (q2.1, q2.2)) = _
    rw [a1]; rfl
-- loops that mix
def mx (h : Int64) (x : Int32) : Int64 := (31 * h) + (Int32.toInt64 x)
def fol (st : Nat → Int64 → Int64) : Nat → Nat → Int64 → Int64
  | 0, _, h => h
  | d + 1, i, h => fol st d (i + 1) (st i h)
theorem m_loop {α : Type} {N : Nat} {st : Nat → Int64 → Int64} {g : Nat → Int64 → Int32 → Mem → Option α} {k : Int64 → Mem → Option α} (I : Mem → Prop)
    (step : ∀ fuel i h M, i < N → I M → ∃ M', g (fuel + 1) h (nI i) M = g fuel (st i h) (nI (i + 1)) M' ∧ I M' ∧ Out MoS M M')
    (last : ∀ fuel h M, I M → g (fuel + 1) h (nI N) M = k h M) :
    ∀ (d i fuel : Nat) (h : Int64) (M : Mem), d + i = N → d < fuel → I M → ∃ M', g fuel h (nI i) M = k (fol st d i h) M' ∧ I M' ∧ Out MoS M M' := by
  intro d
  induction d with
  | zero =>
    intro i fuel h M hi hf hI
    obtain ⟨f, rfl⟩ : ∃ f, fuel = f + 1 := ⟨fuel - 1, by omega⟩
    have ei : i = N := by omega
    exact ⟨M, by rw [ei]; exact last f h M hI, hI, Out.rfl⟩
  | succ d ih =>
    intro i fuel h M hi hf hI
    obtain ⟨f, rfl⟩ : ∃ f, fuel = f + 1 := ⟨fuel - 1, by omega⟩
    obtain ⟨M1, a1, a2, a3⟩ := step f i h M (by omega) hI
    obtain ⟨M2, b1, b2, b3⟩ := ih (i + 1) f (st i h) M1 (by omega) (by omega) a2
    exact ⟨M2, a1.trans b1, b2, a3.trans b3⟩
theorem c_loop {α : Type} {N : Nat} {st : Nat → Int64 → Int64} {g : Nat → Int64 → Int32 → Mem → Option α} {k : Int64 → Mem → Option α} {M : Mem}
    (step : ∀ fuel i h, i < N → g (fuel + 1) h (nI i) M = g fuel (st i h) (nI (i + 1)) M) (last : ∀ fuel h, g (fuel + 1) h (nI N) M = k h M) :
    ∀ (d i fuel : Nat) (h : Int64), d + i = N → d < fuel → g fuel h (nI i) M = k (fol st d i h) M := by
  intro d
  induction d with
  | zero =>
    intro i fuel h hi hf
    obtain ⟨f, rfl⟩ : ∃ f, fuel = f + 1 := ⟨fuel - 1, by omega⟩
    have ei : i = N := by omega
    rw [ei]; exact last f h
  | succ d ih =>
    intro i fuel h hi hf
    obtain ⟨f, rfl⟩ : ∃ f, fuel = f + 1 := ⟨fuel - 1, by omega⟩
    exact (step f i h (by omega)).trans (ih (i + 1) f (st i h) (by omega) (by omega))
def anD (n : Nat) (s : RS) (h : Int64) : Int64 := fol (fun i h => mx h (vAn s i)) n 0 (mx h s.1)
def plD (n : Nat) (s : RS) (h : Int64) : Int64 := fol (fun i h => mx h (vLo s i)) 60 0 (fol (fun i h => mx h (vCo s i)) 5 0 (anD n s h))
def stR (D : DT) (i : Nat) (h : Int64) : Int64 := mx (mx (mx (mx h (vRo D 0 i 0)) (vRo D 0 i 1)) (vRo D 1 i 0)) (vRo D 1 i 1)
def stS (D : DT) (i : Nat) (h : Int64) : Int64 := mx (mx (mx h (vSt D i 0)) (vSt D i 1)) (vPl D i)
def stD (D : DT) (i : Nat) (h : Int64) : Int64 := mx (mx h (vDo D i 0)) (vDo D i 1)
def stE (D : DT) (i : Nat) (h : Int64) : Int64 := anD (dO D).length (dP D i 1) (anD (dO D).length (dP D i 0) h)
def dg1 (D : DT) : Int64 := fol (fun i h => mx h (vCt D i)) 8 0 17
def dg2 (D : DT) : Int64 := fol (stS D) 12 0 (fol (stR D) 10 0 (fol (fun i h => mx h (dFa D i)) 3 0 (dg1 D)))
def dg3 (D : DT) : Int64 := mx (mx (mx (mx (mx (dg2 D) (spn (nI D.2.2) (dL D))) (nI (dPs D).length)) (vLk (dP D D.2.2 0) (dP D D.2.2 1) (dO D).length)) (vTo D)) (vSp D)
def dg4 (D : DT) : Int64 := fol (stD D) 10 0 (plD (dO D).length (dP D D.2.2 1) (plD (dO D).length (dP D D.2.2 0) (dg3 D)))
def dg (D : DT) : Int64 := fol (stE D) 9 0 (dg4 D)
-- the class
theorem c_mixAns {D : DT} (h : DOk D) {M : Mem} (hE : EC D M) {o : Nat} {s : RS} {cu : Nat} (hR : RRel o M s cu) (hl : s.1 = -1 → s.2.2.2.1.length = (dO D).length) (x : Int64) : f_U_mixAnswers (o + 8) M x = some (anD (dO D).length s x) := by
  have hlo := dO_l h
  unfold f_U_mixAnswers anD
  rw [bn, show M (o + 8) 4 = s.1 from hR.1.1]
  refine c_loop (N := (dO D).length) (st := fun i h => mx h (vAn s i)) (g := f_U_mixAnswers_l13 (o + 8)) (k := fun h _ => some h) (M := M) (fun fuel i h hi => ?_) (fun fuel h => ?_) (dO D).length 0 FU (mx x s.1) rfl (fuL (by omega))
  · show f_U_mixAnswers_l13B (o + 8) _ _ _ _ = _
    unfold f_U_mixAnswers_l13B f_U_hosts
    rw [hE.1, if_neg (nle hi (by omega)), hR.ans hl hi hlo, Option.bind_some, bn, nI_1]
    rfl
  · show f_U_mixAnswers_l13B (o + 8) _ _ _ _ = _
    unfold f_U_mixAnswers_l13B f_U_hosts
    rw [hE.1, if_pos (Int32.le_refl _)]
theorem c_mixRep {D : DT} (h : DOk D) {M : Mem} (hE : EC D M) {o : Nat} {s : RS} (hR : RRel o M s 0) (hl : s.1 = -1 → s.2.2.2.1.length = (dO D).length) (x : Int64) : f_U_mixReport (o + 8) M x = some (plD (dO D).length s x) := by
  unfold f_U_mixReport plD
  rw [c_mixAns h hE hR hl, Option.bind_some]
  refine c_loop (N := 5) (st := fun i h => mx h (vCo s i)) (g := f_U_mixReport_l11 (o + 8)) (k := fun h M => f_U_mixReport_l39 (o + 8) FU h 0 M) (M := M) (fun fuel i h hi => ?_) (fun fuel h => ?_) 5 0 FU _ rfl (fuL (by decide)) |>.trans ?_
  · show f_U_mixReport_l11B (o + 8) _ _ _ _ = _
    unfold f_U_mixReport_l11B
    rw [show (5 : Int32) = nI 5 from rfl, if_neg (nle hi (by decide)), bn, hR.cost hi, nI_1]
    rfl
  · show f_U_mixReport_l11B (o + 8) _ _ _ _ = _
    unfold f_U_mixReport_l11B
    rw [if_pos (show (5 : Int32) ≤ nI 5 by decide)]
  · refine c_loop (N := 60) (st := fun i h => mx h (vLo s i)) (g := f_U_mixReport_l39 (o + 8)) (k := fun h _ => some h) (M := M) (fun fuel i h hi => ?_) (fun fuel h => ?_) 60 0 FU _ rfl (fuL (by decide))
    · show f_U_mixReport_l39B (o + 8) _ _ _ _ = _
      unfold f_U_mixReport_l39B
      rw [show (60 : Int32) = nI 60 from rfl, if_neg (nle hi (by decide)), hR.log (by omega), Option.bind_some, bn, nI_1]
      rfl
    · show f_U_mixReport_l39B (o + 8) _ _ _ _ = _
      unfold f_U_mixReport_l39B
      rw [if_pos (show (60 : Int32) ≤ nI 60 by decide)]
theorem c_mixTexts {D : DT} (h : DOk D) {M : Mem} (hE : EC D M) (hC : CRan D M) : f_U_mixTexts M (dg1 D) = some (dg2 D) := by
  unfold f_U_mixTexts dg2
  refine c_loop (N := 3) (st := fun i h => mx h (dFa D i)) (g := f_U_mixTexts_l5) (k := fun h M => f_U_mixTexts_l31 FU h 0 M) (M := M) (fun fuel i h hi => ?_) (fun fuel h => ?_) 3 0 FU _ rfl (fuL (by decide)) |>.trans ?_
  · show f_U_mixTexts_l5B _ _ _ _ = _
    unfold f_U_mixTexts_l5B
    rw [show (3 : Int32) = nI 3 from rfl, if_neg (nle hi (by decide)), bn, c_fault hE hi, nI_1]
    rfl
  · show f_U_mixTexts_l5B _ _ _ _ = _
    unfold f_U_mixTexts_l5B
    rw [if_pos (show (3 : Int32) ≤ nI 3 by decide)]
  · refine c_loop (N := 10) (st := stR D) (g := f_U_mixTexts_l31) (k := fun h M => f_U_mixTexts_l95 FU h 0 M) (M := M) (fun fuel i x hi => ?_) (fun fuel h => ?_) 10 0 FU _ rfl (fuL (by decide)) |>.trans ?_
    · have r1 : f_U_row M 0 (nI i) 0 = some (vRo D 0 i 0) := c_row h hE (t := 0) (w := 0) (by decide) hi (by decide)
      have r2 : f_U_row M 0 (nI i) 1 = some (vRo D 0 i 1) := c_row h hE (t := 0) (w := 1) (by decide) hi (by decide)
      have r3 : f_U_row M 1 (nI i) 0 = some (vRo D 1 i 0) := c_row h hE (t := 1) (w := 0) (by decide) hi (by decide)
      have r4 : f_U_row M 1 (nI i) 1 = some (vRo D 1 i 1) := c_row h hE (t := 1) (w := 1) (by decide) hi (by decide)
      show f_U_mixTexts_l31B _ _ _ _ = _
      unfold f_U_mixTexts_l31B
      rw [if_neg (show ¬ (10 : Int32) ≤ nI i from nle (N := 10) hi (by decide)), r1, r2, r3, r4, Option.bind_some, Option.bind_some, bn, Option.bind_some, Option.bind_some, bn, nI_1]
      rfl
    · show f_U_mixTexts_l31B _ _ _ _ = _
      unfold f_U_mixTexts_l31B
      rw [if_pos (show (10 : Int32) ≤ nI 10 by decide)]
    · refine c_loop (N := 12) (st := stS D) (g := f_U_mixTexts_l95) (k := fun h _ => some h) (M := M) (fun fuel i x hi => ?_) (fun fuel h => ?_) 12 0 FU _ rfl (fuL (by decide))
      · have r1 : f_U_step M (nI i) 0 = some (vSt D i 0) := c_step h hE (w := 0) hi (by decide)
        have r2 : f_U_step M (nI i) 1 = some (vSt D i 1) := c_step h hE (w := 1) hi (by decide)
        have r3 : f_Course_codeAt 68 M (nI i) = some (vPl D i) := c_plan hC (by omega)
        show f_U_mixTexts_l95B _ _ _ _ = _
        unfold f_U_mixTexts_l95B
        rw [if_neg (show ¬ (12 : Int32) ≤ nI i from nle (N := 12) hi (by decide)), r1, r2, r3, Option.bind_some, Option.bind_some, bn, Option.bind_some, bn, nI_1]
        rfl
      · show f_U_mixTexts_l95B _ _ _ _ = _
        unfold f_U_mixTexts_l95B
        rw [if_pos (show (12 : Int32) ≤ nI 12 by decide)]
theorem c_mixEnds {D : DT} (h : DOk D) : ∀ (d i fuel : Nat) (x : Int64) (M : Mem), d + i = 9 → d < fuel → EC D M → CRan D M → M 0 8 = 0 → ∃ M', f_U_mixEnds_l5 fuel x (nI i) M = some (fol (stE D) d i x, M') ∧ EC D M' ∧ CRan D M' ∧ M' 0 8 = 0 ∧ Out UrP M M' := by
  intro d
  induction d with
  | zero =>
    intro i fuel x M hi hf hE hC h8
    obtain ⟨k, rfl⟩ : ∃ k, fuel = k + 1 := ⟨fuel - 1, by omega⟩
    have ei : i = 9 := by omega
    subst ei
    refine ⟨M, ?_, hE, hC, h8, Out.rfl⟩
    show f_U_mixEnds_l5B _ _ _ _ = _
    unfold f_U_mixEnds_l5B
    rw [if_pos (show (9 : Int32) ≤ nI 9 by decide)]
    rfl
  | succ d ih =>
    intro i fuel x M hi hf hE hC h8
    obtain ⟨k, rfl⟩ : ∃ k, fuel = k + 1 := ⟨fuel - 1, by omega⟩
    have hi9 : i < 9 := by omega
    obtain ⟨M1, a1, a2, a3⟩ := c_askR (o := 79) h hE (by unfold isRun; omega) hi9 (sk_none (dL_l h))
    have hE1 : EC D M1 := hE.out a3 (fun c k q w => by unfold AkP KpP at q; unfold ECP at w; omega)
    obtain ⟨M2, b1, b2, b3, b4, b5⟩ := c_askF (o := 79) h hE1 (by unfold isRun; omega) hi9
    have hE2 : EC D M2 := hE1.out b5 (fun c k q w => by unfold AkP KpP at q; unfold ECP at w; omega)
    have hC2 : CRan D M2 := (hC.out a3 (fun c k q w => by unfold AkP KpP at q; omega)).out b5 (fun c k q w => by unfold AkP KpP at q; omega)
    have h82 : M2 0 8 = 0 := by rw [b5 _ _ (fun q => by unfold AkP KpP at q; omega), a3 _ _ (fun q => by unfold AkP KpP at q; omega)]; exact h8
    have d0 := (dP_ok h (p := 0) hi9).1
    have d1 := (dP_ok h (p := 1) hi9).1
    have m1 := c_mixAns h hE1 (o := 79) (s := dP D i 0) a2 (fun q => (d0 q).1) x
    have m2 := c_mixAns h hE2 (o := 79) (s := dP D i 1) b2 (fun q => (d1 q).1) (anD (dO D).length (dP D i 0) x)
    obtain ⟨M3, c1, c2, c3, c4, c5⟩ := ih (i + 1) k (stE D i x) M2 (by omega) (by omega) hE2 hC2 h82
    refine ⟨M3, ?_, c2, c3, c4, ((a3.mono (fun c k q => Ak79_S q)).trans (b5.mono (fun c k q => Ak79_S q))).trans c5⟩
    have m1' : f_U_mixAnswers 87 M1 x = some (anD (dO D).length (dP D i 0) x) := m1
    have m2' : f_U_mixAnswers 87 M2 (anD (dO D).length (dP D i 0) x) = some (anD (dO D).length (dP D i 1) (anD (dO D).length (dP D i 0) x)) := m2
    show f_U_mixEnds_l5B _ _ _ _ = _
    unfold f_U_mixEnds_l5B
    rw [if_neg (show ¬ (9 : Int32) ≤ nI i from nle (N := 9) hi9 (by decide)), a1, Option.bind_some, m1', Option.bind_some, b1, Option.bind_some, m2', Option.bind_some, nI_1]
    exact c1
theorem c_digest {D : DT} (h : DOk D) {M : Mem} (hE : EC D M) (hX : EX D M) (hS : M 0 8 = 0 → CRan D M) : ∃ M', f_U_digest M = some (dg D, M') ∧ EC D M' ∧ CRan D M' ∧ M' 0 8 = 0 ∧ Out UrP M M' := by
  obtain ⟨M1, a1, a2, a3, a4⟩ := c_refresh h hE hS
  have hE1 : EC D M1 := hE.out a4 (fun c k q w => by unfold UrP at q; unfold ECP at w; omega)
  have hX1 : EX D M1 := ⟨by rw [a4 _ _ (fun q => by unfold UrP at q; omega)]; exact hX.1, by rw [a4 _ _ (fun q => by unfold UrP at q; omega)]; exact hX.2.1, by rw [a4 _ _ (fun q => by unfold UrP at q; omega)]; exact hX.2.2⟩
  obtain ⟨M2, b1, b2, b3, b4, b5⟩ := c_spare h hE1 a2 a3
  obtain ⟨M3, e1, e2, e3, e4, e5⟩ := c_mixEnds h 9 0 FU (dg4 D) M2 rfl (fuL (by decide)) b2 b3 b4
  refine ⟨M3, ?_, e2, e3, e4, (a4.trans b5).trans e5⟩
  have dd0 := (dP_ok h (p := 0) h.2.2.2).1
  have dd1 := (dP_ok h (p := 1) h.2.2.2).1
  have hsame : f_U_sameBit M1 = some (vLk (dP D D.2.2 0) (dP D D.2.2 1) (dO D).length) := by
    have := c_like (o := 55) (a := 67) (dO_l h) (s := dP D D.2.2 0) (t := dP D D.2.2 1) a2.1 a2.2.1 (fun q => (dd0 q).1) (fun q => (dd1 q).1)
    have h' : f_Report_isLike 63 75 M1 (nI (dO D).length) = some (vLk (dP D D.2.2 0) (dP D D.2.2 1) (dO D).length) := this
    unfold f_U_sameBit f_U_hosts
    rw [hE1.1, h', Option.bind_some]
    unfold vLk
    by_cases c1 : (dP D D.2.2 0).1 = (dP D D.2.2 1).1
    · rw [if_pos c1]
      by_cases c2 : (dP D D.2.2 0).1 = -1
      · rw [if_pos c2]
        by_cases c3 : alk (fs1 (dP D D.2.2 0).2.2.2.1) (fs1 (dP D D.2.2 1).2.2.2.1) (dO D).length 0 = true
        · rw [if_pos c3]; rfl
        · rw [if_neg c3]; rfl
      · rw [if_neg c2]; rfl
    · rw [if_neg c1]; rfl
  have r0 : f_U_mixReport 63 M2 (dg3 D) = some (plD (dO D).length (dP D D.2.2 0) (dg3 D)) := c_mixRep h b2 (o := 55) (s := dP D D.2.2 0) b3.1 (fun q => (dd0 q).1) _
  have r1 : f_U_mixReport 75 M2 (plD (dO D).length (dP D D.2.2 0) (dg3 D)) = some (plD (dO D).length (dP D D.2.2 1) (plD (dO D).length (dP D D.2.2 0) (dg3 D))) := c_mixRep h b2 (o := 67) (s := dP D D.2.2 1) b3.2.1 (fun q => (dd1 q).1) _
  have l131 : f_U_digest_l131 FU (plD (dO D).length (dP D D.2.2 1) (plD (dO D).length (dP D D.2.2 0) (dg3 D))) 0 M2 = some (dg D, M3) := by
    refine c_loop (N := 10) (st := stD D) (g := f_U_digest_l131) (k := fun h M => (f_U_mixEnds M h).bind fun q14 => some (q14.1, q14.2)) (M := M2) (fun fuel i x hi => ?_) (fun fuel x => ?_) 10 0 FU _ rfl (fuL (by decide)) |>.trans ?_
    · have p0 : f_U_pairPart M2 (nI i) 0 = some (vDo D i 0) := c_pair b3 (w := 0) hi (by decide)
      have p1 : f_U_pairPart M2 (nI i) 1 = some (vDo D i 1) := c_pair b3 (w := 1) hi (by decide)
      show f_U_digest_l131B _ _ _ _ = _
      unfold f_U_digest_l131B
      rw [if_neg (show ¬ (10 : Int32) ≤ nI i from nle (N := 10) hi (by decide)), p0, p1, Option.bind_some, bn, Option.bind_some, bn, nI_1]
      rfl
    · show f_U_digest_l131B _ _ _ _ = _
      unfold f_U_digest_l131B
      rw [if_pos (show (10 : Int32) ≤ nI 10 by decide)]
    · show (f_U_mixEnds_l5 FU (dg4 D) 0 M2).bind _ = _
      rw [show f_U_mixEnds_l5 FU (dg4 D) 0 M2 = some (fol (stE D) 9 0 (dg4 D), M3) from e1]
      rfl
  unfold f_U_digest
  rw [a1, Option.bind_some]
  refine c_loop (N := 8) (st := fun i h => mx h (vCt D i)) (g := f_U_digest_l10) (k := fun x M => (f_U_mixTexts M x).bind fun q2 => (f_U_speaks M).bind fun q3 => bnd (f_U_mix q2 q3) fun y4 => bnd (f_U_mix y4 (M 71 3)) fun y5 => (f_U_sameBit M).bind fun q6 => bnd (f_U_mix y5 q6) fun y7 => (f_Report_together 63 M (M 0 6) (f_U_hosts M)).bind fun q8 => bnd (f_U_mix y7 q8) fun y9 => (f_U_spareBits M).bind fun q10 => bnd (f_U_mix y9 q10.1) fun y11 => (f_U_mixReport 63 q10.2 y11).bind fun q12 => (f_U_mixReport 75 q10.2 q12).bind fun q13 => f_U_digest_l131 FU q13 0 q10.2) (M := M1) (fun fuel i x hi => ?_) (fun fuel x => ?_) 8 0 FU 17 rfl (fuL (by decide)) |>.trans ?_
  · show f_U_digest_l10B _ _ _ _ = _
    unfold f_U_digest_l10B
    rw [if_neg (show ¬ (8 : Int32) ≤ nI i from nle (N := 8) hi (by decide)), bn, c_counted hE1 hX1 a2 hi, nI_1]
    rfl
  · show f_U_digest_l10B _ _ _ _ = _
    unfold f_U_digest_l10B
    rw [if_pos (show (8 : Int32) ≤ nI 8 by decide)]
  · have t1 : f_Report_together 63 M1 (M1 0 6) (f_U_hosts M1) = some (vTo D) := by
      unfold f_U_hosts
      rw [hE1.2.2.2.2.2.2.2, hE1.1]
      exact c_total h a2
    show (f_U_mixTexts M1 (dg1 D)).bind _ = _
    rw [c_mixTexts h hE1 a2, Option.bind_some, c_speaks h hE1, Option.bind_some, bn, bn, hsame, Option.bind_some, bn, t1, Option.bind_some, bn, b1, Option.bind_some, bn]
    have e71 : M1 71 3 = nI (dPs D).length := a2.2.2.2.1
    rw [e71]
    show (f_U_mixReport 63 M2 (dg3 D)).bind _ = _
    rw [r0, Option.bind_some, r1, Option.bind_some]
    exact l131
