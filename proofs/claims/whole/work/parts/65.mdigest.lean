-- ===== the reference's digest =====
section MD
variable {D : DT}
theorem m_ansDig (h : DOk D) {M : Mem} {e p : Nat} (hR : MRan D e M) (hp : p < 2) (x : Int64) : f_Mo_answerDigest M x (nI p) = some (anD (dO D).length (dP D e p) x) := by
  have hlo := dO_l h
  unfold f_Mo_answerDigest anD
  rw [if_pos (gin_t hp (by decide)), bn, nI_clamp (by omega), hR.err hp]
  refine c_loop (N := (dO D).length) (st := fun i h => mx h (vAn (dP D e p) i)) (g := fun f a i M => f_Mo_answerDigest_l18 f (nI p) a i M) (k := fun h _ => some h) (M := M) (fun fuel i x hi => ?_) (fun fuel x => ?_) (dO D).length 0 FU (mx x (dP D e p).1) rfl (fuL (by omega))
  · show f_Mo_answerDigest_l18B _ _ _ _ _ = _
    unfold f_Mo_answerDigest_l18B
    rw [cl0, hR.2.2.2.1.2.2.1, if_neg (nle hi (by omega)), m_ansNow h hR hp hi, Option.bind_some, bn, nI_1]
    rfl
  · show f_Mo_answerDigest_l18B _ _ _ _ _ = _
    unfold f_Mo_answerDigest_l18B
    rw [cl0, hR.2.2.2.1.2.2.1, if_pos (Int32.le_refl _)]
theorem m_planDig (h : DOk D) {M : Mem} (hE : EM D M) {p : Nat} (hp : p < 2) (x : Int64) : ∃ M', f_Mo_planDigest M x (nI p) = some (plD (dO D).length (dP D D.2.2 p) x, M') ∧ EM D M' ∧ Out MoS M M' := by
  obtain ⟨M1, a1, a2, a3, a4⟩ := m_told h hE
  have hE1 := hE.S a4
  obtain ⟨M2, b1, b2, b3⟩ := m_loop (N := 5) (st := fun i h => mx h (vCo (dP D D.2.2 p) i)) (g := fun f a i M => f_Mo_planDigest_l15 f (nI p) a i M) (k := fun h M => f_Mo_planDigest_l47 FU (nI p) h 0 M) (EM D) (fun fuel i x M hi hI => by
      obtain ⟨M', c1, c2⟩ := mv_cost h hI hp hi
      refine ⟨M', ?_, hI.S c2, c2⟩
      show f_Mo_planDigest_l15B _ _ _ _ _ = _
      unfold f_Mo_planDigest_l15B
      rw [if_neg (show ¬ (5 : Int32) ≤ nI i from nle (N := 5) hi (by decide)), c1, Option.bind_some, bn, nI_1]
      rfl) (fun fuel x M hI => by
      show f_Mo_planDigest_l15B _ _ _ _ _ = _
      unfold f_Mo_planDigest_l15B
      rw [if_pos (show (5 : Int32) ≤ nI 5 by decide)]) 5 0 FU (anD (dO D).length (dP D D.2.2 p) x) M1 rfl (fuL (by decide)) hE1
  obtain ⟨M3, d1, d2, d3⟩ := m_loop (N := 60) (st := fun i h => mx h (vLo (dP D D.2.2 p) i)) (g := fun f a i M => f_Mo_planDigest_l47 f (nI p) a i M) (k := fun h M => some (h, M)) (EM D) (fun fuel i x M hi hI => by
      obtain ⟨M', c1, c2⟩ := mv_log h hI hp (show i < 200 by omega)
      refine ⟨M', ?_, hI.S c2, c2⟩
      show f_Mo_planDigest_l47B _ _ _ _ _ = _
      unfold f_Mo_planDigest_l47B
      rw [if_neg (show ¬ (60 : Int32) ≤ nI i from nle (N := 60) hi (by decide)), c1, Option.bind_some, bn, nI_1]
      rfl) (fun fuel x M hI => by
      show f_Mo_planDigest_l47B _ _ _ _ _ = _
      unfold f_Mo_planDigest_l47B
      rw [if_pos (show (60 : Int32) ≤ nI 60 by decide)]) 60 0 FU (fol (fun i h => mx h (vCo (dP D D.2.2 p) i)) 5 0 (anD (dO D).length (dP D D.2.2 p) x)) M2 rfl (fuL (by decide)) b2
  refine ⟨M3, ?_, d2, (a4.trans b3).trans d3⟩
  unfold f_Mo_planDigest
  rw [a1, Option.bind_some, m_ansDig h a2 hp, Option.bind_some]
  exact b1.trans d1
theorem m_digest (h : DOk D) {M : Mem} (hE : EM D M) : ∃ M', f_Mo_digest M = some (dg D, M') ∧ EM D M' ∧ Out MoS M M' := by
  -- counts
  obtain ⟨M1, a1, a2, a3⟩ := m_loop (N := 8) (st := fun i h => mx h (vCt D i)) (g := f_Mo_digest_l6) (k := fun h M => f_Mo_digest_l33 FU h 0 M) (EM D) (fun fuel i x M hi hI => by
      obtain ⟨M', c1, c2⟩ := mv_count h hI hi
      refine ⟨M', ?_, hI.S c2, c2⟩
      show f_Mo_digest_l6B _ _ _ _ = _
      unfold f_Mo_digest_l6B
      rw [if_neg (show ¬ (8 : Int32) ≤ nI i from nle (N := 8) hi (by decide)), c1, Option.bind_some, bn, nI_1]
      rfl) (fun fuel x M hI => by
      show f_Mo_digest_l6B _ _ _ _ = _
      unfold f_Mo_digest_l6B
      rw [if_pos (show (8 : Int32) ≤ nI 8 by decide)]) 8 0 FU 17 M rfl (fuL (by decide)) hE
  obtain ⟨M2, b1, b2, b3⟩ := m_loop (N := 3) (st := fun i h => mx h (dFa D i)) (g := f_Mo_digest_l33) (k := fun h M => f_Mo_digest_l59 FU h 0 M) (EM D) (fun fuel i x M hi hI => by
      obtain ⟨M', c1, c2⟩ := mv_fault h hI hi
      refine ⟨M', ?_, hI.S c2, c2⟩
      show f_Mo_digest_l33B _ _ _ _ = _
      unfold f_Mo_digest_l33B
      rw [if_neg (show ¬ (3 : Int32) ≤ nI i from nle (N := 3) hi (by decide)), c1, Option.bind_some, bn, nI_1]
      rfl) (fun fuel x M hI => by
      show f_Mo_digest_l33B _ _ _ _ = _
      unfold f_Mo_digest_l33B
      rw [if_pos (show (3 : Int32) ≤ nI 3 by decide)]) 3 0 FU (dg1 D) M1 rfl (fuL (by decide)) a2
  obtain ⟨M3, d1, d2, d3⟩ := m_loop (N := 10) (st := stR D) (g := f_Mo_digest_l59) (k := fun h M => f_Mo_digest_l133 FU h 0 M) (EM D) (fun fuel i x M hi hI => by
      obtain ⟨A, p1, p2⟩ := mv_row h hI (t := 0) (w := 0) (by decide) hi (by decide)
      obtain ⟨B, q1, q2⟩ := mv_row h (hI.S p2) (t := 0) (w := 1) (by decide) hi (by decide)
      obtain ⟨C, r1, r2⟩ := mv_row h ((hI.S p2).S q2) (t := 1) (w := 0) (by decide) hi (by decide)
      obtain ⟨E, s1, s2⟩ := mv_row h (((hI.S p2).S q2).S r2) (t := 1) (w := 1) (by decide) hi (by decide)
      have p1' : f_Mo_rowOf M 0 (nI i) 0 = some (vRo D 0 i 0, A) := p1
      have q1' : f_Mo_rowOf A 0 (nI i) 1 = some (vRo D 0 i 1, B) := q1
      have r1' : f_Mo_rowOf B 1 (nI i) 0 = some (vRo D 1 i 0, C) := r1
      have s1' : f_Mo_rowOf C 1 (nI i) 1 = some (vRo D 1 i 1, E) := s1
      refine ⟨E, ?_, (((hI.S p2).S q2).S r2).S s2, ((p2.trans q2).trans r2).trans s2⟩
      show f_Mo_digest_l59B _ _ _ _ = _
      unfold f_Mo_digest_l59B
      rw [if_neg (show ¬ (10 : Int32) ≤ nI i from nle (N := 10) hi (by decide)), p1', Option.bind_some, bn, q1', Option.bind_some, bn, r1', Option.bind_some, bn, s1', Option.bind_some, bn, nI_1]
      rfl) (fun fuel x M hI => by
      show f_Mo_digest_l59B _ _ _ _ = _
      unfold f_Mo_digest_l59B
      rw [if_pos (show (10 : Int32) ≤ nI 10 by decide)]) 10 0 FU (fol (fun i h => mx h (dFa D i)) 3 0 (dg1 D)) M2 rfl (fuL (by decide)) b2
  obtain ⟨M4, e1, e2, e3⟩ := m_loop (N := 12) (st := stS D) (g := f_Mo_digest_l133) (k := fun a1 M => (f_Mo_speaksOf M).bind fun q1 => bnd ((31 * a1) + (Int32.toInt64 q1.1)) fun y2 => (f_Mo_domainOf q1.2 (-1) 0).bind fun q3 => bnd ((31 * y2) + (Int32.toInt64 q3.1)) fun y4 => (f_Mo_sameOf q3.2).bind fun q5 => bnd ((31 * y4) + (Int32.toInt64 q5.1)) fun y6 => (f_Mo_totalOf q5.2).bind fun q7 => bnd ((31 * y6) + (Int32.toInt64 q7.1)) fun y8 => (f_Mo_spareOf q7.2).bind fun q9 => bnd ((31 * y8) + (Int32.toInt64 q9.1)) fun y10 => (f_Mo_planDigest q9.2 y10 0).bind fun q11 => (f_Mo_planDigest q11.2 q11.1 1).bind fun q12 => f_Mo_digest_l264 FU q12.1 0 q12.2) (EM D) (fun fuel i x M hi hI => by
      obtain ⟨A, p1, p2⟩ := mv_step h hI (w := 0) hi (by decide)
      obtain ⟨B, q1, q2⟩ := mv_step h (hI.S p2) (w := 1) hi (by decide)
      obtain ⟨C, r1, r2⟩ := mv_plan h ((hI.S p2).S q2) (show i < 20 by omega)
      have p1' : f_Mo_stepOf M (nI i) 0 = some (vSt D i 0, A) := p1
      have q1' : f_Mo_stepOf A (nI i) 1 = some (vSt D i 1, B) := q1
      refine ⟨C, ?_, ((hI.S p2).S q2).S r2, (p2.trans q2).trans r2⟩
      show f_Mo_digest_l133B _ _ _ _ = _
      unfold f_Mo_digest_l133B
      rw [if_neg (show ¬ (12 : Int32) ≤ nI i from nle (N := 12) hi (by decide)), p1', Option.bind_some, bn, q1', Option.bind_some, bn, r1, Option.bind_some, bn, nI_1]
      rfl) (fun fuel x M hI => by
      show f_Mo_digest_l133B _ _ _ _ = _
      unfold f_Mo_digest_l133B
      rw [if_pos (show (12 : Int32) ≤ nI 12 by decide)]) 12 0 FU (fol (stR D) 10 0 (fol (fun i h => mx h (dFa D i)) 3 0 (dg1 D))) M3 rfl (fuL (by decide)) d2
  obtain ⟨A1, f1, g1⟩ := mv_speaks h e2
  have E1 := e2.S g1
  obtain ⟨A2, f2, g2⟩ := mv_dom1 h E1 (w := 0)
  have E2 := E1.S g2
  obtain ⟨A3, f3, g3⟩ := mv_same h E2
  have E3 := E2.S g3
  obtain ⟨A4, f4, g4⟩ := mv_total h E3
  have E4 := E3.S g4
  obtain ⟨A5, f5, g5⟩ := mv_spare h E4
  have E5 := E4.S g5
  obtain ⟨A6, f6, E6, g6⟩ := m_planDig h E5 (p := 0) (by decide) (dg3 D)
  obtain ⟨A7, f7, E7, g7⟩ := m_planDig h E6 (p := 1) (by decide) (plD (dO D).length (dP D D.2.2 0) (dg3 D))
  have f6' : f_Mo_planDigest A5 (dg3 D) 0 = some (plD (dO D).length (dP D D.2.2 0) (dg3 D), A6) := f6
  have f7' : f_Mo_planDigest A6 (plD (dO D).length (dP D D.2.2 0) (dg3 D)) 1 = some (plD (dO D).length (dP D D.2.2 1) (plD (dO D).length (dP D D.2.2 0) (dg3 D)), A7) := f7
  obtain ⟨M5, i1, i2, i3⟩ := m_loop (N := 10) (st := stD D) (g := f_Mo_digest_l264) (k := fun h M => f_Mo_digest_l306 FU h 0 M) (EM D) (fun fuel i x M hi hI => by
      obtain ⟨A, p1, p2⟩ := mv_dom h hI (w := 0) hi (by decide)
      obtain ⟨B, q1, q2⟩ := mv_dom h (hI.S p2) (w := 1) hi (by decide)
      have p1' : f_Mo_domainOf M (nI i) 0 = some (vDo D i 0, A) := p1
      have q1' : f_Mo_domainOf A (nI i) 1 = some (vDo D i 1, B) := q1
      refine ⟨B, ?_, (hI.S p2).S q2, p2.trans q2⟩
      show f_Mo_digest_l264B _ _ _ _ = _
      unfold f_Mo_digest_l264B
      rw [if_neg (show ¬ (10 : Int32) ≤ nI i from nle (N := 10) hi (by decide)), p1', Option.bind_some, bn, q1', Option.bind_some, bn, nI_1]
      rfl) (fun fuel x M hI => by
      show f_Mo_digest_l264B _ _ _ _ = _
      unfold f_Mo_digest_l264B
      rw [if_pos (show (10 : Int32) ≤ nI 10 by decide)]) 10 0 FU (plD (dO D).length (dP D D.2.2 1) (plD (dO D).length (dP D D.2.2 0) (dg3 D))) A7 rfl (fuL (by decide)) E7
  obtain ⟨M6, j1, j2, j3⟩ := m_loop (N := 9) (st := stE D) (g := f_Mo_digest_l306) (k := fun h M => some (h, M)) (EM D) (fun fuel i x M hi hI => by
      obtain ⟨A, p1, p2, p3, p4⟩ := m_runs h hI hi
      have q1 := m_ansDig h p2 (p := 0) (by decide) x
      have q2 := m_ansDig h p2 (p := 1) (by decide) (anD (dO D).length (dP D i 0) x)
      have q1' : f_Mo_answerDigest A x 0 = some (anD (dO D).length (dP D i 0) x) := q1
      have q2' : f_Mo_answerDigest A (anD (dO D).length (dP D i 0) x) 1 = some (anD (dO D).length (dP D i 1) (anD (dO D).length (dP D i 0) x)) := q2
      refine ⟨A, ?_, hI.S p4, p4⟩
      show f_Mo_digest_l306B _ _ _ _ = _
      unfold f_Mo_digest_l306B
      rw [if_neg (show ¬ (9 : Int32) ≤ nI i from nle (N := 9) hi (by decide)), p1, Option.bind_some, q1', Option.bind_some, q2', Option.bind_some, nI_1]
      rfl) (fun fuel x M hI => by
      show f_Mo_digest_l306B _ _ _ _ = _
      unfold f_Mo_digest_l306B
      rw [if_pos (show (9 : Int32) ≤ nI 9 by decide)]) 9 0 FU (dg4 D) M5 rfl (fuL (by decide)) i2
  refine ⟨M6, ?_, j2, a3.trans (b3.trans (d3.trans (e3.trans (g1.trans (g2.trans (g3.trans (g4.trans (g5.trans (g6.trans (g7.trans (i3.trans j3)))))))))))⟩
  unfold f_Mo_digest
  refine a1.trans (b1.trans (d1.trans (e1.trans ?_)))
  show (f_Mo_speaksOf M4).bind _ = _
  rw [f1, Option.bind_some, bn, f2, Option.bind_some, bn, f3, Option.bind_some, bn, f4, Option.bind_some, bn, f5, Option.bind_some, bn]
  show (f_Mo_planDigest A5 (dg3 D) 0).bind _ = _
  rw [f6', Option.bind_some]
  show (f_Mo_planDigest A6 (plD (dO D).length (dP D D.2.2 0) (dg3 D)) 1).bind _ = _
  rw [f7', Option.bind_some]
  exact i1.trans j1
end MD
