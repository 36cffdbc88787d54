-- ===== the same values, of the reference =====
section MV
variable {D : DT} {M : Mem}
theorem m_told (h : DOk D) (hE : EM D M) : ∃ M', f_Mo_runsTold M = some M' ∧ MRan D D.2.2 M' ∧ Rd M' (D.1 0) (D.1 1) (D.1 2) (D.2.1 0) (D.2.1 1) (D.2.1 2) ∧ Out MoS M M' := by
  obtain ⟨M', a1, a2, a3, a4⟩ := m_runs h hE h.2.2.2
  refine ⟨M', ?_, a2, a3, a4⟩
  unfold f_Mo_runsTold
  rw [hE.2.2.2, a1]
  rfl
theorem MRan.err {e p : Nat} (hR : MRan D e M) (hp : p < 2) : M 100 p = (dP D e p).1 := by
  have hc : p = 0 ∨ p = 1 := by omega
  rcases hc with rfl | rfl
  · exact hR.1.1
  · exact hR.2.1.1
theorem MRan.ans {e p i : Nat} (hR : MRan D e M) (hp : p < 2) (hi : i < (dO D).length) (h1 : (dP D e p).1 = -1) : M 101 (10 * p + i) = fs1 (dP D e p).2.2.2.1 i := by
  have hc : p = 0 ∨ p = 1 := by omega
  rcases hc with rfl | rfl
  · rw [Nat.mul_zero, Nat.zero_add]; exact hR.1.2.1 h1 i hi
  · exact hR.2.1.2.1 h1 i hi
theorem mul_add_nI (a b c : Nat) : nI a * nI b + nI c = nI (a * b + c) := by rw [pk_mul, nI_add]
theorem m_ansNow (h : DOk D) {e p i : Nat} (hR : MRan D e M) (hp : p < 2) (hi : i < (dO D).length) : f_Mo_answerNow M (nI p) (nI i) = some (vAn (dP D e p) i) := by
  have hl := dO_l h
  unfold f_Mo_answerNow vAn
  rw [if_pos (gin_t hp (by decide)), nI_clamp (by omega), hR.err hp]
  by_cases c : (dP D e p).1 = -1
  · rw [if_pos c, if_pos c, show (10 : Int32) = nI 10 from rfl, mul_add_nI, if_pos (gin_t (by omega) (by decide)), nI_clamp (by omega), hR.ans hp hi c]
  · rw [if_neg c, if_neg c]
theorem mv_err (h : DOk D) (hE : EM D M) {p : Nat} (hp : p < 2) : ∃ M', f_Mo_errorOf M (nI p) = some ((dP D D.2.2 p).1, M') ∧ Out MoS M M' := by
  obtain ⟨M', a1, a2, a3, a4⟩ := m_told h hE
  refine ⟨M', ?_, a4⟩
  unfold f_Mo_errorOf
  rw [a1, Option.bind_some, if_pos (gin_t hp (by decide)), nI_clamp (by omega), a2.err hp]
theorem mv_ans (h : DOk D) (hE : EM D M) {p i : Nat} (hp : p < 2) (hi : i < 10) : ∃ M', f_Mo_answerFor M (nI p) (nI i) = some (if i < (dO D).length then vAn (dP D D.2.2 p) i else -2, M') ∧ Out MoS M M' := by
  obtain ⟨M', a1, a2, a3, a4⟩ := m_told h hE
  refine ⟨M', ?_, a4⟩
  have hl := dO_l h
  unfold f_Mo_answerFor
  rw [a1, Option.bind_some, cl0, a2.2.2.2.1.2.2.1]
  by_cases c : i < (dO D).length
  · rw [if_neg (fun q => by rw [nI_leI (by omega) (by omega)] at q; omega), m_ansNow h a2 hp c, if_pos c]
    rfl
  · rw [if_pos (by rw [nI_leI (by omega) (by omega)]; omega), if_neg c]
theorem m_sameL (h : DOk D) {e : Nat} (hR : MRan D e M) : ∀ (d i fuel : Nat) (b : Bool), d + i = (dO D).length → d < fuel → f_Mo_sameOf_l27 fuel (if b = true then 1 else 0) (nI i) M = some (if b = true then (if alk (vAn (dP D e 0)) (vAn (dP D e 1)) d i = true then 1 else 0) else 0, M) := by
  have hl := dO_l h
  intro d
  induction d with
  | zero =>
    intro i fuel b hi hf
    obtain ⟨k, rfl⟩ : ∃ k, fuel = k + 1 := ⟨fuel - 1, by omega⟩
    have ei : i = (dO D).length := by omega
    show f_Mo_sameOf_l27B _ _ _ _ = _
    unfold f_Mo_sameOf_l27B
    rw [cl0, hR.2.2.2.1.2.2.1, ei, if_pos (Int32.le_refl _)]
    cases b <;> rfl
  | succ d ih =>
    intro i fuel b hi hf
    obtain ⟨k, rfl⟩ : ∃ k, fuel = k + 1 := ⟨fuel - 1, by omega⟩
    show f_Mo_sameOf_l27B _ _ _ _ = _
    unfold f_Mo_sameOf_l27B f_Mo_sameOf_b60 f_Mo_sameOf_b61
    rw [cl0, hR.2.2.2.1.2.2.1, if_neg (fun q => by rw [nI_leI (by omega) (by omega)] at q; omega), nI_1]
    have i0 := ih (i + 1) k false (by omega) (by omega)
    have i1 := ih (i + 1) k true (by omega) (by omega)
    simp only [if_true, Bool.false_eq_true, if_false] at i0 i1
    cases b with
    | false =>
      simp only [Bool.false_eq_true, if_false, if_true]
      exact i0
    | true =>
      have e0 := m_ansNow h hR (p := 0) (i := i) (by decide) (by omega)
      have e1 := m_ansNow h hR (p := 1) (i := i) (by decide) (by omega)
      have e0' : f_Mo_answerNow M 0 (nI i) = some (vAn (dP D e 0) i) := e0
      have e1' : f_Mo_answerNow M 1 (nI i) = some (vAn (dP D e 1) i) := e1
      simp only [if_true, show ¬ (1 : Int32) = 0 by decide, if_false]
      rw [e0', e1', Option.bind_some, Option.bind_some, i0, i1]
      show _ = some (if (if vAn (dP D e 0) i = vAn (dP D e 1) i then alk (vAn (dP D e 0)) (vAn (dP D e 1)) d (i + 1) else false) = true then 1 else 0, M)
      by_cases c : vAn (dP D e 0) i = vAn (dP D e 1) i
      · rw [if_pos c, if_pos c]
      · rw [if_neg c, if_neg c]
        rfl
theorem alk_t {f g : Nat → Int32} (hfg : ∀ i, f i = g i) : ∀ (d i : Nat), alk f g d i = true := by
  intro d
  induction d with
  | zero => intro i; rfl
  | succ d ih => intro i; show (if f i = g i then alk f g d (i + 1) else false) = true; rw [if_pos (hfg i)]; exact ih _
theorem mv_same (h : DOk D) (hE : EM D M) : ∃ M', f_Mo_sameOf M = some (vLk (dP D D.2.2 0) (dP D D.2.2 1) (dO D).length, M') ∧ Out MoS M M' := by
  obtain ⟨M', a1, a2, a3, a4⟩ := m_told h hE
  refine ⟨M', ?_, a4⟩
  have hl := Nat.lt_of_le_of_lt (dO_l h) (Nat.lt_trans (show 10 < 512 by decide) fu_lt)
  have b0 := m_sameL h a2 (dO D).length 0 FU false rfl hl
  have b1 := m_sameL h a2 (dO D).length 0 FU true rfl hl
  simp only [if_true, Bool.false_eq_true, if_false] at b0 b1
  unfold f_Mo_sameOf f_Mo_sameOf_b24 vLk
  rw [a1, Option.bind_some, cl0, cl1, a2.err (p := 0) (by decide), a2.err (p := 1) (by decide)]
  by_cases c : (dP D D.2.2 0).1 = (dP D D.2.2 1).1
  · rw [if_pos c, if_pos c]
    refine Eq.trans b1 ?_
    by_cases c1 : (dP D D.2.2 0).1 = -1
    · rw [if_pos c1]
      have f0 : vAn (dP D D.2.2 0) = fs1 (dP D D.2.2 0).2.2.2.1 := by funext i; unfold vAn; rw [if_pos c1]
      have f1 : vAn (dP D D.2.2 1) = fs1 (dP D D.2.2 1).2.2.2.1 := by funext i; unfold vAn; rw [if_pos (by rw [← c]; exact c1)]
      rw [f0, f1]
    · rw [if_neg c1, if_pos (alk_t (fun i => by unfold vAn; rw [if_neg c1, if_neg (by rw [← c]; exact c1)]) _ _)]
  · rw [if_neg c, if_neg c]
    exact b0
theorem m_totL (h : DOk D) {e : Nat} (he : e < 9) (hR : MRan D e M) (h1 : (dP D e 0).1 = -1) : ∀ (d i fuel : Nat) (a : Int32), d + i = (dO D).length → d < fuel → (e = 4 → ∃ F, Nice (144 + i) F ∧ UInt32.toInt32 F = a) → f_Mo_totalOf_l21 fuel a (nI i) M = some (rto e (fs1 (dP D e 0).2.2.2.1) d i a, M) := by
  have hl := dO_l h
  obtain ⟨hlen, hA⟩ := (dP_ok h (p := 0) he).1 h1
  intro d
  induction d with
  | zero =>
    intro i fuel a hi hf _
    obtain ⟨k, rfl⟩ : ∃ k, fuel = k + 1 := ⟨fuel - 1, by omega⟩
    have ei : i = (dO D).length := by omega
    show f_Mo_totalOf_l21B _ _ _ _ = _
    unfold f_Mo_totalOf_l21B
    rw [cl0, hR.2.2.2.1.2.2.1, ei, if_pos (Int32.le_refl _)]
    rfl
  | succ d ih =>
    intro i fuel a hi hf hF
    obtain ⟨k, rfl⟩ : ∃ k, fuel = k + 1 := ⟨fuel - 1, by omega⟩
    have hx := hR.ans (p := 0) (i := i) (by decide) (by omega) h1
    rw [Nat.mul_zero, Nat.zero_add] at hx
    show f_Mo_totalOf_l21B _ _ _ _ = _
    unfold f_Mo_totalOf_l21B f_Mo_totalOf_b66
    rw [cl0, hR.2.2.2.1.2.2.1, if_neg (fun q => by rw [nI_leI (by omega) (by omega)] at q; omega), if_pos (gin_t (by omega) (by decide)), bn, nI_clamp (by omega), hx, nI_1, hR.2.2.2.2]
    show _ = some (rto e (fs1 (dP D e 0).2.2.2.1) d (i + 1) (if fs1 (dP D e 0).2.2.2.1 i = -1 then a else if e = 4 then (f_Mo_added a (fs1 (dP D e 0).2.2.2.1 i)).getD 0 else a + fs1 (dP D e 0).2.2.2.1 i), M)
    by_cases c1 : fs1 (dP D e 0).2.2.2.1 i = -1
    · rw [if_pos c1, if_pos c1]
      refine ih (i + 1) k a (by omega) (by omega) (fun c => ?_)
      obtain ⟨F, q1, q2⟩ := hF c
      refine ⟨F, ?_, q2⟩
      rcases q1 with q | ⟨E, t, w1, w2, w3, w4⟩
      · exact Or.inl q
      · exact Or.inr ⟨E, t, w1, by omega, w3, w4⟩
    · rw [if_neg c1, if_neg c1]
      by_cases c : e = 4
      · obtain ⟨F, q1, q2⟩ := hF c
        have hil : i < (dP D e 0).2.2.2.1.length := by omega
        have hmem : (dP D e 0).2.2.2.1.getD i (0, 0) ∈ (dP D e 0).2.2.2.1 := by
          rw [List.getD_eq_getElem?_getD, List.getElem?_eq_getElem hil]
          exact List.getElem_mem _
        obtain ⟨o1, mn, o2, o3, o4⟩ := hA _ hmem
        have o4' : UInt32.toInt32 mn = fs1 (dP D e 0).2.2.2.1 i := by rw [← o3]; exact o4 c c1
        have hmn : Nice (144 + i) mn := by
          rcases o2 with q | ⟨E, t, w1, w2, w3, w4⟩
          · exact Or.inl q
          · exact Or.inr ⟨E, t, w1, by omega, w3, w4⟩
        obtain ⟨f1, f2, f3⟩ := fl_add q1 hmn (by omega)
        rw [if_pos (show nI e = 4 by rw [c]; rfl), if_pos c, ← q2, ← o4', f3, Option.bind_some]
        exact ih (i + 1) k _ (by omega) (by omega) (fun _ => ⟨_, f2, rfl⟩)
      · rw [if_neg (show ¬ nI e = 4 from fun q => c ((nI_eq (b := 4) (by omega) (by decide)).mp q)), if_neg c]
        exact ih (i + 1) k _ (by omega) (by omega) (fun q => absurd q c)
theorem mv_total (h : DOk D) (hE : EM D M) : ∃ M', f_Mo_totalOf M = some (vTo D, M') ∧ Out MoS M M' := by
  obtain ⟨M', a1, a2, a3, a4⟩ := m_told h hE
  refine ⟨M', ?_, a4⟩
  have e0 : dP D D.2.2 0 = dR D D.2.2 (-1) := rfl
  have hq := a2.err (p := 0) (by decide)
  unfold f_Mo_totalOf vTo
  rw [a1, Option.bind_some, cl0, hq, e0]
  by_cases c : (dR D D.2.2 (-1)).1 = -1
  · rw [if_pos c, if_pos c]
    exact m_totL h h.2.2.2 a2 c (dO D).length 0 FU 0 rfl (Nat.lt_of_le_of_lt (dO_l h) (Nat.lt_trans (by decide) fu_lt)) (fun _ => ⟨0, Or.inl rfl, rfl⟩)
  · rw [if_neg c, if_neg c]
theorem mv_speaks (h : DOk D) (hE : EM D M) : ∃ M', f_Mo_speaksOf M = some (spn (nI D.2.2) (dL D), M') ∧ Out MoS M M' := by
  obtain ⟨M', a1, a2, a3, a4⟩ := m_told h hE
  refine ⟨M', ?_, a4⟩
  unfold f_Mo_speaksOf
  rw [a1, Option.bind_some, m_speaksNow a2.2.2.1 a2.2.2.2.2]
  rfl
theorem mv_dom1 (h : DOk D) (hE : EM D M) {w : Int32} : ∃ M', f_Mo_domainOf M (-1) w = some (nI (dPs D).length, M') ∧ Out MoS M M' := by
  obtain ⟨M', a1, a2, a3, a4⟩ := m_told h hE
  refine ⟨M', ?_, a4⟩
  have hd : DoIs M' (dPs D) := a2.2.1.2.2.2.2.2.2.2.2.1
  unfold f_Mo_domainOf
  rw [a1, Option.bind_some, if_pos rfl, hd.1]
theorem mv_dom (h : DOk D) (hE : EM D M) {i w : Nat} (hi : i < 10) (hw : w < 2) : ∃ M', f_Mo_domainOf M (nI i) (nI w) = some (vDo D i w, M') ∧ Out MoS M M' := by
  obtain ⟨M', a1, a2, a3, a4⟩ := m_told h hE
  refine ⟨M', ?_, a4⟩
  have hd : DoIs M' (dPs D) := a2.2.1.2.2.2.2.2.2.2.2.1
  have hl := hd.2.1
  unfold f_Mo_domainOf vDo
  rw [a1, Option.bind_some, if_neg (nI_nm1 (by omega)), hd.1]
  by_cases c : i < (dPs D).length
  · obtain ⟨s1, s2⟩ := hd.2.2.fs c
    rw [if_pos ((nI_ltI (by omega) (by omega)).mpr c), if_pos c, if_pos (gin_t (by omega) (by decide)), if_pos (gin_t (by omega) (by decide)), nI_clamp (by omega), s1, s2]
    by_cases h0 : w = 0
    · rw [if_pos (show nI w = 0 by rw [h0]; rfl), if_pos h0]
    · rw [if_neg (nI_ne0 (by omega) (by omega)), if_neg h0]
  · rw [if_neg (fun q => c ((nI_ltI (by omega) (by omega)).mp q)), if_neg c]
theorem mv_plan (h : DOk D) (hE : EM D M) {i : Nat} (hi : i < 20) : ∃ M', f_Mo_planOf M (nI i) = some (vPl D i, M') ∧ Out MoS M M' := by
  obtain ⟨M', a1, a2, a3, a4⟩ := m_told h hE
  refine ⟨M', ?_, a4⟩
  have hd : PlIs M' ((dCo D).map Prod.fst) := a2.2.1.2.2.2.2.2.2.2.2.2
  have hl := hd.2.1
  have hl2 : ((dCo D).map Prod.fst).length = (dCo D).length := List.length_map _
  unfold f_Mo_planOf vPl
  rw [a1, Option.bind_some, hd.1, hl2]
  by_cases c : i < (dCo D).length
  · rw [if_neg (fun q => by rw [nI_leI (by omega) (by omega)] at q; omega), if_pos c, if_pos (gin_t (by omega) (by decide)), nI_clamp (by omega), hd.2.2 i (by omega), fs1_map rfl]
  · rw [if_pos ((nI_leI (by omega) (by omega)).mpr (by omega)), if_neg c]
theorem MRan.cost {e p w : Nat} (hR : MRan D e M) (hp : p < 2) (hw : w < 5) : M 102 (5 * p + w) = vCo (dP D e p) w := by
  have hc : p = 0 ∨ p = 1 := by omega
  obtain ⟨r1, r2, r3⟩ := hR.1
  obtain ⟨w1, w2, w3, w4, w5, w6⟩ := r3 rfl
  obtain ⟨g1, g2, g3, g4, g5, g6, g7, g8, g9, g10⟩ := hR.2.1
  have hcw : w = 0 ∨ w = 1 ∨ w = 2 ∨ w = 3 ∨ w = 4 := by omega
  rcases hc with rfl | rfl
  · rcases hcw with rfl | rfl | rfl | rfl | rfl
    · exact w2
    · exact w3
    · exact w4
    · exact w5
    · exact w6
  · rcases hcw with rfl | rfl | rfl | rfl | rfl
    · exact g4
    · exact g5
    · exact g6
    · exact g7
    · exact g8
theorem mv_cost (h : DOk D) (hE : EM D M) {p w : Nat} (hp : p < 2) (hw : w < 5) : ∃ M', f_Mo_costOf M (nI p) (nI w) = some (vCo (dP D D.2.2 p) w, M') ∧ Out MoS M M' := by
  obtain ⟨M', a1, a2, a3, a4⟩ := m_told h hE
  refine ⟨M', ?_, a4⟩
  unfold f_Mo_costOf
  rw [a1, Option.bind_some, show (5 : Int32) = nI 5 from rfl, mul_add_nI, if_pos (gin_t (by omega) (by decide)), nI_clamp (by omega), a2.cost hp hw]
theorem mv_log (h : DOk D) (hE : EM D M) {p i : Nat} (hp : p < 2) (hi : i < 200) : ∃ M', f_Mo_logOf M (nI p) (nI i) = some (vLo (dP D D.2.2 p) i, M') ∧ Out MoS M M' := by
  obtain ⟨M', a1, a2, a3, a4⟩ := m_told h hE
  refine ⟨M', ?_, a4⟩
  have hL : LgIs M' p (dP D D.2.2 p).2.2.2.2.1 := by
    have hc : p = 0 ∨ p = 1 := by omega
    rcases hc with rfl | rfl
    · exact (a2.1.2.2 rfl).1
    · exact a2.2.1.2.2.1
  have hl := hL.2.1
  unfold f_Mo_logOf vLo
  rw [a1, Option.bind_some, if_pos (gin_t hp (by decide)), nI_clamp (by omega), hL.1]
  by_cases c : i < (dP D D.2.2 p).2.2.2.2.1.length
  · rw [if_neg (fun q => by rw [nI_leI (by omega) (by omega)] at q; omega), if_pos c, show (200 : Int32) = nI 200 from rfl, mul_add_nI, if_pos (gin_t (by omega) (by decide)), nI_clamp (by omega), show M' 104 (200 * p + i) = (dP D D.2.2 p).2.2.2.2.1.getD i 0 from hL.2.2 i c]
  · rw [if_pos ((nI_leI (by omega) (by omega)).mpr (by omega)), if_neg c]
theorem RaP_S {c k : Nat} (h : RaP c k) : MoS c k := by unfold RaP at h; unfold MoS; omega
theorem mv_fault (h : DOk D) (hE : EM D M) {t : Nat} (ht : t < 3) : ∃ M', f_Mo_faultOf M (nI t) = some (dFa D t, M') ∧ Out MoS M M' := by
  obtain ⟨M1, a1, a2, a3⟩ := m_reads h.1 h.2.1 h.2.2.1 hE.1 hE.2.1 hE.2.2.1
  refine ⟨M1, ?_, a3.mono (fun c k q => RaP_S q)⟩
  obtain ⟨d1, d2, d3, -⟩ := a2
  unfold f_Mo_faultOf
  rw [a1, Option.bind_some, if_pos (gin_t ht (by decide)), nI_clamp (by omega)]
  have hc : t = 0 ∨ t = 1 ∨ t = 2 := by omega
  rcases hc with rfl | rfl | rfl
  · rw [d1]; rfl
  · rw [d2]; rfl
  · rw [d3]; rfl
theorem mv_row (h : DOk D) (hE : EM D M) {t i w : Nat} (ht : t < 2) (hi : i < 10) (hw : w < 2) : ∃ M', f_Mo_rowOf M (nI t) (nI i) (nI w) = some (vRo D t i w, M') ∧ Out MoS M M' := by
  obtain ⟨M1, a1, a2, a3⟩ := m_reads h.1 h.2.1 h.2.2.1 hE.1 hE.2.1 hE.2.2.1
  refine ⟨M1, ?_, a3.mono (fun c k q => RaP_S q)⟩
  obtain ⟨d1, d2, d3, d4, d5, d6, d7, d8, d9⟩ := a2
  have w0 : (nI w = 0) ↔ w = 0 := nI_eq (b := 0) (by omega) (by decide)
  have key : ∀ (l : List (Int32 × Int32)), l.length ≤ 10 → M1 95 t = nI l.length → SH (fun j => M1 96 (10 * t + j)) (fun j => M1 97 (10 * t + j)) l → (if nI i < M1 95 t then (if nI w = 0 then (if gin (nI 10 * nI t + nI i) 20 then some (M1 96 (nI 10 * nI t + nI i).toNatClampNeg, M1) else none) else (if gin (nI 10 * nI t + nI i) 20 then some (M1 97 (nI 10 * nI t + nI i).toNatClampNeg, M1) else none)) else some (-2, M1)) = some (if i < l.length then (if w = 0 then fs1 l i else fs2 l i) else -2, M1) := by
    intro l hl h1 h2
    rw [h1, mul_add_nI]
    by_cases c : i < l.length
    · obtain ⟨s1, s2⟩ := h2.fs c
      have s1' : M1 96 (10 * t + i) = fs1 l i := s1
      have s2' : M1 97 (10 * t + i) = fs2 l i := s2
      rw [if_pos ((nI_ltI (by omega) (by omega)).mpr c), if_pos c, if_pos (gin_t (by omega) (by decide)), if_pos (gin_t (by omega) (by decide)), nI_clamp (by omega), s1', s2']
      by_cases h0 : w = 0
      · rw [if_pos (w0.mpr h0), if_pos h0]
      · rw [if_neg (fun q => h0 (w0.mp q)), if_neg h0]
    · rw [if_neg (fun q => c ((nI_ltI (by omega) (by omega)).mp q)), if_neg c]
  unfold f_Mo_rowOf vRo
  rw [a1, Option.bind_some, if_pos (gin_t ht (by decide)), nI_clamp (n := t) (by omega)]
  have hc : t = 0 ∨ t = 1 := by omega
  rcases hc with rfl | rfl
  · refine key (dO D) (dO_l h) ?_ ?_
    · rw [d4]; unfold dO; rw [trl_len]
    · have : SH (M1 96) (M1 97) (dO D) := SH_trl d6
      exact this.out (fun j => by rw [Nat.mul_zero, Nat.zero_add]) (fun j => by rw [Nat.mul_zero, Nat.zero_add])
  · refine key (dI D) (dI_l h) ?_ ?_
    · rw [d5]; unfold dI; rw [trl_len]
    · exact SH_trl (f := fun j => M1 96 (10 + j)) (g := fun j => M1 97 (10 + j)) d7
theorem mv_step (h : DOk D) (hE : EM D M) {i w : Nat} (hi : i < 12) (hw : w < 2) : ∃ M', f_Mo_stepOf M (nI i) (nI w) = some (vSt D i w, M') ∧ Out MoS M M' := by
  obtain ⟨M1, a1, a2, a3⟩ := m_reads h.1 h.2.1 h.2.2.1 hE.1 hE.2.1 hE.2.2.1
  refine ⟨M1, ?_, a3.mono (fun c k q => RaP_S q)⟩
  obtain ⟨d1, d2, d3, d4, d5, d6, d7, d8, d9⟩ := a2
  have hl := dL_l h
  have w0 : (nI w = 0) ↔ w = 0 := nI_eq (b := 0) (by omega) (by decide)
  have d8' : M1 91 6 = nI (dL D).length := d8
  have d9' : SH (M1 98) (M1 99) (dL D) := d9
  unfold f_Mo_stepOf vSt
  rw [a1, Option.bind_some, d8']
  by_cases c : i < (dL D).length
  · obtain ⟨s1, s2⟩ := d9'.fs c
    rw [if_pos ((nI_ltI (by omega) (by omega)).mpr c), if_pos c, if_pos (gin_t (by omega) (by decide)), if_pos (gin_t (by omega) (by decide)), nI_clamp (by omega), s1, s2]
    by_cases h0 : w = 0
    · rw [if_pos (w0.mpr h0), if_pos h0]
    · rw [if_neg (fun q => h0 (w0.mp q)), if_neg h0]
  · rw [if_neg (fun q => c ((nI_ltI (by omega) (by omega)).mp q)), if_neg c]
end MV
