-- ===== what holds between calls =====
/-- sheet s, by class and reference -/
def SHs (M : Mem) (s : Nat) : Prop := (M (19 + 2 * s) 1 = -1 ∧ M 119 s = 0) ∨ (M 119 s = 1 ∧ ∃ f z : Nat, f < 3 ∧ z ≤ 60 ∧ M (19 + 2 * s) 1 = nI f ∧ M 120 s = nI f ∧ M (19 + 2 * s) 2 = nI z ∧ M 121 s = nI z ∧ ∀ k, k < 60 → M (20 + 2 * s) k = M 122 (60 * s + k))
def EB (D : DT) (M : Mem) : Prop := ∀ t, t < 3 → ∀ k, k < D.1 t → M (14 + 2 * t) k = D.2.1 t k
def IV (D : DT) (M : Mem) : Prop := DOk D ∧ EC D M ∧ EX D M ∧ EB D M ∧ EM D M ∧ (M 0 8 = 0 → CRan D M) ∧ M 0 7 = M 91 43 ∧ ∀ s, s < 4 → SHs M s
theorem SHs.out {M M' : Mem} {s : Nat} {P : Nat → Nat → Prop} (h : SHs M s) (hs : s < 4) (o : Out P M M') (hp : ∀ c k, P c k → ¬ ((c = 19 + 2 * s ∨ c = 20 + 2 * s) ∨ ((c = 119 ∨ c = 120 ∨ c = 121) ∧ k = s) ∨ (c = 122 ∧ 60 * s ≤ k ∧ k < 60 * s + 60))) : SHs M' s := by
  have a1 : ∀ k, M' (19 + 2 * s) k = M (19 + 2 * s) k := fun k => o _ _ (fun q => hp _ _ q (Or.inl (Or.inl rfl)))
  have a2 : ∀ k, M' (20 + 2 * s) k = M (20 + 2 * s) k := fun k => o _ _ (fun q => hp _ _ q (Or.inl (Or.inr rfl)))
  have b1 : M' 119 s = M 119 s := o _ _ (fun q => hp _ _ q (Or.inr (Or.inl ⟨by omega, rfl⟩)))
  have b2 : M' 120 s = M 120 s := o _ _ (fun q => hp _ _ q (Or.inr (Or.inl ⟨by omega, rfl⟩)))
  have b3 : M' 121 s = M 121 s := o _ _ (fun q => hp _ _ q (Or.inr (Or.inl ⟨by omega, rfl⟩)))
  have b4 : ∀ k, k < 60 → M' 122 (60 * s + k) = M 122 (60 * s + k) := fun k hk => o _ _ (fun q => hp _ _ q (Or.inr (Or.inr ⟨rfl, by omega, by omega⟩)))
  rcases h with ⟨q1, q2⟩ | ⟨q1, f, z, q2, q3, q4, q5, q6, q7, q8⟩
  · exact Or.inl ⟨by rw [a1]; exact q1, by rw [b1]; exact q2⟩
  · exact Or.inr ⟨by rw [b1]; exact q1, f, z, q2, q3, by rw [a1]; exact q4, by rw [b2]; exact q5, by rw [a1]; exact q6, by rw [b3]; exact q7, fun k hk => by rw [a2, b4 k hk]; exact q8 k hk⟩
theorem IV.u {D : DT} {M M1 : Mem} (h : IV D M) (hC : CRan D M1) (o : Out UrP M M1) : IV D M1 := by
  obtain ⟨h1, h2, h3, h4, h5, h6, h7, h8⟩ := h
  have k : ∀ c j, (c ≤ 26 ∨ 91 ≤ c) → ¬ (c = 0 ∧ j = 8) → M1 c j = M c j := fun c j hc hj => o _ _ (fun q => by unfold UrP at q; omega)
  refine ⟨h1, h2.out o (fun c k q w => by unfold UrP at q; unfold ECP at w; omega), ⟨by rw [k _ _ (by omega) (by omega)]; exact h3.1, by rw [k _ _ (by omega) (by omega)]; exact h3.2.1, by rw [k _ _ (by omega) (by omega)]; exact h3.2.2⟩, fun t ht j hj => by rw [k _ _ (by omega) (by omega)]; exact h4 t ht j hj, h5.out o (fun c k q w => by unfold UrP at q; unfold EMP at w; omega), fun _ => hC, by rw [k _ _ (by omega) (by omega), k _ _ (by omega) (by omega)]; exact h7, fun s hs => (h8 s hs).out hs o (fun c k q w => by unfold UrP at q; omega)⟩
theorem IV.m {D : DT} {M M1 : Mem} (h : IV D M) (o : Out MoS M M1) : IV D M1 := by
  obtain ⟨h1, h2, h3, h4, h5, h6, h7, h8⟩ := h
  have k : ∀ c j, c ≤ 90 → M1 c j = M c j := fun c j hc => o _ _ (fun q => by unfold MoS at q; omega)
  refine ⟨h1, h2.out o (fun c k q w => by unfold MoS at q; unfold ECP at w; omega), ⟨by rw [k _ _ (by omega)]; exact h3.1, by rw [k _ _ (by omega)]; exact h3.2.1, by rw [k _ _ (by omega)]; exact h3.2.2⟩, fun t ht j hj => by rw [k _ _ (by omega)]; exact h4 t ht j hj, h5.S o, fun q => (h6 (by rw [← k 0 8 (by omega)]; exact q)).out o (fun c k q w => by unfold MoS at q; omega), by rw [k _ _ (by omega), o 91 43 (fun q => by unfold MoS at q; omega)]; exact h7, fun s hs => (h8 s hs).out hs o (fun c k q w => by unfold MoS at q; omega)⟩
theorem IV.ref {D : DT} {M : Mem} (h : IV D M) : ∃ M1, f_U_refresh M = some M1 ∧ CRan D M1 ∧ M1 0 8 = 0 ∧ EC D M1 ∧ EX D M1 ∧ IV D M1 := by
  obtain ⟨M1, a1, a2, a3, a4⟩ := c_refresh h.1 h.2.1 h.2.2.2.2.2.1
  have := h.u a2 a4
  exact ⟨M1, a1, a2, a3, this.2.1, this.2.2.1, this⟩
/-- an argument: within by both, or by none -/
theorem wi (x : Int32) {n : Nat} (h1 : 1 ≤ n) (hn : n < 1000) : (f_U_within x (nI n) = 0 ∧ f_Mo_in x 0 (nI (n - 1)) = 0) ∨ ∃ j, j < n ∧ x = nI j ∧ ¬ f_U_within x (nI n) = 0 ∧ ¬ f_Mo_in x 0 (nI (n - 1)) = 0 := by
  by_cases h : f_U_within x (nI n) = 0
  · refine Or.inl ⟨h, ?_⟩
    rw [inb]
    by_cases c : x < 0 ∨ nI (n - 1) < x
    · rw [if_pos c]
    · exfalso
      obtain ⟨j, hj, e⟩ := nI_of (fun q => c (Or.inl q))
      refine absurd h ((within_iff (by omega)).mpr ⟨j, ?_, e⟩)
      have : ¬ nI (n - 1) < nI j := fun q => c (Or.inr (by rw [e]; exact q))
      rw [nI_ltI (by omega) hj] at this
      omega
  · obtain ⟨j, hj, e⟩ := (within_iff (by omega)).mp h
    refine Or.inr ⟨j, hj, e, h, ?_⟩
    rw [inb, e, if_neg]
    · decide
    · rintro (q | q)
      · exact nI_pos (by omega) q
      · rw [nI_ltI (by omega) (by omega)] at q; omega
theorem wp (x : Int32) : (f_U_isPlan x = 0 ∧ f_Mo_isTwo x = 0) ∨ ∃ j, j < 2 ∧ x = nI j ∧ ¬ f_U_isPlan x = 0 ∧ ¬ f_Mo_isTwo x = 0 := by
  have hw := wi x (n := 2) (by decide) (by decide)
  have hp : f_U_isPlan x = f_U_within x (nI 2) := by
    rcases hw with ⟨q1, q2⟩ | ⟨j, hj, e, -, -⟩
    · have n0 : ¬ x = 0 := fun q => by rw [q] at q1; exact absurd q1 (by decide)
      have n1 : ¬ x = 1 := fun q => by rw [q] at q1; exact absurd q1 (by decide)
      unfold f_U_isPlan
      rw [if_neg n0, if_neg n1, q1]
    · rw [e]
      have hc : j = 0 ∨ j = 1 := by omega
      rcases hc with rfl | rfl <;> decide
  rw [hp]
  exact hw
theorem within_le {x : Int32} {n m : Nat} (h : f_U_within x (nI n) = 0) (hm : m ≤ n) (hn : n < 1000) : f_U_within x (nI m) = 0 := by
  by_cases q : f_U_within x (nI m) = 0
  · exact q
  · obtain ⟨j, hj, e⟩ := (within_iff (by omega)).mp q
    exact absurd h ((within_iff (by omega)).mpr ⟨j, by omega, e⟩)
/-- a call done by both: they answer alike, and all holds again -/
def OK2 (c : Option (Int32 × Mem)) (r : Mem → Option (Int32 × Mem)) : Prop := ∃ v M1 M2, c = some (v, M1) ∧ r M1 = some (v, M2) ∧ ∃ D, IV D M2
theorem runOf_p {M : Mem} {p : Nat} (hp : p < 2) : f_U_runOf M (nI p) = 55 + 12 * p := by
  have hc : p = 0 ∨ p = 1 := by omega
  rcases hc with rfl | rfl <;> rfl
theorem CRan.r {D : DT} {M : Mem} (h : CRan D M) {p : Nat} (hp : p < 2) : RRel (55 + 12 * p) M (dP D D.2.2 p) 0 := by
  have hc : p = 0 ∨ p = 1 := by omega
  rcases hc with rfl | rfl
  · exact h.1
  · exact h.2.1
section OPS
variable {D : DT} {M : Mem}
theorem op_error (h : IV D M) (a : Int32) : OK2 (f_U_error M a) (fun M1 => f_Mo_error M1 a) := by
  rcases wp a with ⟨q1, q2⟩ | ⟨p, hp, rfl, q1, q2⟩
  · exact ⟨-2, M, M, by unfold f_U_error; rw [if_pos q1], by show f_Mo_error M a = _; unfold f_Mo_error; rw [if_pos q2], D, h⟩
  · obtain ⟨M1, a1, a2, a3, a4, a5, a6⟩ := h.ref
    obtain ⟨M2, b1, b2⟩ := mv_err h.1 a6.2.2.2.2.1 hp
    refine ⟨(dP D D.2.2 p).1, M1, M2, ?_, ?_, D, a6.m b2⟩
    · unfold f_U_error
      rw [if_neg q1, a1, Option.bind_some, runOf_p hp, (a2.r hp).1.1]
    · show f_Mo_error M1 (nI p) = _
      unfold f_Mo_error
      rw [if_neg q2, b1]
      rfl
theorem op_answer (h : IV D M) (a b : Int32) : OK2 (f_U_answer M a b) (fun M1 => f_Mo_answer M1 a b) := by
  have hb : ∀ M, f_U_answer_b18 M = some (-2, M) := fun _ => rfl
  rcases wp a with ⟨q1, q2⟩ | ⟨p, hp, rfl, q1, q2⟩
  · exact ⟨-2, M, M, by unfold f_U_answer; rw [if_pos q1]; rfl, by show f_Mo_answer M a b = _; unfold f_Mo_answer; rw [if_pos q2]; rfl, D, h⟩
  · have hl := dO_l h.1
    rcases wi b (n := 10) (by decide) (by decide) with ⟨w1, w2⟩ | ⟨i, hi, rfl, w1, w2⟩
    · refine ⟨-2, M, M, ?_, ?_, D, h⟩
      · unfold f_U_answer f_U_hosts
        rw [if_neg q1, h.2.1.1, within_le w1 hl (by decide), if_pos rfl]; rfl
      · show f_Mo_answer M (nI p) b = _
        unfold f_Mo_answer
        rw [if_neg q2, show f_Mo_in b 0 9 = 0 from w2, if_pos rfl]; rfl
    · have w2' : ¬ f_Mo_in (nI i) 0 9 = 0 := w2
      by_cases c : i < (dO D).length
      · obtain ⟨M1, a1, a2, a3, a4, a5, a6⟩ := h.ref
        obtain ⟨M2, b1, b2⟩ := mv_ans h.1 a6.2.2.2.2.1 hp hi
        refine ⟨vAn (dP D D.2.2 p) i, M1, M2, ?_, ?_, D, a6.m b2⟩
        · unfold f_U_answer f_U_hosts
          rw [if_neg q1, h.2.1.1, within_t c (by omega), if_neg (by decide), a1, Option.bind_some, runOf_p hp, (a2.r hp).ans (fun q => ((dP_ok h.1 h.1.2.2.2).1 q).1) c hl]
          rfl
        · show f_Mo_answer M1 (nI p) (nI i) = _
          unfold f_Mo_answer
          rw [if_neg q2, if_neg w2', b1, if_pos c]
          rfl
      · obtain ⟨M2, b1, b2⟩ := mv_ans h.1 h.2.2.2.2.1 hp hi
        refine ⟨-2, M, M2, ?_, ?_, D, h.m b2⟩
        · unfold f_U_answer f_U_hosts
          rw [if_neg q1, h.2.1.1, within_f (by omega) (by omega) c, if_pos rfl]; rfl
        · show f_Mo_answer M (nI p) (nI i) = _
          unfold f_Mo_answer
          rw [if_neg q2, if_neg w2', b1, if_neg c]
          rfl
theorem c_sameBit (h : DOk D) (hE : EC D M) (hC : CRan D M) : f_U_sameBit M = some (vLk (dP D D.2.2 0) (dP D D.2.2 1) (dO D).length) := by
  have dd0 := (dP_ok h (p := 0) h.2.2.2).1
  have dd1 := (dP_ok h (p := 1) h.2.2.2).1
  have h' : f_Report_isLike 63 75 M (nI (dO D).length) = some (vLk (dP D D.2.2 0) (dP D D.2.2 1) (dO D).length) := c_like (o := 55) (a := 67) (dO_l h) (s := dP D D.2.2 0) (t := dP D D.2.2 1) hC.1 hC.2.1 (fun q => (dd0 q).1) (fun q => (dd1 q).1)
  unfold f_U_sameBit f_U_hosts
  rw [hE.1, h', Option.bind_some]
  unfold vLk
  by_cases c1 : (dP D D.2.2 0).1 = (dP D D.2.2 1).1
  · rw [if_pos c1]
    by_cases c2 : (dP D D.2.2 0).1 = -1
    · rw [if_pos c2]
      by_cases c3 : alk (fs1 (dP D D.2.2 0).2.2.2.1) (fs1 (dP D D.2.2 1).2.2.2.1) (dO D).length 0 = true
      · rw [if_pos c3]; rfl
      · rw [if_neg c3]; rfl
    · rw [if_neg c2]; rfl
  · rw [if_neg c1]; rfl
theorem op_same (h : IV D M) : OK2 (f_U_same M) (fun M1 => f_Mo_same M1) := by
  obtain ⟨M1, a1, a2, a3, a4, a5, a6⟩ := h.ref
  obtain ⟨M2, b1, b2⟩ := mv_same h.1 a6.2.2.2.2.1
  refine ⟨vLk (dP D D.2.2 0) (dP D D.2.2 1) (dO D).length, M1, M2, ?_, ?_, D, a6.m b2⟩
  · unfold f_U_same
    rw [a1, Option.bind_some, c_sameBit h.1 a4 a2]
    rfl
  · show f_Mo_same M1 = _
    unfold f_Mo_same
    rw [b1]; rfl
theorem op_total (h : IV D M) : OK2 (f_U_total M) (fun M1 => f_Mo_total M1) := by
  obtain ⟨M1, a1, a2, a3, a4, a5, a6⟩ := h.ref
  obtain ⟨M2, b1, b2⟩ := mv_total h.1 a6.2.2.2.2.1
  refine ⟨vTo D, M1, M2, ?_, ?_, D, a6.m b2⟩
  · unfold f_U_total f_U_hosts
    rw [a1, Option.bind_some, a4.2.2.2.2.2.2.2, a4.1, c_total h.1 a2]
    rfl
  · show f_Mo_total M1 = _
    unfold f_Mo_total
    rw [b1]; rfl
theorem op_spare (h : IV D M) : OK2 (f_U_spare M) (fun M1 => f_Mo_spare M1) := by
  obtain ⟨M1, a1, a2, a3, a4, a5, a6⟩ := h.ref
  obtain ⟨M2, b1, b2, b3, b4, b5⟩ := c_spare h.1 a4 a2 a3
  have i2 := a6.u b3 b5
  obtain ⟨M3, c1, c2⟩ := mv_spare h.1 i2.2.2.2.2.1
  refine ⟨vSp D, M2, M3, ?_, ?_, D, i2.m c2⟩
  · unfold f_U_spare
    rw [a1, Option.bind_some, b1]
    rfl
  · show f_Mo_spare M2 = _
    unfold f_Mo_spare
    rw [c1]; rfl
theorem op_speaks (h : IV D M) : ∃ v M2, f_U_speaks M = some v ∧ f_Mo_speaks M = some (v, M2) ∧ ∃ D, IV D M2 := by
  obtain ⟨M2, b1, b2⟩ := mv_speaks h.1 h.2.2.2.2.1
  refine ⟨spn (nI D.2.2) (dL D), M2, c_speaks h.1 h.2.1, ?_, D, h.m b2⟩
  unfold f_Mo_speaks
  rw [b1]; rfl
theorem op_plan (h : IV D M) (a : Int32) : OK2 (f_U_plan M a) (fun M1 => f_Mo_plan M1 a) := by
  rcases wi a (n := 20) (by decide) (by decide) with ⟨w1, w2⟩ | ⟨i, hi, rfl, w1, w2⟩
  · exact ⟨-2, M, M, by unfold f_U_plan; rw [show f_U_within a 20 = 0 from w1, if_pos rfl], by show f_Mo_plan M a = _; unfold f_Mo_plan; rw [show f_Mo_in a 0 19 = 0 from w2, if_pos rfl], D, h⟩
  · have w1' : ¬ f_U_within (nI i) 20 = 0 := w1
    have w2' : ¬ f_Mo_in (nI i) 0 19 = 0 := w2
    obtain ⟨M1, a1, a2, a3, a4, a5, a6⟩ := h.ref
    obtain ⟨M2, b1, b2⟩ := mv_plan h.1 a6.2.2.2.2.1 hi
    refine ⟨vPl D i, M1, M2, ?_, ?_, D, a6.m b2⟩
    · unfold f_U_plan
      rw [if_neg w1', a1, Option.bind_some, c_plan a2 hi]
      rfl
    · show f_Mo_plan M1 (nI i) = _
      unfold f_Mo_plan
      rw [if_neg w2', b1]; rfl
theorem op_cost (h : IV D M) (a b : Int32) : OK2 (f_U_cost M a b) (fun M1 => f_Mo_cost M1 a b) := by
  rcases wp a with ⟨q1, q2⟩ | ⟨p, hp, rfl, q1, q2⟩
  · exact ⟨-2, M, M, by unfold f_U_cost; rw [if_pos q1]; rfl, by show f_Mo_cost M a b = _; unfold f_Mo_cost; rw [if_pos q2]; rfl, D, h⟩
  · rcases wi b (n := 5) (by decide) (by decide) with ⟨w1, w2⟩ | ⟨i, hi, rfl, w1, w2⟩
    · exact ⟨-2, M, M, by unfold f_U_cost; rw [if_neg q1, show f_U_within b 5 = 0 from w1, if_pos rfl]; rfl, by show f_Mo_cost M (nI p) b = _; unfold f_Mo_cost; rw [if_neg q2, show f_Mo_in b 0 4 = 0 from w2, if_pos rfl]; rfl, D, h⟩
    · have w1' : ¬ f_U_within (nI i) 5 = 0 := w1
      have w2' : ¬ f_Mo_in (nI i) 0 4 = 0 := w2
      obtain ⟨M1, a1, a2, a3, a4, a5, a6⟩ := h.ref
      obtain ⟨M2, b1, b2⟩ := mv_cost h.1 a6.2.2.2.2.1 hp hi
      refine ⟨vCo (dP D D.2.2 p) i, M1, M2, ?_, ?_, D, a6.m b2⟩
      · unfold f_U_cost
        rw [if_neg q1, if_neg w1', a1, Option.bind_some, runOf_p hp, (a2.r hp).cost hi]
      · show f_Mo_cost M1 (nI p) (nI i) = _
        unfold f_Mo_cost
        rw [if_neg q2, if_neg w2', b1]; rfl
theorem op_log (h : IV D M) (a b : Int32) : OK2 (f_U_log M a b) (fun M1 => f_Mo_log M1 a b) := by
  rcases wp a with ⟨q1, q2⟩ | ⟨p, hp, rfl, q1, q2⟩
  · exact ⟨-2, M, M, by unfold f_U_log; rw [if_pos q1]; rfl, by show f_Mo_log M a b = _; unfold f_Mo_log; rw [if_pos q2]; rfl, D, h⟩
  · rcases wi b (n := 200) (by decide) (by decide) with ⟨w1, w2⟩ | ⟨i, hi, rfl, w1, w2⟩
    · exact ⟨-2, M, M, by unfold f_U_log; rw [if_neg q1, show f_U_within b 200 = 0 from w1, if_pos rfl]; rfl, by show f_Mo_log M (nI p) b = _; unfold f_Mo_log; rw [if_neg q2, show f_Mo_in b 0 199 = 0 from w2, if_pos rfl]; rfl, D, h⟩
    · have w1' : ¬ f_U_within (nI i) 200 = 0 := w1
      have w2' : ¬ f_Mo_in (nI i) 0 199 = 0 := w2
      obtain ⟨M1, a1, a2, a3, a4, a5, a6⟩ := h.ref
      obtain ⟨M2, b1, b2⟩ := mv_log h.1 a6.2.2.2.2.1 hp hi
      refine ⟨vLo (dP D D.2.2 p) i, M1, M2, ?_, ?_, D, a6.m b2⟩
      · unfold f_U_log
        rw [if_neg q1, if_neg w1', a1, Option.bind_some, runOf_p hp, (a2.r hp).log hi]
        rfl
      · show f_Mo_log M1 (nI p) (nI i) = _
        unfold f_Mo_log
        rw [if_neg q2, if_neg w2', b1]; rfl
theorem op_domain (h : IV D M) (a b : Int32) : OK2 (f_U_domain M a b) (fun M1 => f_Mo_domain M1 a b) := by
  by_cases c1 : a < -1
  · refine ⟨-2, M, M, by unfold f_U_domain; rw [if_pos c1]; rfl, ?_, D, h⟩
    show f_Mo_domain M a b = _
    unfold f_Mo_domain
    rw [inb, if_pos (Or.inl c1), if_pos rfl]; rfl
  · by_cases c2 : 10 ≤ a
    · have c2' : 9 < a := by rw [i_lt]; rw [i_le] at c2; rw [show (10 : Int32).toInt = 10 by decide] at c2; rw [show (9 : Int32).toInt = 9 by decide]; omega
      refine ⟨-2, M, M, by unfold f_U_domain; rw [if_neg c1, if_pos c2]; rfl, ?_, D, h⟩
      show f_Mo_domain M a b = _
      unfold f_Mo_domain
      rw [inb, if_pos (Or.inr c2'), if_pos rfl]; rfl
    · have hin : ¬ f_Mo_in a (-1) 9 = 0 := by
        rw [inb, if_neg]
        · decide
        · rintro (q | q)
          · exact c1 q
          · apply c2
            rw [i_le]; rw [i_lt] at q; rw [show (9 : Int32).toInt = 9 by decide] at q; rw [show (10 : Int32).toInt = 10 by decide]; omega
      rcases wi b (n := 2) (by decide) (by decide) with ⟨w1, w2⟩ | ⟨w, hw, rfl, w1, w2⟩
      · refine ⟨-2, M, M, by unfold f_U_domain; rw [if_neg c1, if_neg c2, show f_U_within b 2 = 0 from w1, if_pos rfl]; rfl, ?_, D, h⟩
        show f_Mo_domain M a b = _
        unfold f_Mo_domain
        rw [if_neg hin, show f_Mo_isTwo b = 0 from w2, if_pos rfl]; rfl
      · have w1' : ¬ f_U_within (nI w) 2 = 0 := w1
        have w2' : ¬ f_Mo_isTwo (nI w) = 0 := w2
        obtain ⟨M1, a1, a2, a3, a4, a5, a6⟩ := h.ref
        by_cases c3 : a = -1
        · obtain ⟨M2, b1, b2⟩ := mv_dom1 h.1 a6.2.2.2.2.1 (w := nI w)
          refine ⟨nI (dPs D).length, M1, M2, ?_, ?_, D, a6.m b2⟩
          · unfold f_U_domain
            rw [if_neg c1, if_neg c2, if_neg w1', a1, Option.bind_some, if_pos c3, show M1 71 3 = nI (dPs D).length from a2.2.2.2.1]
          · show f_Mo_domain M1 a (nI w) = _
            unfold f_Mo_domain
            rw [if_neg hin, if_neg w2', c3, b1]; rfl
        · have h0 : ¬ a < 0 := fun q => by
            apply c3
            rw [i_eq]; rw [i_lt] at q c1; rw [show (-1 : Int32).toInt = -1 by decide] at *; rw [show (0 : Int32).toInt = 0 by decide] at q; omega
          obtain ⟨i, hi, e, -, -⟩ := pk_mu (L := 10) h0 c2 (by decide)
          subst e
          obtain ⟨M2, b1, b2⟩ := mv_dom h.1 a6.2.2.2.2.1 hi hw
          refine ⟨vDo D i w, M1, M2, ?_, ?_, D, a6.m b2⟩
          · unfold f_U_domain
            rw [if_neg c1, if_neg c2, if_neg w1', a1, Option.bind_some, if_neg c3, c_pair a2 hi hw]
            rfl
          · show f_Mo_domain M1 (nI i) (nI w) = _
            unfold f_Mo_domain
            rw [if_neg hin, if_neg w2', b1]; rfl
theorem op_fault (h : IV D M) (a : Int32) : ∃ M2, f_Mo_fault M a = some (f_U_fault M a, M2) ∧ ∃ D, IV D M2 := by
  rcases wi a (n := 3) (by decide) (by decide) with ⟨w1, w2⟩ | ⟨t, ht, rfl, w1, w2⟩
  · refine ⟨M, ?_, D, h⟩
    unfold f_U_fault f_Mo_fault
    rw [show f_U_within a 3 = 0 from w1, show f_Mo_isText a = 0 from w2, if_pos rfl, if_pos rfl]
  · have w2' : ¬ f_Mo_isText (nI t) = 0 := w2
    obtain ⟨M2, b1, b2⟩ := mv_fault h.1 h.2.2.2.2.1 ht
    refine ⟨M2, ?_, D, h.m b2⟩
    rw [c_fault h.2.1 ht]
    unfold f_Mo_fault
    rw [if_neg w2', b1]; rfl
theorem op_row (h : IV D M) (a b c : Int32) : ∃ v M2, f_U_row M a b c = some v ∧ f_Mo_row M a b c = some (v, M2) ∧ ∃ D, IV D M2 := by
  have hM : f_Mo_isTwo a = 0 ∨ f_Mo_in b 0 9 = 0 ∨ f_Mo_isTwo c = 0 → f_Mo_row M a b c = some (-2, M) := by
    intro q
    unfold f_Mo_row
    by_cases c1 : f_Mo_isTwo a = 0
    · rw [if_pos c1]; rfl
    · rw [if_neg c1]
      by_cases c2 : f_Mo_in b 0 9 = 0
      · rw [if_pos c2]; rfl
      · rw [if_neg c2, if_pos (q.resolve_left c1 |>.resolve_left c2)]; rfl
  rcases wi a (n := 2) (by decide) (by decide) with ⟨w1, w2⟩ | ⟨t, ht, ea, w1, w2⟩
  · exact ⟨-2, M, by unfold f_U_row; rw [show f_U_within a 2 = 0 from w1, if_pos rfl]; rfl, hM (Or.inl w2), D, h⟩
  · have w1' : ¬ f_U_within a 2 = 0 := w1
    rcases wi c (n := 2) (by decide) (by decide) with ⟨y1, y2⟩ | ⟨w, hw, ec, y1, y2⟩
    · exact ⟨-2, M, by unfold f_U_row; rw [if_neg w1', show f_U_within c 2 = 0 from y1, if_pos rfl]; rfl, hM (Or.inr (Or.inr y2)), D, h⟩
    · have y1' : ¬ f_U_within c 2 = 0 := y1
      rcases wi b (n := 10) (by decide) (by decide) with ⟨z1, z2⟩ | ⟨i, hi, eb, z1, z2⟩
      · refine ⟨-2, M, ?_, hM (Or.inr (Or.inl z2)), D, h⟩
        have hs : ∃ k, k ≤ 10 ∧ M (f_U_tableOf M a) 2 = nI k := by
          unfold f_U_tableOf
          by_cases c0 : a = 0
          · rw [if_pos c0]; exact ⟨_, dO_l h.1, h.2.1.1⟩
          · rw [if_neg c0]; exact ⟨_, dI_l h.1, h.2.1.2.2.2.1⟩
        obtain ⟨k, hk, ek⟩ := hs
        unfold f_U_row
        rw [if_neg w1', if_neg y1', ek, within_le z1 hk (by decide), if_pos rfl]; rfl
      · subst ea eb ec
        have w2' : ¬ f_Mo_isTwo (nI t) = 0 := w2
        have y2' : ¬ f_Mo_isTwo (nI w) = 0 := y2
        have z2' : ¬ f_Mo_in (nI i) 0 9 = 0 := z2
        obtain ⟨M2, b1, b2⟩ := mv_row h.1 h.2.2.2.2.1 ht hi hw
        refine ⟨vRo D t i w, M2, c_row h.1 h.2.1 ht hi hw, ?_, D, h.m b2⟩
        unfold f_Mo_row
        rw [if_neg w2', if_neg z2', if_neg y2', b1]; rfl
theorem op_step (h : IV D M) (a b : Int32) : ∃ v M2, f_U_step M a b = some v ∧ f_Mo_step M a b = some (v, M2) ∧ ∃ D, IV D M2 := by
  have hM : f_Mo_in a 0 11 = 0 ∨ f_Mo_isTwo b = 0 → f_Mo_step M a b = some (-2, M) := by
    intro q
    unfold f_Mo_step
    by_cases c1 : f_Mo_in a 0 11 = 0
    · rw [if_pos c1]; rfl
    · rw [if_neg c1, if_pos (q.resolve_left c1)]; rfl
  rcases wi b (n := 2) (by decide) (by decide) with ⟨y1, y2⟩ | ⟨w, hw, eb, y1, y2⟩
  · exact ⟨-2, M, by unfold f_U_step; rw [show f_U_within b 2 = 0 from y1, if_pos rfl]; rfl, hM (Or.inr y2), D, h⟩
  · have y1' : ¬ f_U_within b 2 = 0 := y1
    rcases wi a (n := 12) (by decide) (by decide) with ⟨z1, z2⟩ | ⟨i, hi, ea, z1, z2⟩
    · refine ⟨-2, M, ?_, hM (Or.inl z2), D, h⟩
      unfold f_U_step
      rw [if_neg y1', h.2.1.2.2.2.2.2.2.1.2.1, within_le z1 (dL_l h.1) (by decide), if_pos rfl]; rfl
    · subst ea eb
      have y2' : ¬ f_Mo_isTwo (nI w) = 0 := y2
      have z2' : ¬ f_Mo_in (nI i) 0 11 = 0 := z2
      obtain ⟨M2, b1, b2⟩ := mv_step h.1 h.2.2.2.2.1 hi hw
      refine ⟨vSt D i w, M2, c_step h.1 h.2.1 hi hw, ?_, D, h.m b2⟩
      unfold f_Mo_step
      rw [if_neg z2', if_neg y2', b1]; rfl
theorem op_count (h : IV D M) (a : Int32) : OK2 (f_U_count M a) (fun M1 => f_Mo_count M1 a) := by
  by_cases c8 : a = 8
  · subst c8
    refine ⟨M 0 7, M, M, by unfold f_U_count; rw [if_pos rfl], ?_, D, h⟩
    show some (M 91 43, M) = _
    rw [h.2.2.2.2.2.2.1]
  · rcases wi a (n := 8) (by decide) (by decide) with ⟨w1, w2⟩ | ⟨w, hw, rfl, w1, w2⟩
    · refine ⟨-2, M, M, by unfold f_U_count; rw [if_neg c8, show f_U_within a 8 = 0 from w1, if_pos rfl], ?_, D, h⟩
      have hne : ∀ j, j < 8 → ¬ a = nI j := fun j hj e => absurd w1 ((within_iff (by decide)).mpr ⟨j, hj, e⟩)
      show f_Mo_count M a = _
      unfold f_Mo_count
      rw [if_neg (show ¬ a = 0 from hne 0 (by decide)), if_neg (show ¬ a = 1 from hne 1 (by decide)), if_neg (show ¬ a = 2 from hne 2 (by decide)), if_neg (show ¬ a = 3 from hne 3 (by decide)), if_neg (show ¬ a = 4 from hne 4 (by decide)), if_neg (show ¬ a = 5 from hne 5 (by decide)), if_neg (show ¬ a = 6 from hne 6 (by decide)), if_neg (show ¬ a = 7 from hne 7 (by decide)), if_neg c8]
    · have w1' : ¬ f_U_within (nI w) 8 = 0 := w1
      obtain ⟨M1, a1, a2, a3, a4, a5, a6⟩ := h.ref
      obtain ⟨M2, b1, b2⟩ := mv_count h.1 a6.2.2.2.2.1 hw
      refine ⟨vCt D w, M1, M2, ?_, b1, D, a6.m b2⟩
      unfold f_U_count
      rw [if_neg c8, if_neg w1', a1, Option.bind_some, c_counted a4 a5 a2 hw]
theorem op_digest (h : IV D M) : ∃ v M1 M2, f_U_digest M = some (v, M1) ∧ f_Mo_digest M1 = some (v, M2) ∧ ∃ D, IV D M2 := by
  obtain ⟨M1, a1, a2, a3, a4, a5⟩ := c_digest h.1 h.2.1 h.2.2.1 h.2.2.2.2.2.1
  have i1 := h.u a3 a5
  obtain ⟨M2, b1, b2, b3⟩ := m_digest h.1 i1.2.2.2.2.1
  exact ⟨_, M1, M2, a1, b1, D, i1.m b3⟩
theorem op_end (h : IV D M) (a : Int32) : (f_U_end M a).1 = (f_Mo_end (f_U_end M a).2 a).1 ∧ ∃ D, IV D (f_Mo_end (f_U_end M a).2 a).2 := by
  rcases wi a (n := 9) (by decide) (by decide) with ⟨w1, w2⟩ | ⟨e, he, rfl, w1, w2⟩
  · have e1 : f_U_end M a = (-2, M) := by unfold f_U_end; rw [show f_U_within a 9 = 0 from w1, if_pos rfl]
    have e2 : f_Mo_end M a = (-2, M) := by unfold f_Mo_end; rw [show f_Mo_in a 0 8 = 0 from w2, if_pos rfl]
    rw [e1]
    show (-2 : Int32) = (f_Mo_end M a).1 ∧ ∃ D, IV D (f_Mo_end M a).2
    rw [e2]
    exact ⟨rfl, D, h⟩
  · have w1' : ¬ f_U_within (nI e) 9 = 0 := w1
    have w2' : ¬ f_Mo_in (nI e) 0 8 = 0 := w2
    obtain ⟨h1, h2, h3, h4, h5, h6, h7, h8⟩ := h
    have e1 : f_U_end M (nI e) = (M 0 6, mset (mset M 0 6 (nI e)) 0 8 1) := by unfold f_U_end; rw [if_neg w1']; rfl
    have e2 : ∀ N, f_Mo_end N (nI e) = (N 91 9, mset N 91 9 (nI e)) := fun N => by unfold f_Mo_end; rw [if_neg w2']; rfl
    rw [e1]
    show M 0 6 = (f_Mo_end (mset (mset M 0 6 (nI e)) 0 8 1) (nI e)).1 ∧ ∃ D, IV D (f_Mo_end (mset (mset M 0 6 (nI e)) 0 8 1) (nI e)).2
    rw [e2]
    show M 0 6 = mset (mset M 0 6 (nI e)) 0 8 1 91 9 ∧ ∃ D, IV D (mset (mset (mset M 0 6 (nI e)) 0 8 1) 91 9 (nI e))
    have o : Out (fun c k => (c = 0 ∧ (k = 6 ∨ k = 8)) ∨ (c = 91 ∧ k = 9)) M (mset (mset (mset M 0 6 (nI e)) 0 8 1) 91 9 (nI e)) := ((Out.set (P := fun c k => (c = 0 ∧ (k = 6 ∨ k = 8)) ∨ (c = 91 ∧ k = 9)) (Or.inl ⟨rfl, Or.inl rfl⟩)).trans (Out.set (Or.inl ⟨rfl, Or.inr rfl⟩))).trans (Out.set (Or.inr ⟨rfl, rfl⟩))
    refine ⟨?_, (D.1, D.2.1, e), ⟨h1.1, h1.2.1, h1.2.2.1, he⟩, ?_, ⟨by rw [o _ _ (by omega)]; exact h3.1, by rw [o _ _ (by omega)]; exact h3.2.1, by rw [o _ _ (by omega)]; exact h3.2.2⟩, fun t ht k hk => by rw [o _ _ (by omega)]; exact h4 t ht k hk, ?_, ?_, by rw [o _ _ (by omega), o _ _ (by omega)]; exact h7, fun s hs => (h8 s hs).out hs o (fun c k q w => by omega)⟩
    · rw [ms_c _ _ (show (91 : Nat) ≠ 0 by decide), ms_c _ _ (show (91 : Nat) ≠ 0 by decide), h2.2.2.2.2.2.2.2]
      exact h5.2.2.2.symm
    · obtain ⟨q1, q2, q3, q4, q5, q6, q7, q8⟩ := h2
      exact ⟨by rw [o _ _ (by omega)]; exact q1, q2.out (fun j => o _ _ (by omega)) (fun j => o _ _ (by omega)), by rw [o _ _ (by omega)]; exact q3, by rw [o _ _ (by omega)]; exact q4, q5.out (fun j => o _ _ (by omega)) (fun j => o _ _ (by omega)), by rw [o _ _ (by omega)]; exact q6, q7.out o (fun c k q w => by omega), by rw [ms_c _ _ (show (0 : Nat) ≠ 91 by decide), ms_k _ _ (show (6 : Nat) ≠ 8 by decide), ms_s]⟩
    · obtain ⟨q1, q2, q3, q4⟩ := h5
      exact ⟨q1.out o (by omega) (fun k _ => by omega), q2.out o (by omega) (fun k _ => by omega), q3.out o (by omega) (fun k _ => by omega), ms_s _ _ _ _⟩
    · intro q
      rw [ms_c _ _ (show (0 : Nat) ≠ 91 by decide), ms_s] at q
      exact absurd q (by decide)
end OPS
