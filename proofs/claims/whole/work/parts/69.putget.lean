-- ===== put, get =====
def nv (f : Nat) (v : Int32) : Int32 := if f = 0 then (Int32.toInt8 v).toInt32 else if f = 1 then (Int32.toInt16 v).toInt32 else v
theorem wz (x : Int32) {z : Nat} (hz : z ≤ 60) : (f_U_within x (nI z) = 0 ∧ f_Mo_in x 0 (nI z - 1) = 0) ∨ ∃ j, j < z ∧ x = nI j ∧ ¬ f_U_within x (nI z) = 0 ∧ ¬ f_Mo_in x 0 (nI z - 1) = 0 := by
  by_cases h0 : z = 0
  · subst h0
    refine Or.inl ⟨?_, ?_⟩
    · by_cases q : f_U_within x (nI 0) = 0
      · exact q
      · obtain ⟨j, hj, -⟩ := (within_iff (by decide)).mp q
        exact absurd hj (Nat.not_lt_zero j)
    · rw [inb]
      by_cases c : x < 0
      · rw [if_pos (Or.inl c)]
      · have c2 : (nI 0 - 1) < x := by
          obtain ⟨j, hj, e⟩ := nI_of c
          rw [e, i_lt, nI_toInt hj, show (nI 0 - 1).toInt = -1 by decide]
          omega
        rw [if_pos (Or.inr c2)]
  · rw [nI_sub1 (by omega)]
    exact wi x (by omega) (by omega)
section SHT
variable {D : DT} {M : Mem}
/-- what stands against item a3 of sheet s as of form a2 -/
theorem fl_cases {s : Nat} (hs : s < 4) (h : SHs M s) (a2 a3 : Int32) :
    (∃ w : Int32, (w = 1 ∨ w = 2 ∨ w = 3) ∧ f_Sheet_findingAt (19 + 2 * s) M a2 a3 = w ∧ ∀ N : Mem, N 119 s = M 119 s → N 120 s = M 120 s → N 121 s = M 121 s → f_Mo_lacks N (nI s) a2 a3 = some w) ∨
    (∃ f z j : Nat, f < 3 ∧ z ≤ 60 ∧ j < z ∧ a3 = nI j ∧ M 119 s = 1 ∧ M (19 + 2 * s) 1 = nI f ∧ M 120 s = nI f ∧ M (19 + 2 * s) 2 = nI z ∧ M 121 s = nI z ∧ (∀ k, k < 60 → M (20 + 2 * s) k = M 122 (60 * s + k)) ∧ f_Sheet_findingAt (19 + 2 * s) M a2 a3 = 0 ∧ ∀ N : Mem, N 119 s = M 119 s → N 120 s = M 120 s → N 121 s = M 121 s → f_Mo_lacks N (nI s) a2 a3 = some 0) := by
  have hgs : gin (nI s) 4 := gin_t hs (by decide)
  have ecs : (nI s).toNatClampNeg = s := nI_clamp (by omega)
  have eL : ∀ N : Mem, f_Mo_lacks N (nI s) a2 a3 = if N 119 s = 0 then some 1 else if N 120 s = a2 then (if f_Mo_in a3 0 (N 121 s - 1) = 0 then some 2 else some 0) else some 3 := fun N => by
    unfold f_Mo_lacks
    simp only [if_pos hgs]
    rw [ecs]
  rcases h with ⟨q1, q2⟩ | ⟨q1, f, z, q2, q3, q4, q5, q6, q7, q8⟩
  · refine Or.inl ⟨1, Or.inl rfl, ?_, fun N n1 _ _ => ?_⟩
    · unfold f_Sheet_findingAt
      rw [if_neg (isLost_y q1)]
    · rw [eL, n1, q2, if_pos rfl]
  · have hl := isLost_n q4 (nI_nm1 (show f < 2 ^ 31 by omega))
    by_cases c1 : nI f = a2
    · rcases wz a3 q3 with ⟨y1, y2⟩ | ⟨j, hj, e, y1, y2⟩
      · refine Or.inl ⟨2, Or.inr (Or.inl rfl), ?_, fun N n1 n2 n3 => ?_⟩
        · unfold f_Sheet_findingAt
          rw [if_pos hl, q4, if_pos c1, q6, if_pos y1]
        · rw [eL, n1, n2, n3, q1, q5, q7, if_neg (by decide), if_pos c1, if_pos y2]
      · refine Or.inr ⟨f, z, j, q2, q3, hj, e, q1, q4, q5, q6, q7, q8, ?_, fun N n1 n2 n3 => ?_⟩
        · unfold f_Sheet_findingAt
          rw [if_pos hl, q4, if_pos c1, q6, if_neg y1]
        · rw [eL, n1, n2, n3, q1, q5, q7, if_neg (by decide), if_pos c1, if_neg y2]
    · refine Or.inl ⟨3, Or.inr (Or.inr rfl), ?_, fun N n1 n2 n3 => ?_⟩
      · unfold f_Sheet_findingAt
        rw [if_pos hl, q4, if_neg c1]
      · rw [eL, n1, n2, q1, q5, if_neg (by decide), if_neg c1]
theorem c_assign {M : Mem} {s f j : Nat} {v : Int32} (hs : s < 4) (hf : f < 3) (hj : j < 60) (h1 : M (19 + 2 * s) 1 = nI f) : f_Sheet_assign (19 + 2 * s) M (nI j) v = some (mset M (20 + 2 * s) j (nv f v)) := by
  unfold f_Sheet_assign f_Sheet_assign_b31 nv
  have f0 : (nI f = 0) ↔ f = 0 := nI_eq (b := 0) (by omega) (by decide)
  have f1 : (nI f = 1) ↔ f = 1 := nI_eq (b := 1) (by omega) (by decide)
  rw [h1]
  simp only [if_pos (gin_t hj (show 60 < 2 ^ 31 by decide))]
  rw [nI_clamp (by omega), show 19 + 2 * s + 1 = 20 + 2 * s by omega]
  by_cases c0 : f = 0
  · rw [if_pos (f0.mpr c0), if_pos c0]; rfl
  · rw [if_neg (fun q => c0 (f0.mp q)), if_neg c0]
    by_cases c1 : f = 1
    · rw [if_pos (f1.mpr c1), if_pos c1]; rfl
    · rw [if_neg (fun q => c1 (f1.mp q)), if_neg c1]; rfl
theorem m_keep {M : Mem} {s f j : Nat} {v : Int32} (hs : s < 4) (hf : f < 3) (hj : j < 60) (h1 : M 120 s = nI f) : f_Mo_keep M (nI s) (nI j) v = some (mset M 122 (60 * s + j) (nv f v)) := by
  have hgs : gin (nI s) 4 := gin_t hs (by decide)
  have ecs : (nI s).toNatClampNeg = s := nI_clamp (by omega)
  have f0 : (nI f = 0) ↔ f = 0 := nI_eq (b := 0) (by omega) (by decide)
  have f1 : (nI f = 1) ↔ f = 1 := nI_eq (b := 1) (by omega) (by decide)
  unfold f_Mo_keep f_Mo_keep_b40 nv
  simp only [if_pos hgs, show (60 : Int32) = nI 60 from rfl, mul_add_nI]
  simp only [if_pos (gin_t (show 60 * s + j < 240 by omega) (show 240 < 2 ^ 31 by decide))]
  rw [ecs, h1, nI_clamp (by omega)]
  by_cases c0 : f = 0
  · rw [if_pos (f0.mpr c0), if_pos c0]; rfl
  · rw [if_neg (fun q => c0 (f0.mp q)), if_neg c0]
    by_cases c1 : f = 1
    · rw [if_pos (f1.mpr c1), if_pos c1]; rfl
    · rw [if_neg (fun q => c1 (f1.mp q)), if_neg c1]; rfl
theorem op_put (h : IV D M) (a b c d : Int32) : OK2 (f_U_put M a b c d) (fun M1 => f_Mo_put M1 a b c d) := by
  rcases wi a (n := 4) (by decide) (by decide) with ⟨w1, w2⟩ | ⟨s, hs, rfl, w1, w2⟩
  · exact ⟨-2, M, M, by unfold f_U_put; rw [show f_U_within a 4 = 0 from w1, if_pos rfl]; rfl, by show f_Mo_put M a b c d = _; unfold f_Mo_put; rw [show f_Mo_isSheet a = 0 from w2, if_pos rfl]; rfl, D, h⟩
  · have w1' : ¬ f_U_within (nI s) 4 = 0 := w1
    have w2' : ¬ f_Mo_isSheet (nI s) = 0 := w2
    rcases wi b (n := 3) (by decide) (by decide) with ⟨y1, y2⟩ | ⟨f', hf', eb, y1, y2⟩
    · exact ⟨-2, M, M, by unfold f_U_put; rw [if_neg w1', show f_U_within b 3 = 0 from y1, if_pos rfl]; rfl, by show f_Mo_put M (nI s) b c d = _; unfold f_Mo_put; rw [if_neg w2', show f_Mo_in b 0 2 = 0 from y2, if_pos rfl]; rfl, D, h⟩
    · have y1' : ¬ f_U_within b 3 = 0 := y1
      have y2' : ¬ f_Mo_in b 0 2 = 0 := y2
      have hgs : gin (nI s) 4 := gin_t hs (by decide)
      have ecs : (nI s).toNatClampNeg = s := nI_clamp (by omega)
      have eU : f_U_put M (nI s) b c d = if f_Sheet_findingAt (19 + 2 * s) M b c = 0 then ((f_Sheet_assign (19 + 2 * s) M c d).bind fun q4 => some (1, q4)) else some ((f_U_found M (f_Sheet_findingAt (19 + 2 * s) M b c)).1, (f_U_found M (f_Sheet_findingAt (19 + 2 * s) M b c)).2) := by
        unfold f_U_put
        rw [if_neg w1', if_neg y1']
        simp only [if_pos hgs]
        rw [ecs]
        rfl
      have eM : ∀ N, f_Mo_put N (nI s) b c d = (f_Mo_lacks N (nI s) b c).bind fun q1 => if q1 ≤ 0 then (f_Mo_keep N (nI s) c d).bind fun q2 => some (1, q2) else some ((f_Mo_meets N q1).1, (f_Mo_meets N q1).2) := fun N => by
        unfold f_Mo_put
        rw [if_neg w2', if_neg y2']
        rfl
      unfold OK2
      simp only [eM]
      rw [eU]
      rcases fl_cases hs (h.2.2.2.2.2.2.2 s hs) b c with ⟨w, hw, k1, k2⟩ | ⟨f, z, j, k1, k2, k3, k4, k5, k6, k7, k8, k9, k10, k11, k12⟩
      · have hn0 : ¬ w = 0 := by rcases hw with q | q | q <;> rw [q] <;> decide
        have hn1 : ¬ w ≤ 0 := by rcases hw with q | q | q <;> rw [q] <;> decide
        rw [k1, if_neg hn0]
        refine ⟨(-10) - w, mset M 0 7 w, mset (mset M 0 7 w) 91 43 w, rfl, ?_, D, h.fnd w⟩
        rw [k2 (mset M 0 7 w) (ms_c _ _ (by decide)) (ms_c _ _ (by decide)) (ms_c _ _ (by decide)), Option.bind_some, if_neg hn1]
        rfl
      · subst k4
        rw [k11, if_pos rfl, c_assign hs k1 (by omega) k6, Option.bind_some]
        have o : Out (ShP s) M (mset (mset M (20 + 2 * s) j (nv f d)) 122 (60 * s + j) (nv f d)) := (Out.set (P := ShP s) (Or.inr (Or.inl rfl))).trans (Out.set (by unfold ShP; omega))
        refine ⟨1, mset M (20 + 2 * s) j (nv f d), mset (mset M (20 + 2 * s) j (nv f d)) 122 (60 * s + j) (nv f d), rfl, ?_, D, h.sh hs o (Or.inr ⟨?_, f, z, k1, k2, ?_, ?_, ?_, ?_, fun k hk => ?_⟩)⟩
        · rw [k12 _ (ms_c _ _ (by omega)) (ms_c _ _ (by omega)) (ms_c _ _ (by omega)), Option.bind_some, if_pos (by decide), m_keep hs k1 (by omega) (by rw [ms_c _ _ (by omega)]; exact k7)]
          rfl
        · rw [ms_c _ _ (by decide), ms_c _ _ (by omega)]; exact k5
        · rw [ms_c _ _ (by omega), ms_c _ _ (by omega)]; exact k6
        · rw [ms_c _ _ (by decide), ms_c _ _ (by omega)]; exact k7
        · rw [ms_c _ _ (by omega), ms_c _ _ (by omega)]; exact k8
        · rw [ms_c _ _ (by decide), ms_c _ _ (by omega)]; exact k9
        · rw [ms_c _ _ (show 20 + 2 * s ≠ 122 by omega)]
          by_cases e : k = j
          · rw [e, ms_s, ms_s]
          · rw [ms_k _ _ e, ms_k _ _ (by omega), ms_c _ _ (by omega)]; exact k10 k hk
theorem op_get (h : IV D M) (a b c : Int32) : OK2 (f_U_get M a b c) (fun M1 => f_Mo_get M1 a b c) := by
  rcases wi a (n := 4) (by decide) (by decide) with ⟨w1, w2⟩ | ⟨s, hs, rfl, w1, w2⟩
  · exact ⟨-2147483648, M, M, by unfold f_U_get; rw [show f_U_within a 4 = 0 from w1, if_pos rfl]; rfl, by show f_Mo_get M a b c = _; unfold f_Mo_get; rw [show f_Mo_isSheet a = 0 from w2, if_pos rfl]; rfl, D, h⟩
  · have w1' : ¬ f_U_within (nI s) 4 = 0 := w1
    have w2' : ¬ f_Mo_isSheet (nI s) = 0 := w2
    rcases wi b (n := 3) (by decide) (by decide) with ⟨y1, y2⟩ | ⟨f', hf', eb, y1, y2⟩
    · exact ⟨-2147483648, M, M, by unfold f_U_get; rw [if_neg w1', show f_U_within b 3 = 0 from y1, if_pos rfl]; rfl, by show f_Mo_get M (nI s) b c = _; unfold f_Mo_get; rw [if_neg w2', show f_Mo_in b 0 2 = 0 from y2, if_pos rfl]; rfl, D, h⟩
    · have y1' : ¬ f_U_within b 3 = 0 := y1
      have y2' : ¬ f_Mo_in b 0 2 = 0 := y2
      have hgs : gin (nI s) 4 := gin_t hs (by decide)
      have ecs : (nI s).toNatClampNeg = s := nI_clamp (by omega)
      have eU : f_U_get M (nI s) b c = if f_Sheet_findingAt (19 + 2 * s) M b c = 0 then (if gin c 60 then some (M (19 + 2 * s + 1) c.toNatClampNeg, M) else none) else some (-2147483648, mset M 0 7 (f_Sheet_findingAt (19 + 2 * s) M b c)) := by
        unfold f_U_get
        rw [if_neg w1', if_neg y1']
        simp only [if_pos hgs]
        rw [ecs]
        rfl
      have eM : ∀ N, f_Mo_get N (nI s) b c = (f_Mo_lacks N (nI s) b c).bind fun q1 => if q1 ≤ 0 then (if gin ((60 * nI s) + c) 240 then some (N 122 ((60 * nI s) + c).toNatClampNeg, N) else none) else some (-2147483648, mset N 91 43 q1) := fun N => by
        unfold f_Mo_get
        rw [if_neg w2', if_neg y2']
        rfl
      unfold OK2
      simp only [eM]
      rw [eU]
      rcases fl_cases hs (h.2.2.2.2.2.2.2 s hs) b c with ⟨w, hw, k1, k2⟩ | ⟨f, z, j, k1, k2, k3, k4, k5, k6, k7, k8, k9, k10, k11, k12⟩
      · have hn0 : ¬ w = 0 := by rcases hw with q | q | q <;> rw [q] <;> decide
        have hn1 : ¬ w ≤ 0 := by rcases hw with q | q | q <;> rw [q] <;> decide
        rw [k1, if_neg hn0]
        refine ⟨-2147483648, mset M 0 7 w, mset (mset M 0 7 w) 91 43 w, rfl, ?_, D, h.fnd w⟩
        rw [k2 (mset M 0 7 w) (ms_c _ _ (by decide)) (ms_c _ _ (by decide)) (ms_c _ _ (by decide)), Option.bind_some, if_neg hn1]
      · subst k4
        rw [k11, if_pos rfl, if_pos (gin_t (by omega) (by decide)), nI_clamp (by omega)]
        refine ⟨M (19 + 2 * s + 1) j, M, M, rfl, ?_, D, h⟩
        rw [k12 M rfl rfl rfl, Option.bind_some, if_pos (by decide), show (60 : Int32) = nI 60 from rfl, mul_add_nI, if_pos (gin_t (by omega) (by decide)), nI_clamp (by omega), ← k10 j (by omega), show 19 + 2 * s + 1 = 20 + 2 * s by omega]
end SHT
