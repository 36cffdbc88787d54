-- ===== write =====
section WR
variable {D : DT}
theorem c_wrL {s f N o : Nat} {r : RS} {cu : Nat} (hs : s < 4) (hf : f < 3) (hN : N ≤ 10) (ho : isRun o) (h1 : r.1 = -1) (hl : r.2.2.2.1.length = N ∨ N ≤ r.2.2.2.1.length) : ∀ (d i fuel : Nat) (M : Mem), d + i = N → d < fuel → RRel o M r cu → M (19 + 2 * s) 1 = nI f →
    ∃ M', f_U_write_l81 fuel (nI s) (o + 8) (nI N) (nI i) M = some (nI N, M') ∧ (∀ k, M' (20 + 2 * s) k = if i ≤ k ∧ k < N then nv f (fs1 r.2.2.2.1 k) else M (20 + 2 * s) k) ∧ Out (fun c k => c = 20 + 2 * s) M M' := by
  have hgs : gin (nI s) 4 := gin_t hs (by decide)
  have ecs : (nI s).toNatClampNeg = s := nI_clamp (by omega)
  intro d
  induction d with
  | zero =>
    intro i fuel M hi hf2 hR hM
    obtain ⟨k, rfl⟩ : ∃ k, fuel = k + 1 := ⟨fuel - 1, by omega⟩
    have e : i = N := by omega
    subst e
    refine ⟨M, ?_, fun k => by rw [if_neg (by omega)], Out.rfl⟩
    show f_U_write_l81B _ _ _ _ _ _ = _
    unfold f_U_write_l81B
    rw [if_pos (Int32.le_refl _)]
  | succ d ih =>
    intro i fuel M hi hf2 hR hM
    obtain ⟨k, rfl⟩ : ∃ k, fuel = k + 1 := ⟨fuel - 1, by omega⟩
    have hO : Out (fun c k => c = 20 + 2 * s) M (mset M (20 + 2 * s) i (nv f (fs1 r.2.2.2.1 i))) := Out.set rfl
    have hans : f_Report_answerOf (o + 8) M (nI i) = some (fs1 r.2.2.2.1 i) := by
      unfold f_Report_answerOf
      rw [hR.1.1, if_pos h1, if_pos (gin_t (by omega) (by decide)), nI_clamp (by omega), (hR.1.2.fs (by omega)).1]
    obtain ⟨M', b1, b2, b3⟩ := ih (i + 1) k (mset M (20 + 2 * s) i (nv f (fs1 r.2.2.2.1 i))) (by omega) (by omega) (hR.out hO (fun c k q w => by unfold isRun at ho; omega)) (by rw [hO _ _ (by omega)]; exact hM)
    refine ⟨M', ?_, fun q => ?_, hO.trans b3⟩
    · rw [← b1]
      show f_U_write_l81B _ _ _ _ _ _ = _
      unfold f_U_write_l81B
      rw [if_neg (nle (by omega) (by omega)), if_pos hgs, hans, Option.bind_some, ecs, c_assign hs hf (by omega) hM, Option.bind_some, nI_1]
    · rw [b2 q]
      by_cases c : i + 1 ≤ q ∧ q < N
      · rw [if_pos c, if_pos (by omega)]
      · rw [if_neg c]
        by_cases e : q = i
        · rw [if_pos (by omega), e, ms_s]
        · rw [if_neg (by omega), ms_k _ _ e]
theorem m_wrL {s f z n p : Nat} {g : Nat → Int32} (hs : s < 4) (hf : f < 3) (hz : z ≤ 60) (hn : n ≤ 10) (hp : p < 2) : ∀ (d i fuel : Nat) (M : Mem), d + i = min z n → d < fuel → M 121 s = nI z → M 120 s = nI f → M 95 0 = nI n → (∀ k, k < n → M 101 (10 * p + k) = g k) →
    ∃ M', f_Mo_write_l51 fuel (nI p) (nI s) (nI i) M = some (nI (min z n), M') ∧ (∀ k, k < 60 → M' 122 (60 * s + k) = if i ≤ k ∧ k < min z n then nv f (g k) else M 122 (60 * s + k)) ∧ Out (fun c k => c = 122 ∧ 60 * s ≤ k ∧ k < 60 * s + 60) M M' := by
  have hgs : gin (nI s) 4 := gin_t hs (by decide)
  have ecs : (nI s).toNatClampNeg = s := nI_clamp (by omega)
  intro d
  induction d with
  | zero =>
    intro i fuel M hi hf2 h1 h2 h3 h4
    obtain ⟨k, rfl⟩ : ∃ k, fuel = k + 1 := ⟨fuel - 1, by omega⟩
    have e : i = min z n := by omega
    refine ⟨M, ?_, fun k _ => by rw [if_neg (by omega)], Out.rfl⟩
    show f_Mo_write_l51B _ _ _ _ _ = _
    unfold f_Mo_write_l51B f_Mo_write_b94
    rw [if_pos hgs, ecs, h1, cl0, h3]
    by_cases c : z ≤ i
    · rw [if_pos ((nI_leI (by omega) (by omega)).mpr c), e]
    · rw [if_neg (fun q => c ((nI_leI (by omega) (by omega)).mp q)), if_pos ((nI_leI (by omega) (by omega)).mpr (by omega)), e]
  | succ d ih =>
    intro i fuel M hi hf2 h1 h2 h3 h4
    obtain ⟨k, rfl⟩ : ∃ k, fuel = k + 1 := ⟨fuel - 1, by omega⟩
    have hO : Out (fun c k => c = 122 ∧ 60 * s ≤ k ∧ k < 60 * s + 60) M (mset M 122 (60 * s + i) (nv f (g i))) := Out.set ⟨rfl, by omega, by omega⟩
    obtain ⟨M', b1, b2, b3⟩ := ih (i + 1) k (mset M 122 (60 * s + i) (nv f (g i))) (by omega) (by omega) (by rw [hO _ _ (by omega)]; exact h1) (by rw [hO _ _ (by omega)]; exact h2) (by rw [hO _ _ (by omega)]; exact h3) (fun q hq => by rw [hO _ _ (by omega)]; exact h4 q hq)
    refine ⟨M', ?_, fun q hq => ?_, hO.trans b3⟩
    · rw [← b1]
      show f_Mo_write_l51B _ _ _ _ _ = _
      unfold f_Mo_write_l51B
      rw [if_pos hgs, ecs, h1, cl0, h3, if_neg (nle (by omega) (by omega)), if_neg (nle (by omega) (by omega)), show (10 : Int32) = nI 10 from rfl, mul_add_nI, if_pos (gin_t (by omega) (by decide)), nI_clamp (by omega), h4 i (by omega), m_keep hs hf (by omega) h2, Option.bind_some, nI_1]
    · rw [b2 q hq]
      by_cases c : i + 1 ≤ q ∧ q < min z n
      · rw [if_pos c, if_pos (by omega)]
      · rw [if_neg c]
        by_cases e : q = i
        · rw [if_pos (by omega), e, ms_s]
        · rw [if_neg (by omega), ms_k _ _ (by omega)]
theorem op_write {M : Mem} (h : IV D M) (a b : Int32) : OK2 (f_U_write M a b) (fun M1 => f_Mo_write M1 a b) := by
  rcases wp a with ⟨w1, w2⟩ | ⟨p, hp, rfl, w1, w2⟩
  · exact ⟨-2, M, M, by unfold f_U_write; rw [if_pos w1]; rfl, by show f_Mo_write M a b = _; unfold f_Mo_write; rw [if_pos w2]; rfl, D, h⟩
  · rcases wi b (n := 4) (by decide) (by decide) with ⟨y1, y2⟩ | ⟨s, hs, rfl, y1, y2⟩
    · exact ⟨-2, M, M, by unfold f_U_write; rw [if_neg w1, show f_U_within b 4 = 0 from y1, if_pos rfl]; rfl, by show f_Mo_write M (nI p) b = _; unfold f_Mo_write; rw [if_neg w2, show f_Mo_isSheet b = 0 from y2, if_pos rfl]; rfl, D, h⟩
    · have y1' : ¬ f_U_within (nI s) 4 = 0 := y1
      have y2' : ¬ f_Mo_isSheet (nI s) = 0 := y2
      have hgs : gin (nI s) 4 := gin_t hs (by decide)
      have ecs : (nI s).toNatClampNeg = s := nI_clamp (by omega)
      have hgp : gin (nI p) 2 := gin_t hp (by decide)
      have ecp : (nI p).toNatClampNeg = p := nI_clamp (by omega)
      have eU : f_U_write M (nI p) (nI s) = if f_Sheet_isLost (19 + 2 * s) M = 0 then ((f_U_refresh M).bind fun q2 => if q2 (f_U_runOf q2 (nI p) + 8) 4 = -1 then f_U_write_l81 FU (nI s) (f_U_runOf q2 (nI p) + 8) (f_J_min (q2 (19 + 2 * s) 2) (f_U_hosts q2)) 0 q2 else some (-3, q2)) else some ((-10) - 1, mset M 0 7 1) := by
        unfold f_U_write
        rw [if_neg w1, if_neg y1']
        simp only [if_pos hgs]
        rw [ecs]
        rfl
      have eM : ∀ N, f_Mo_write N (nI p) (nI s) = if N 119 s = 0 then some ((-10) - 1, mset N 91 43 1) else (f_Mo_runsTold N).bind fun q2 => if q2 100 p = -1 then f_Mo_write_l51 FU (nI p) (nI s) 0 q2 else some (-3, q2) := fun N => by
        unfold f_Mo_write
        rw [if_neg w2, if_neg y2']
        simp only [if_pos hgs, if_pos hgp]
        rw [ecs, ecp]
        rfl
      unfold OK2
      simp only [eM]
      rw [eU]
      rcases h.2.2.2.2.2.2.2 s hs with ⟨q1, q2⟩ | ⟨q1, f, z, q2, q3, q4, q5, q6, q7, q8⟩
      · rw [if_neg (isLost_y q1)]
        refine ⟨(-10) - 1, mset M 0 7 1, mset (mset M 0 7 1) 91 43 1, rfl, ?_, D, h.fnd 1⟩
        rw [ms_c _ _ (show (119 : Nat) ≠ 0 by decide), q2, if_pos rfl]
      · obtain ⟨M1, a1, a2, a3, a4⟩ := c_refresh h.1 h.2.1 h.2.2.2.2.2.1
        have i1 := h.u a2 a4
        have hE1 := i1.2.1
        have hlo := dO_l h.1
        have k1 : ∀ c k, (c = 19 + 2 * s ∨ c = 20 + 2 * s ∨ 91 ≤ c) → M1 c k = M c k := fun c k hc => a4 _ _ (fun q => by unfold UrP at q; omega)
        have hR := a2.r hp
        have hd := (dP_ok h.1 (e := D.2.2) (p := p) h.1.2.2.2).1
        rw [if_pos (isLost_n q4 (nI_nm1 (by omega))), a1, Option.bind_some, runOf_p hp, hR.1.1]
        by_cases c : (dP D D.2.2 p).1 = -1
        · have hmin : f_J_min (M1 (19 + 2 * s) 2) (f_U_hosts M1) = nI (min z (dO D).length) := by
            unfold f_J_min f_U_hosts
            rw [hE1.1, k1 (19 + 2 * s) 2 (by omega), q6]
            by_cases c2 : (dO D).length < z
            · rw [if_pos ((nI_ltI (by omega) (by omega)).mpr c2), Nat.min_eq_right (by omega)]
            · rw [if_neg (fun q => c2 ((nI_ltI (by omega) (by omega)).mp q)), Nat.min_eq_left (by omega)]
          have hRun : isRun (55 + 12 * p) := by unfold isRun; omega
          obtain ⟨M2, b1, b2, b3⟩ := c_wrL (s := s) (f := f) (N := min z (dO D).length) (o := 55 + 12 * p) hs q2 (by omega) hRun c (Or.inr (by rw [(hd c).1]; omega)) (min z (dO D).length) 0 FU M1 rfl (fuL (by omega)) hR (by rw [k1 _ _ (by omega)]; exact q4)
          have hEM2 : EM D M2 := i1.2.2.2.2.1.out b3 (fun c k q w => by unfold EMP at w; omega)
          obtain ⟨M3, c1, c2, c3, c4⟩ := m_told h.1 hEM2
          have k3 : ∀ c k, (c ≤ 26 ∨ (119 ≤ c ∧ c ≤ 122)) → M3 c k = M2 c k := fun c k hc => c4 _ _ (fun q => by unfold MoS at q; omega)
          obtain ⟨M4, d1, d2, d3⟩ := m_wrL (s := s) (f := f) (z := z) (n := (dO D).length) (p := p) (g := fs1 (dP D D.2.2 p).2.2.2.1) hs q2 q3 hlo hp (min z (dO D).length) 0 FU M3 rfl (fuL (by omega)) (by rw [k3 _ _ (by omega), b3 _ _ (by omega), k1 _ _ (by omega)]; exact q7) (by rw [k3 _ _ (by omega), b3 _ _ (by omega), k1 _ _ (by omega)]; exact q5) c2.2.2.2.1.2.2.1 (fun k hk => c2.ans hp hk c)
          refine ⟨nI (min z (dO D).length), M2, M4, ?_, ?_, D, ?_⟩
          · rw [if_pos c, hmin]
            exact b1
          · rw [b3 _ _ (by omega), k1 _ _ (by omega), q1, if_neg (by decide), c1, Option.bind_some, c2.err hp, if_pos c]
            exact d1
          · have o2 : Out (fun c k => ShP s c k ∨ MoS c k) M1 M4 := ((b3.mono (Q := fun c k => ShP s c k ∨ MoS c k) (fun c k q => Or.inl (Or.inr (Or.inl q)))).trans (c4.mono (fun c k q => Or.inr q))).trans (d3.mono (fun c k q => Or.inl (Or.inr (Or.inr (Or.inr (Or.inl q))))))
            obtain ⟨h1, h2, h3, h4, h5, h6, h7, h8⟩ := i1
            refine ⟨h1, h2.out o2 (fun c k q w => by unfold ShP MoS at q; unfold ECP at w; omega), ⟨by rw [o2 _ _ (fun q => by unfold ShP MoS at q; omega)]; exact h3.1, by rw [o2 _ _ (fun q => by unfold ShP MoS at q; omega)]; exact h3.2.1, by rw [o2 _ _ (fun q => by unfold ShP MoS at q; omega)]; exact h3.2.2⟩, fun t ht k hk => by rw [o2 _ _ (fun q => by unfold ShP MoS at q; omega)]; exact h4 t ht k hk, h5.out o2 (fun c k q w => by unfold ShP MoS at q; unfold EMP at w; omega), fun _ => a2.out o2 (fun c k q w => by unfold ShP MoS at q; omega), by rw [o2 _ _ (fun q => by unfold ShP MoS at q; omega), o2 _ _ (fun q => by unfold ShP MoS at q; omega)]; exact h7, fun r hr => ?_⟩
            by_cases e : r = s
            · subst e
              refine Or.inr ⟨?_, f, z, q2, q3, ?_, ?_, ?_, ?_, fun k hk => ?_⟩
              · rw [d3 _ _ (by omega), k3 _ _ (by omega), b3 _ _ (by omega), k1 _ _ (by omega)]; exact q1
              · rw [d3 _ _ (by omega), k3 _ _ (by omega), b3 _ _ (by omega), k1 _ _ (by omega)]; exact q4
              · rw [d3 _ _ (by omega), k3 _ _ (by omega), b3 _ _ (by omega), k1 _ _ (by omega)]; exact q5
              · rw [d3 _ _ (by omega), k3 _ _ (by omega), b3 _ _ (by omega), k1 _ _ (by omega)]; exact q6
              · rw [d3 _ _ (by omega), k3 _ _ (by omega), b3 _ _ (by omega), k1 _ _ (by omega)]; exact q7
              · rw [d3 _ _ (by omega), k3 _ _ (by omega), b2 k, d2 k hk, k3 _ _ (by omega), b3 _ _ (by omega), k1 _ _ (by omega), k1 _ _ (by omega), q8 k hk]
            · exact (h8 r hr).out hr o2 (fun c k q w => by unfold ShP MoS at q; omega)
        · obtain ⟨M3, c1, c2, c3, c4⟩ := m_told h.1 i1.2.2.2.2.1
          refine ⟨-3, M1, M3, by rw [if_neg c], ?_, D, i1.m c4⟩
          rw [k1 _ _ (by omega), q1, if_neg (by decide), c1, Option.bind_some, c2.err hp, if_neg c]
end WR
