-- ===== read; sheets =====
section SHT
variable {D : DT} {M : Mem}
/-- both note a finding -/
theorem IV.fnd (h : IV D M) (x : Int32) : IV D (mset (mset M 0 7 x) 91 43 x) := by
  obtain ⟨h1, h2, h3, h4, h5, h6, h7, h8⟩ := h
  have o : Out (fun c k => (c = 0 ∧ k = 7) ∨ (c = 91 ∧ k = 43)) M (mset (mset M 0 7 x) 91 43 x) := (Out.set (P := fun c k => (c = 0 ∧ k = 7) ∨ (c = 91 ∧ k = 43)) (Or.inl ⟨rfl, rfl⟩)).trans (Out.set (Or.inr ⟨rfl, rfl⟩))
  exact ⟨h1, h2.out o (fun c k q w => by unfold ECP at w; omega), ⟨by rw [o _ _ (by omega)]; exact h3.1, by rw [o _ _ (by omega)]; exact h3.2.1, by rw [o _ _ (by omega)]; exact h3.2.2⟩, fun t ht k hk => by rw [o _ _ (by omega)]; exact h4 t ht k hk, h5.out o (fun c k q w => by unfold EMP at w; omega), fun q => (h6 (by rw [← o 0 8 (by omega)]; exact q)).out o (fun c k q w => by omega), by rw [ms_c _ _ (show (0 : Nat) ≠ 91 by decide), ms_s, ms_s], fun s hs => (h8 s hs).out hs o (fun c k q w => by omega)⟩
theorem fnd2 (h : IV D M) (x : Int32) : ∃ v M1 M2, (some ((f_U_found M x).1, (f_U_found M x).2) : Option (Int32 × Mem)) = some (v, M1) ∧ (some ((f_Mo_meets M1 x).1, (f_Mo_meets M1 x).2) : Option (Int32 × Mem)) = some (v, M2) ∧ ∃ D, IV D M2 := ⟨(-10) - x, mset M 0 7 x, mset (mset M 0 7 x) 91 43 x, rfl, rfl, D, h.fnd x⟩
/-- a change of one sheet -/
def ShP (s c k : Nat) : Prop := c = 19 + 2 * s ∨ c = 20 + 2 * s ∨ ((c = 119 ∨ c = 120 ∨ c = 121) ∧ k = s) ∨ (c = 122 ∧ 60 * s ≤ k ∧ k < 60 * s + 60) ∨ c = 123
theorem IV.sh (h : IV D M) {s : Nat} (hs : s < 4) {M' : Mem} (o : Out (ShP s) M M') (hS : SHs M' s) : IV D M' := by
  obtain ⟨h1, h2, h3, h4, h5, h6, h7, h8⟩ := h
  refine ⟨h1, h2.out o (fun c k q w => by unfold ShP at q; unfold ECP at w; omega), ⟨by rw [o _ _ (fun q => by unfold ShP at q; omega)]; exact h3.1, by rw [o _ _ (fun q => by unfold ShP at q; omega)]; exact h3.2.1, by rw [o _ _ (fun q => by unfold ShP at q; omega)]; exact h3.2.2⟩, fun t ht k hk => by rw [o _ _ (fun q => by unfold ShP at q; omega)]; exact h4 t ht k hk, h5.out o (fun c k q w => by unfold ShP at q; unfold EMP at w; omega), fun q => (h6 (by rw [← o 0 8 (fun q => by unfold ShP at q; omega)]; exact q)).out o (fun c k q w => by unfold ShP at q; omega), by rw [o _ _ (fun q => by unfold ShP at q; omega), o _ _ (fun q => by unfold ShP at q; omega)]; exact h7, fun r hr => ?_⟩
  by_cases e : r = s
  · rw [e]; exact hS
  · exact (h8 r hr).out hr o (fun c k q w => by unfold ShP at q; omega)
theorem isLost_n {M : Mem} {o : Nat} {x : Int32} (h : M o 1 = x) (hx : ¬ x = -1) : f_Sheet_isLost o M = 0 := by unfold f_Sheet_isLost; rw [h, if_neg hx]
theorem isLost_y {M : Mem} {o : Nat} (h : M o 1 = -1) : ¬ f_Sheet_isLost o M = 0 := by unfold f_Sheet_isLost; rw [h, if_pos rfl]; decide
theorem op_read (h : IV D M) (a b : Int32) : OK2 (f_U_read M a b) (fun M1 => f_Mo_read M1 a b) := by
  rcases wi a (n := 3) (by decide) (by decide) with ⟨w1, w2⟩ | ⟨t, ht, rfl, w1, w2⟩
  · exact ⟨-2, M, M, by unfold f_U_read; rw [show f_U_within a 3 = 0 from w1, if_pos rfl]; rfl, by show f_Mo_read M a b = _; unfold f_Mo_read; rw [show f_Mo_isText a = 0 from w2, if_pos rfl]; rfl, D, h⟩
  · have w1' : ¬ f_U_within (nI t) 3 = 0 := w1
    have w2' : ¬ f_Mo_isText (nI t) = 0 := w2
    rcases wi b (n := 4) (by decide) (by decide) with ⟨y1, y2⟩ | ⟨s, hs, rfl, y1, y2⟩
    · exact ⟨-2, M, M, by unfold f_U_read; rw [if_neg w1', show f_U_within b 4 = 0 from y1, if_pos rfl]; rfl, by show f_Mo_read M (nI t) b = _; unfold f_Mo_read; rw [if_neg w2', show f_Mo_isSheet b = 0 from y2, if_pos rfl]; rfl, D, h⟩
    · have y1' : ¬ f_U_within (nI s) 4 = 0 := y1
      have y2' : ¬ f_Mo_isSheet (nI s) = 0 := y2
      have hgt : gin (nI t) 3 := gin_t ht (by decide)
      have hgs : gin (nI s) 4 := gin_t hs (by decide)
      have ect : (nI t).toNatClampNeg = t := nI_clamp (by omega)
      have ecs : (nI s).toNatClampNeg = s := nI_clamp (by omega)
      have eU : f_U_read M (nI t) (nI s) = if f_Sheet_isLost (19 + 2 * s) M = 0 then ((f_Text_appendFrom (13 + 2 * t) (19 + 2 * s) M).bind fun q4 => (f_U_understand q4.2 (nI t)).bind fun q5 => some (q4.1, q5)) else some ((f_U_found M 1).1, (f_U_found M 1).2) := by
        unfold f_U_read
        rw [if_neg w1', if_neg y1']
        simp only [if_pos hgt, if_pos hgs]
        rw [ect, ecs]
        rfl
      have eM : ∀ N, f_Mo_read N (nI t) (nI s) = if N 119 s = 0 then some ((f_Mo_meets N 1).1, (f_Mo_meets N 1).2) else f_Mo_read_l34 FU (nI t) (nI s) 0 N := fun N => by
        unfold f_Mo_read
        rw [if_neg w2', if_neg y2']
        simp only [if_pos hgs]
        rw [ecs]
        rfl
      unfold OK2
      simp only [eM]
      rw [eU]
      obtain ⟨s1, s2, s3, s4⟩ := h.sz ht
      rcases h.2.2.2.2.2.2.2 s hs with ⟨q1, q2⟩ | ⟨q1, f, z, q2, q3, q4, q5, q6, q7, q8⟩
      · rw [if_neg (isLost_y q1)]
        refine ⟨(-10) - 1, mset M 0 7 1, mset (mset M 0 7 1) 91 43 1, rfl, ?_, D, h.fnd 1⟩
        rw [ms_c _ _ (show (119 : Nat) ≠ 0 by decide), q2, if_pos rfl]
        rfl
      · rw [if_pos (isLost_n q4 (nI_nm1 (by omega)))]
        obtain ⟨M1, a1, a2, a3, a4⟩ := c_readL (it := M (20 + 2 * s)) ht hs q3 z 0 FU (D.1 t) M rfl (fuL (by omega)) q6 (fun k _ => rfl) s1 s3
        have hle := rdn_le (it := M (20 + 2 * s)) (r := rm t) z 0 (D.1 t) (M (14 + 2 * t)) s3
        obtain ⟨M2, b1, b2, b3, b4⟩ := IV_chg (M1 := M1) (n' := (rdn (M (20 + 2 * s)) (rm t) z 0 (D.1 t) (M (14 + 2 * t))).2.1) h ht hle.1 a2 a4
        have k2 : ∀ c k, (91 ≤ c) → M2 c k = M c k := fun c k hc => by rw [b3 _ _ (Or.inr (Or.inr hc)), a4 _ _ (by omega)]
        obtain ⟨M3, c1, c2, c3, c4⟩ := m_readL (it := M (20 + 2 * s)) ht hs q3 z 0 FU (D.1 t) (M (14 + 2 * t)) M2 rfl (fuL (by omega)) (by rw [k2 _ _ (by omega)]; exact q7) (fun k hk => by rw [k2 _ _ (by omega), q8 k hk]) (by rw [k2 _ _ (by omega)]; exact s2) s3 (fun k hk => by rw [k2 _ _ (by omega)]; exact s4 k hk)
        refine ⟨nI (rdn (M (20 + 2 * s)) (rm t) z 0 (D.1 t) (M (14 + 2 * t))).1, M2, M3, ?_, ?_, b4 M3 c4 c2 (fun k hk => by rw [c3 k hk, a3])⟩
        · show (f_Text_appendFrom_l2 (13 + 2 * t) (19 + 2 * s) FU (nI 0) M).bind _ = _
          rw [a1, Option.bind_some]
          show (f_U_understand M1 (nI t)).bind _ = _
          rw [b1]
          rfl
        · rw [k2 _ _ (by omega), q1, if_neg (by decide)]
          exact c1
theorem m_shL {s : Nat} {x : Int32} (hs : s < 4) : ∀ (d i fuel : Nat) (M : Mem), d + i = 60 → d < fuel → (∀ k, k < i → M 122 (60 * s + k) = 0) → ∃ M', f_Mo_sheet_l59 fuel (nI s) x (nI i) M = some (x, M') ∧ (∀ k, k < 60 → M' 122 (60 * s + k) = 0) ∧ Out (fun c k => c = 122 ∧ 60 * s ≤ k ∧ k < 60 * s + 60) M M' := by
  intro d
  induction d with
  | zero =>
    intro i fuel M hi hf h
    obtain ⟨k, rfl⟩ : ∃ k, fuel = k + 1 := ⟨fuel - 1, by omega⟩
    have e : i = 60 := by omega
    subst e
    refine ⟨M, ?_, h, Out.rfl⟩
    show f_Mo_sheet_l59B _ _ _ _ _ = _
    unfold f_Mo_sheet_l59B
    rw [if_pos (show (60 : Int32) ≤ nI 60 by decide)]
  | succ d ih =>
    intro i fuel M hi hf h
    obtain ⟨k, rfl⟩ : ∃ k, fuel = k + 1 := ⟨fuel - 1, by omega⟩
    have hO : Out (fun c k => c = 122 ∧ 60 * s ≤ k ∧ k < 60 * s + 60) M (mset M 122 (60 * s + i) 0) := Out.set ⟨rfl, by omega, by omega⟩
    obtain ⟨M', b1, b2, b3⟩ := ih (i + 1) k (mset M 122 (60 * s + i) 0) (by omega) (by omega) (fun q hq => by
      by_cases e : q = i
      · rw [e, ms_s]
      · rw [ms_k _ _ (by omega)]; exact h q (by omega))
    refine ⟨M', ?_, b2, hO.trans b3⟩
    rw [← b1]
    show f_Mo_sheet_l59B _ _ _ _ _ = _
    unfold f_Mo_sheet_l59B
    rw [if_neg (show ¬ (60 : Int32) ≤ nI i from nle (N := 60) (by omega) (by decide)), show (60 : Int32) = nI 60 from rfl, mul_add_nI, if_pos (gin_t (by omega) (by decide)), bn, nI_clamp (by omega), nI_1]
theorem op_sheet (h : IV D M) (a b c : Int32) : OK2 (f_U_sheet M a b c) (fun M1 => f_Mo_sheet M1 a b c) := by
  rcases wi a (n := 4) (by decide) (by decide) with ⟨w1, w2⟩ | ⟨s, hs, rfl, w1, w2⟩
  · exact ⟨-2, M, M, by unfold f_U_sheet; rw [show f_U_within a 4 = 0 from w1, if_pos rfl]; rfl, by show f_Mo_sheet M a b c = _; unfold f_Mo_sheet; rw [show f_Mo_isSheet a = 0 from w2, if_pos rfl]; rfl, D, h⟩
  · have w1' : ¬ f_U_within (nI s) 4 = 0 := w1
    have w2' : ¬ f_Mo_isSheet (nI s) = 0 := w2
    rcases wi b (n := 3) (by decide) (by decide) with ⟨y1, y2⟩ | ⟨f, hf, rfl, y1, y2⟩
    · exact ⟨-2, M, M, by unfold f_U_sheet; rw [if_neg w1', show f_U_within b 3 = 0 from y1, if_pos rfl]; rfl, by show f_Mo_sheet M (nI s) b c = _; unfold f_Mo_sheet; rw [if_neg w2', show f_Mo_in b 0 2 = 0 from y2, if_pos rfl]; rfl, D, h⟩
    · have y1' : ¬ f_U_within (nI f) 3 = 0 := y1
      have y2' : ¬ f_Mo_in (nI f) 0 2 = 0 := y2
      have hgs : gin (nI s) 4 := gin_t hs (by decide)
      have ecs : (nI s).toNatClampNeg = s := nI_clamp (by omega)
      by_cases c1 : c ≤ 60
      · by_cases c2 : 0 ≤ c
        · obtain ⟨z, hz, e⟩ : ∃ z, z ≤ 60 ∧ c = nI z := by
            obtain ⟨j, hj, e⟩ := nI_of2 (M := 60) (n := 60) (by decide) (fun q => absurd c2 (Int32.not_le.mpr q)) c1
            exact ⟨j, hj, e⟩
          subst e
          obtain ⟨M1, a1, a2, a3⟩ := u_fill (c := 20 + 2 * s) (x := 0) (M := mset (mset M (19 + 2 * s) 1 (nI f)) (19 + 2 * s) 2 (nI z)) (by
            have hc : s = 0 ∨ s = 1 ∨ s = 2 ∨ s = 3 := by omega
            rcases hc with rfl | rfl | rfl | rfl <;> decide)
          have hln : ln (20 + 2 * s) = 60 := by
            have hc : s = 0 ∨ s = 1 ∨ s = 2 ∨ s = 3 := by omega
            rcases hc with rfl | rfl | rfl | rfl <;> rfl
          obtain ⟨M2, b1, b2, b3⟩ := m_shL (x := nI z) hs 60 0 FU (mset (mset (mset M1 119 s 1) 120 s (nI f)) 121 s (nI z)) rfl (fuL (by decide)) (fun k hk => absurd hk (Nat.not_lt_zero k))
          have hk : ∀ c k, ¬ (c = 122 ∧ 60 * s ≤ k ∧ k < 60 * s + 60) → ¬ (c = 119 ∨ c = 120 ∨ c = 121) → M2 c k = M1 c k := fun c k h1 h2 => by rw [b3 _ _ h1, ms_c _ _ (by omega), ms_c _ _ (by omega), ms_c _ _ (by omega)]
          refine ⟨nI z, M1, M2, ?_, ?_, D, h.sh hs (M' := M2) ?_ (Or.inr ⟨?_, f, z, hf, hz, ?_, ?_, ?_, ?_, fun k hk2 => ?_⟩)⟩
          · unfold f_U_sheet f_Sheet_renew
            rw [if_neg w1', if_neg y1', if_pos c1, if_pos c2, if_pos hgs, ecs, bn, bn]
            show ((f_J_fill (19 + 2 * s + 1) _ 0).bind _).bind _ = _
            rw [show 19 + 2 * s + 1 = 20 + 2 * s by omega, a1]
            rfl
          · show f_Mo_sheet M1 (nI s) (nI f) (nI z) = _
            unfold f_Mo_sheet
            rw [if_neg w2', if_neg y2', if_pos c1, if_pos c2]
            simp only [if_pos hgs]
            rw [ecs, bn, bn, bn]
            exact b1
          · exact (((Out.set (P := ShP s) (Or.inl rfl)).trans (Out.set (Or.inl rfl))).trans (a3.mono (fun c k q => Or.inr (Or.inl q)))).trans ((((Out.set (P := ShP s) (by unfold ShP; omega)).trans (Out.set (by unfold ShP; omega))).trans (Out.set (by unfold ShP; omega))).trans (b3.mono (fun c k q => by unfold ShP; omega)))
          · rw [b3 _ _ (by omega), ms_c _ _ (by decide), ms_c _ _ (by decide), ms_s]
          · rw [hk _ _ (by omega) (by omega), a3 _ _ (by omega), ms_k _ _ (by decide), ms_s]
          · rw [b3 _ _ (by omega), ms_c _ _ (by decide), ms_s]
          · rw [hk _ _ (by omega) (by omega), a3 _ _ (by omega), ms_s]
          · rw [b3 _ _ (by omega), ms_s]
          · rw [hk _ _ (by omega) (by omega), a2 k (by rw [hln]; exact hk2), b2 k hk2]
        · refine ⟨(-10) - 5, mset M 0 7 5, mset (mset M 0 7 5) 91 43 5, ?_, ?_, D, h.fnd 5⟩
          · unfold f_U_sheet
            rw [if_neg w1', if_neg y1', if_pos c1, if_neg c2]; rfl
          · show f_Mo_sheet _ (nI s) (nI f) c = _
            unfold f_Mo_sheet
            rw [if_neg w2', if_neg y2', if_pos c1, if_neg c2]; rfl
      · refine ⟨-2, M, M, ?_, ?_, D, h⟩
        · unfold f_U_sheet
          rw [if_neg w1', if_neg y1', if_neg c1]; rfl
        · show f_Mo_sheet M (nI s) (nI f) c = _
          unfold f_Mo_sheet
          rw [if_neg w2', if_neg y2', if_neg c1]; rfl
theorem op_lose (h : IV D M) (a : Int32) : OK2 (f_U_lose M a) (fun M1 => f_Mo_lose M1 a) := by
  rcases wi a (n := 4) (by decide) (by decide) with ⟨w1, w2⟩ | ⟨s, hs, rfl, w1, w2⟩
  · exact ⟨-2, M, M, by unfold f_U_lose; rw [show f_U_within a 4 = 0 from w1, if_pos rfl], by show f_Mo_lose M a = _; unfold f_Mo_lose; rw [show f_Mo_isSheet a = 0 from w2, if_pos rfl], D, h⟩
  · have w1' : ¬ f_U_within (nI s) 4 = 0 := w1
    have w2' : ¬ f_Mo_isSheet (nI s) = 0 := w2
    have hgs : gin (nI s) 4 := gin_t hs (by decide)
    have ecs : (nI s).toNatClampNeg = s := nI_clamp (by omega)
    have eU : f_U_lose M (nI s) = if f_Sheet_isLost (19 + 2 * s) M = 0 then some (M (19 + 2 * s) 2, f_Sheet_forget (19 + 2 * s) M) else some ((f_U_found M 1).1, (f_U_found M 1).2) := by
      unfold f_U_lose
      rw [if_neg w1']
      simp only [if_pos hgs]
      rw [ecs]
      rfl
    have eM : ∀ N, f_Mo_lose N (nI s) = if N 119 s = 0 then some ((f_Mo_meets N 1).1, (f_Mo_meets N 1).2) else some (mset N 119 s 0 121 s, mset N 119 s 0) := fun N => by
      unfold f_Mo_lose
      rw [if_neg w2']
      simp only [if_pos hgs]
      rw [ecs]
      rfl
    unfold OK2
    simp only [eM]
    rw [eU]
    rcases h.2.2.2.2.2.2.2 s hs with ⟨q1, q2⟩ | ⟨q1, f, z, q2, q3, q4, q5, q6, q7, q8⟩
    · rw [if_neg (isLost_y q1)]
      refine ⟨(-10) - 1, mset M 0 7 1, mset (mset M 0 7 1) 91 43 1, rfl, ?_, D, h.fnd 1⟩
      rw [ms_c _ _ (show (119 : Nat) ≠ 0 by decide), q2, if_pos rfl]
      rfl
    · rw [if_pos (isLost_n q4 (nI_nm1 (by omega)))]
      have o : Out (ShP s) M (mset (mset (mset M (19 + 2 * s) 1 (-1)) (19 + 2 * s) 2 0) 119 s 0) := ((Out.set (P := ShP s) (Or.inl rfl)).trans (Out.set (Or.inl rfl))).trans (Out.set (by unfold ShP; omega))
      refine ⟨nI z, mset (mset M (19 + 2 * s) 1 (-1)) (19 + 2 * s) 2 0, mset (mset (mset M (19 + 2 * s) 1 (-1)) (19 + 2 * s) 2 0) 119 s 0, ?_, ?_, D, h.sh hs o (Or.inl ⟨?_, ms_s _ _ _ _⟩)⟩
      · rw [q6]; rfl
      · rw [ms_c _ _ (show 119 ≠ 19 + 2 * s by omega), ms_c _ _ (show 119 ≠ 19 + 2 * s by omega), q1, if_neg (by decide), ms_c _ _ (show (121 : Nat) ≠ 119 by decide), ms_c _ _ (show 121 ≠ 19 + 2 * s by omega), ms_c _ _ (show 121 ≠ 19 + 2 * s by omega), q7]
      · rw [ms_c _ _ (show 19 + 2 * s ≠ 119 by omega), ms_k _ _ (by decide), ms_s]
end SHT
