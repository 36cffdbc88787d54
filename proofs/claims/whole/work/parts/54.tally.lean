-- ===== tallies of the class and of the reference =====
def TA (n : Nat) (t a : Nat → Int32) : Prop := ∃ p S c : Nat, p ≤ n ∧ S ≤ 400 * n ∧ c ≤ n ∧ t 0 = nI n ∧ a 0 = nI n ∧ t 1 = nI p ∧ a 1 = nI p ∧ t 2 = nI S ∧ a 2 = nI S ∧ t 3 = a 3 ∧ t 4 = a 4 ∧ VV 400 (a 3) ∧ VV 400 (a 4) ∧ a 5 = nI c ∧ t 5 = (if c = 0 then 0 else 1) ∧ (n ≤ 1 → a 6 = if p = 0 then -1 else nI S)
theorem TA_0 : TA 0 tl0 af0 := ⟨0, 0, 0, by omega, by omega, by omega, rfl, rfl, rfl, rfl, rfl, rfl, rfl, rfl, VV.m1, VV.m1, rfl, rfl, fun _ => rfl⟩
theorem VV.min {B : Nat} {u v : Int32} (hu : VV B u) (hv : VV B v) : VV B (if u = -1 then v else if u ≤ v then u else v) := by
  split
  · exact hv
  · split
    · exact hu
    · exact hv
theorem TA_s {n : Nat} {t a : Nat → Int32} {hv v : Int32} (h : TA n t a) (hV : VV 400 v) (hn : n < 500) : TA (n + 1) (tk hv v t) (af1 hv v a) := by
  obtain ⟨p, S, c, b1, b2, b3, t0, a0, t1, a1, t2, a2, t3, t4, v3, v4, a5, t5, h6⟩ := h
  have hm1 : ∀ {y : Int32}, VV 400 y → (-1 : Int32) ≤ y := by
    intro y hy
    obtain ⟨b, hb, rfl⟩ := hy
    rw [← kI_0]
    exact (kI_le (by decide) (by omega)).mpr (Nat.zero_le _)
  by_cases hv1 : v = -1
  · subst hv1
    refine ⟨p, S, c, by omega, by omega, by omega, ?_, ?_, ?_, ?_, ?_, ?_, ?_, ?_, ?_, ?_, ?_, ?_, ?_⟩
    · show (if (-1 : Int32) = -1 then (if (0 : Nat) = 0 then t 0 + 1 else t 0) else _) = _
      rw [if_pos rfl, if_pos rfl, t0, nI_1]
    · show a 0 + 1 = _; rw [a0, nI_1]
    · exact t1
    · show a 1 + (if (-1 : Int32) = -1 then 0 else 1) = _
      rw [if_pos rfl, Int32.add_zero, a1]
    · exact t2
    · show a 2 + (if (-1 : Int32) = -1 then 0 else -1) = _
      rw [if_pos rfl, Int32.add_zero, a2]
    · exact t3
    · show t 4 = if (-1 : Int32) ≤ a 4 then a 4 else -1
      rw [if_pos (hm1 v4), t4]
    · exact v3
    · show VV 400 (if (-1 : Int32) ≤ a 4 then a 4 else -1)
      rw [if_pos (hm1 v4)]; exact v4
    · show a 5 + (if (-1 : Int32) = -1 then 0 else _) = _
      rw [if_pos rfl, Int32.add_zero, a5]
    · exact t5
    · intro hle
      have h0 : p = 0 := by omega
      show (-1 : Int32) = _
      rw [if_pos h0]
  · obtain ⟨b, hb, rfl⟩ := hV
    have hb0 : b ≠ 0 := fun q => hv1 (by rw [q]; exact kI_0)
    obtain ⟨e, rfl⟩ : ∃ e, b = e + 1 := ⟨b - 1, by omega⟩
    have hVV : VV 400 (kI (e + 1)) := ⟨e + 1, hb, rfl⟩
    refine ⟨p + 1, S + e, if kI (e + 1) = hv then c + 1 else c, by omega, by omega, by split <;> omega, ?_, ?_, ?_, ?_, ?_, ?_, ?_, ?_, ?_, ?_, ?_, ?_, ?_⟩
    · show (if kI (e + 1) = -1 then _ else (if (0 : Nat) = 0 then t 0 + 1 else _)) = _
      rw [if_neg hv1, if_pos rfl, t0, nI_1]
    · show a 0 + 1 = _; rw [a0, nI_1]
    · show (if kI (e + 1) = -1 then t 1 else t 1 + 1) = _
      rw [if_neg hv1, t1, nI_1]
    · show a 1 + (if kI (e + 1) = -1 then 0 else 1) = _
      rw [if_neg hv1, a1, nI_1]
    · show (if kI (e + 1) = -1 then t 2 else t 2 + kI (e + 1)) = _
      rw [if_neg hv1, t2, kI_s, nI_add]
    · show a 2 + (if kI (e + 1) = -1 then 0 else kI (e + 1)) = _
      rw [if_neg hv1, a2, kI_s, nI_add]
    · show (if kI (e + 1) = -1 then t 3 else (if t 3 = -1 then kI (e + 1) else if t 3 ≤ kI (e + 1) then t 3 else kI (e + 1))) = (if kI (e + 1) = -1 then a 3 else if a 3 = -1 then kI (e + 1) else if a 3 ≤ kI (e + 1) then a 3 else kI (e + 1))
      rw [if_neg hv1, if_neg hv1, t3]
    · show (if kI (e + 1) = -1 then t 4 else (if kI (e + 1) ≤ t 4 then t 4 else kI (e + 1))) = (if kI (e + 1) ≤ a 4 then a 4 else kI (e + 1))
      rw [if_neg hv1, t4]
    · show VV 400 (if kI (e + 1) = -1 then a 3 else if a 3 = -1 then kI (e + 1) else if a 3 ≤ kI (e + 1) then a 3 else kI (e + 1))
      rw [if_neg hv1]
      exact v3.min hVV
    · show VV 400 (if kI (e + 1) ≤ a 4 then a 4 else kI (e + 1))
      split
      · exact v4
      · exact hVV
    · show a 5 + (if kI (e + 1) = -1 then 0 else if kI (e + 1) = hv then 1 else 0) = _
      rw [if_neg hv1, a5]
      by_cases hh : kI (e + 1) = hv
      · rw [if_pos hh, if_pos hh, nI_1]
      · rw [if_neg hh, if_neg hh, Int32.add_zero]
    · show (if kI (e + 1) = -1 then t 5 else (if t 5 = 0 then (if kI (e + 1) = hv then 1 else 0) else 1)) = _
      rw [if_neg hv1, t5]
      by_cases hh : kI (e + 1) = hv
      · rw [if_pos hh, if_pos hh, if_neg (show ¬ c + 1 = 0 by omega)]
        by_cases hc : c = 0
        · rw [if_pos hc, if_pos rfl]
        · rw [if_neg hc, if_neg (by decide)]
      · rw [if_neg hh, if_neg hh]
        by_cases hc : c = 0
        · rw [if_pos hc, if_pos rfl]
        · rw [if_neg hc, if_neg (by decide)]
    · intro hle
      have hn0 : n = 0 := by omega
      have hS0 : S = 0 := by omega
      show kI (e + 1) = _
      rw [if_neg (by omega), hS0, kI_s, Nat.zero_add]
def tkp (pr hv : Int32) (t : Nat → Int32) (y : T3) : Nat → Int32 := if y.2.2 = pr then tk hv y.2.1 t else t
theorem TA_f {pr hv : Int32} : ∀ (l : List T3) (t a : Nat → Int32) (n : Nat), (∀ y, y ∈ l → VV 400 y.2.1) → n + l.length ≤ 500 → TA n t a → ∃ n', n' ≤ n + l.length ∧ TA n' (l.foldl (tkp pr hv) t) (l.foldl (af pr hv) a) := by
  intro l
  induction l with
  | nil => intro t a n _ _ h; exact ⟨n, by omega, h⟩
  | cons y l ih =>
    intro t a n hl hn h
    have hn' : n + (l.length + 1) ≤ 500 := hn
    show ∃ n', n' ≤ n + (l.length + 1) ∧ TA n' (l.foldl (tkp pr hv) (if y.2.2 = pr then tk hv y.2.1 t else t)) (l.foldl (af pr hv) (if y.2.2 = pr then af1 hv y.2.1 a else a))
    by_cases hp : y.2.2 = pr
    · rw [if_pos hp, if_pos hp]
      obtain ⟨n', h1, h2⟩ := ih (tk hv y.2.1 t) (af1 hv y.2.1 a) (n + 1) (fun z hz => hl z (List.mem_cons_of_mem _ hz)) (by omega) (TA_s h (hl y List.mem_cons_self) (by omega))
      exact ⟨n', by omega, h2⟩
    · rw [if_neg hp, if_neg hp]
      obtain ⟨n', h1, h2⟩ := ih t a n (fun z hz => hl z (List.mem_cons_of_mem _ hz)) (by omega) h
      exact ⟨n', by omega, h2⟩
theorem tkp_all {pr hv : Int32} : ∀ (l : List T3) (t : Nat → Int32), (∀ y, y ∈ l → y.2.2 = pr) → l.foldl (fun t y => tk hv y.2.1 t) t = l.foldl (tkp pr hv) t := by
  intro l
  induction l with
  | nil => intro t _; rfl
  | cons y l ih =>
    intro t h
    show l.foldl _ (tk hv y.2.1 t) = l.foldl _ (if y.2.2 = pr then tk hv y.2.1 t else t)
    rw [if_pos (h y List.mem_cons_self)]
    exact ih _ (fun z hz => h z (List.mem_cons_of_mem _ hz))
theorem Nice.nn {e : Nat} {f : UInt32} (h : Nice e f) (he : e ≤ 200) : ∃ k, k < 2 ^ 31 ∧ UInt32.toInt32 f = nI k := by
  rcases h with h | ⟨E, t, h1, h2, h3, h4⟩
  · exact ⟨0, by decide, by rw [h]; rfl⟩
  · exact ⟨E * 2 ^ 23 + t, by omega, by rw [h4]; rfl⟩
/-- what a tally comes to, by class and reference -/
theorem outc {n e : Nat} {t a : Nat → Int32} {hv hv' : Int32} (h : TA n t a) (hn : n ≤ 300) (he : e < 9) (hh : (e = 7 ∨ e = 8) → hv = hv') :
    (f_Tally_isError 0 (tmM t) (nI e) = 0 ∧ ∃ (r : Int32) (mn : UInt32), f_Tally_outcome 0 (tmM t) (nI e) hv = some r ∧ f_Tally_mean 0 (tmM t) = some mn ∧ afin (nI e) hv' a = some r ∧ ¬ r = -2 ∧ Nice 144 mn ∧ (e = 4 → ¬ r = -1 → UInt32.toInt32 mn = r)) ∨
    (¬ f_Tally_isError 0 (tmM t) (nI e) = 0 ∧ afin (nI e) hv' a = some (-2)) := by
  obtain ⟨p, S, c, b1, b2, b3, t0, a0, t1, a1, t2, a2, t3, t4, v3, v4, a5, t5, h6⟩ := h
  have p0 : (nI p ≤ 0) ↔ p = 0 := by rw [show (0 : Int32) = nI 0 from rfl, nI_leI (by omega) (by decide)]; omega
  have n0 : (nI n ≤ 0) ↔ n = 0 := by rw [show (0 : Int32) = nI 0 from rfl, nI_leI (by omega) (by decide)]; omega
  have n00 : (nI n = 0) ↔ n = 0 := nI_eq (b := 0) (by omega) (by decide)
  have n1 : (nI n ≤ 1) ↔ n ≤ 1 := nI_leI (b := 1) (by omega) (by decide)
  have c0 : (nI c ≤ 0) ↔ c = 0 := by rw [show (0 : Int32) = nI 0 from rfl, nI_leI (by omega) (by decide)]; omega
  have p00 : (nI p = 0) ↔ p = 0 := nI_eq (b := 0) (by omega) (by decide)
  have nm : ∀ {k : Nat}, k < 2 ^ 31 → ¬ nI k = -2 := fun hk q => by
    have := congrArg Int32.toInt q
    rw [nI_toInt hk, show (-2 : Int32).toInt = -2 by decide] at this
    omega
  -- the mean
  have hmean : ∃ mn, f_Tally_mean 0 (tmM t) = some mn ∧ Nice 144 mn ∧ (¬ p = 0 → f_U_bitsOf mn = some (UInt32.toInt32 mn) ∧ f_Mo_divided (nI S) (nI p) = some (UInt32.toInt32 mn)) := by
    unfold f_Tally_mean tmM
    simp only [t1, t2]
    by_cases hp : p = 0
    · rw [if_pos (p0.mpr hp)]
      exact ⟨_, rfl, Or.inl rfl, fun q => absurd hp q⟩
    · obtain ⟨m1, m2, m3, m4⟩ := fl_mean (S := S) (n := p) (by omega) (by omega) (by omega)
      rw [if_neg (fun q => hp (p0.mp q)), if_pos m1]
      exact ⟨_, rfl, m2, fun _ => ⟨m3, m4⟩⟩
  obtain ⟨mn, hm1, hm2, hm3⟩ := hmean
  have hisIn : f_Tally_isIn 0 (tmM t) hv = mch hv a := by
    unfold f_Tally_isIn f_Tally_isIn_b32 f_Tally_isIn_b36 mch tmM
    simp only [t5, t0, t1, a5, a0, a1]
    by_cases hc : c = 0
    · rw [if_pos hc, if_pos rfl, if_pos (c0.mpr hc)]
    · rw [if_neg hc, if_neg (by decide), if_neg (fun q => hc (c0.mp q))]
  have hmch : ¬ mch hv' a = -2 ∧ (mch hv' a = 0 ∨ mch hv' a = 1 ∨ mch hv' a = -1) := by
    unfold mch
    repeat' split
    all_goals decide
  have hne : ¬ e = 5 → f_Tally_isError 0 (tmM t) (nI e) = 0 := fun h5 => by
    unfold f_Tally_isError f_Tally_isError_b17
    rw [if_neg (show ¬ nI e = 5 from fun q => h5 ((nI_eq (b := 5) (by omega) (by decide)).mp q))]
  have hV2 : ∀ {y : Int32}, VV 400 y → ¬ y = -2 := fun hy => hy.n2 (by decide)
  have htm : ∀ k, tmM t 0 k = t k := fun _ => rfl
  have hcase : e = 0 ∨ e = 1 ∨ e = 2 ∨ e = 3 ∨ e = 4 ∨ e = 5 ∨ e = 6 ∨ e = 7 ∨ e = 8 := by omega
  have hE : tmE (nI e) 91 10 = nI e := rfl
  rcases hcase with rfl | rfl | rfl | rfl | rfl | rfl | rfl | rfl | rfl
  · refine Or.inl ⟨hne (by decide), nI n, mn, ?_, hm1, ?_, nm (by omega), hm2, fun q => absurd q (by decide)⟩
    · show some (t 0) = _; rw [t0]
    · show some (a 0) = _; rw [a0]
  · refine Or.inl ⟨hne (by decide), if p = 0 then -1 else nI S, mn, ?_, hm1, ?_, ?_, hm2, fun q => absurd q (by decide)⟩
    · show (if t 1 ≤ 0 then some (-1) else some (t 2)) = _
      rw [t1, t2]
      by_cases hp : p = 0
      · rw [if_pos hp, if_pos (p0.mpr hp)]
      · rw [if_neg hp, if_neg (fun q => hp (p0.mp q))]
    · show (if a 1 = 0 then some (-1) else some (a 2)) = _
      rw [a1, a2]
      by_cases hp : p = 0
      · rw [if_pos hp, if_pos (p00.mpr hp)]
      · rw [if_neg hp, if_neg (fun q => hp (p00.mp q))]
    · split
      · decide
      · exact nm (by omega)
  · refine Or.inl ⟨hne (by decide), a 3, mn, ?_, hm1, rfl, hV2 v3, hm2, fun q => absurd q (by decide)⟩
    show some (t 3) = _; rw [t3]
  · refine Or.inl ⟨hne (by decide), a 4, mn, ?_, hm1, rfl, hV2 v4, hm2, fun q => absurd q (by decide)⟩
    show some (t 4) = _; rw [t4]
  · by_cases hp : p = 0
    · refine Or.inl ⟨hne (by decide), -1, mn, ?_, hm1, ?_, by decide, hm2, fun _ q => absurd rfl q⟩
      · show (if t 1 ≤ 0 then some (-1) else _) = _
        rw [t1, if_pos (p0.mpr hp)]
      · show (if a 1 = 0 then some (-1) else _) = _
        rw [a1, if_pos (p00.mpr hp)]
    · obtain ⟨m3, m4⟩ := hm3 hp
      refine Or.inl ⟨hne (by decide), UInt32.toInt32 mn, mn, ?_, hm1, ?_, ?_, hm2, fun _ _ => rfl⟩
      · show (if t 1 ≤ 0 then some (-1) else (f_Tally_mean 0 (tmM t)).bind fun q7 => (f_U_bitsOf q7).bind fun q8 => some q8) = _
        rw [t1, if_neg (fun q => hp (p0.mp q)), hm1, Option.bind_some, m3]
        rfl
      · show (if a 1 = 0 then some (-1) else (f_Mo_divided (a 2) (a 1)).bind fun q7 => some q7) = _
        rw [a1, if_neg (fun q => hp (p00.mp q)), a2, m4]
        rfl
      · obtain ⟨k, hk, e⟩ := hm2.nn (by decide)
        rw [e]
        exact nm hk
  · by_cases h1 : n ≤ 1
    · refine Or.inl ⟨?_, if p = 0 then -1 else nI S, mn, ?_, hm1, ?_, ?_, hm2, fun q => absurd q (by decide)⟩
      · show (if (5 : Int32) = 5 then (if t 0 ≤ 1 then 0 else 1) else _) = _
        rw [if_pos rfl, t0, if_pos (n1.mpr h1)]
      · show (if t 1 ≤ 0 then some (-1) else some (t 2)) = _
        rw [t1, t2]
        by_cases hp : p = 0
        · rw [if_pos hp, if_pos (p0.mpr hp)]
        · rw [if_neg hp, if_neg (fun q => hp (p0.mp q))]
      · show (if a 0 ≤ 1 then some (a 6) else some (-2)) = _
        rw [a0, if_pos (n1.mpr h1), h6 h1]
      · split
        · decide
        · exact nm (by omega)
    · refine Or.inr ⟨?_, ?_⟩
      · show ¬ (if (5 : Int32) = 5 then (if t 0 ≤ 1 then 0 else 1) else _) = (0 : Int32)
        rw [if_pos rfl, t0, if_neg (fun q => h1 (n1.mp q))]
        decide
      · show (if a 0 ≤ 1 then some (a 6) else some (-2)) = _
        rw [a0, if_neg (fun q => h1 (n1.mp q))]
  · refine Or.inl ⟨hne (by decide), if n = 0 then 0 else 1, mn, ?_, hm1, ?_, ?_, hm2, fun q => absurd q (by decide)⟩
    · show (if t 0 ≤ 0 then some 0 else some 1) = _
      rw [t0]
      by_cases hp : n = 0
      · rw [if_pos hp, if_pos (n0.mpr hp)]
      · rw [if_neg hp, if_neg (fun q => hp (n0.mp q))]
    · show (if a 0 ≤ 0 then some 0 else some 1) = _
      rw [a0]
      by_cases hp : n = 0
      · rw [if_pos hp, if_pos (n0.mpr hp)]
      · rw [if_neg hp, if_neg (fun q => hp (n0.mp q))]
    · split <;> decide
  · refine Or.inl ⟨hne (by decide), mch hv' a, mn, ?_, hm1, rfl, hmch.1, hm2, fun q => absurd q (by decide)⟩
    show some (f_Tally_isIn 0 (tmM t) hv) = _
    rw [hisIn, hh (Or.inl rfl)]
  · refine Or.inl ⟨hne (by decide), if mch hv' a = -1 then -1 else 1 - mch hv' a, mn, ?_, hm1, ?_, ?_, hm2, fun q => absurd q (by decide)⟩
    · show (if f_Tally_isIn 0 (tmM t) hv = -1 then some (-1) else some (1 - f_Tally_isIn 0 (tmM t) hv)) = _
      rw [hisIn, hh (Or.inr rfl)]
      split <;> rfl
    · show (if mch hv' a = -1 then some (-1) else some (1 - mch hv' a)) = _
      split <;> rfl
    · rcases hmch.2 with q | q | q <;> rw [q] <;> decide
