-- ===== tallies, arrive, feed =====
def tk (hv v : Int32) (s : Nat → Int32) : Nat → Int32 := fun k =>
  if v = -1 then (if k = 0 then s 0 + 1 else s k)
  else if k = 0 then s 0 + 1 else if k = 1 then s 1 + 1 else if k = 2 then s 2 + v
  else if k = 3 then (if s 3 = -1 then v else if s 3 ≤ v then s 3 else v)
  else if k = 4 then (if v ≤ s 4 then s 4 else v)
  else if k = 5 then (if s 5 = 0 then (if v = hv then 1 else 0) else 1) else s k
def TRel (M : Mem) (tl : Nat → Nat → Int32) : Prop := ∀ p, p < 10 → ∀ k, k < 6 → M (45 + p) k = tl p k
theorem u_take {M : Mem} {c : Nat} {v hv : Int32} {s : Nat → Int32} (h : ∀ k, k < 6 → M c k = s k) : ∃ M', f_Tally_take c M v hv = some M' ∧ (∀ k, k < 6 → M' c k = tk hv v s k) ∧ Out (fun c' k => c' = c) M M' := by
  have e0 := h 0 (by decide); have e1 := h 1 (by decide); have e2 := h 2 (by decide)
  have e3 := h 3 (by decide); have e4 := h 4 (by decide); have e5 := h 5 (by decide)
  by_cases hv1 : v = -1
  · refine ⟨mset M c 0 (M c 0 + 1), ?_, fun k hk => ?_, Out.set rfl⟩
    · unfold f_Tally_take
      rw [bn, if_pos hv1]
    · unfold tk
      rw [if_pos hv1]
      by_cases k0 : k = 0
      · rw [if_pos k0, k0, ms_s, e0]
      · rw [if_neg k0, ms_k _ _ k0, h k hk]
  · let a3 : Int32 := if s 3 = -1 then v else if s 3 ≤ v then s 3 else v
    let a4 : Int32 := if v ≤ s 4 then s 4 else v
    let a5 : Int32 := if s 5 = 0 then (if v = hv then 1 else 0) else 1
    have h5 : a5 = 0 ∨ a5 = 1 := by
      show (if s 5 = 0 then (if v = hv then (1 : Int32) else 0) else 1) = 0 ∨ _
      by_cases q1 : s 5 = 0
      · by_cases q2 : v = hv
        · right; show (if s 5 = 0 then (if v = hv then (1 : Int32) else 0) else 1) = 1; rw [if_pos q1, if_pos q2]
        · left; rw [if_pos q1, if_neg q2]
      · right; show (if s 5 = 0 then (if v = hv then (1 : Int32) else 0) else 1) = 1; rw [if_neg q1]
    let M3 := mset (mset (mset M c 0 (s 0 + 1)) c 1 (s 1 + 1)) c 2 (s 2 + v)
    let M4 := mset M3 c 3 a3
    let M5 := mset M4 c 4 a4
    have hM3 : ∀ k, k = 3 ∨ k = 4 ∨ k = 5 → M3 c k = s k := fun k hk => by
      show mset (mset (mset M c 0 (s 0 + 1)) c 1 (s 1 + 1)) c 2 (s 2 + v) c k = _
      rw [ms_k _ _ (by omega), ms_k _ _ (by omega), ms_k _ _ (by omega), h k (by omega)]
    refine ⟨mset M5 c 5 a5, ?_, fun k hk => ?_, ?_⟩
    · unfold f_Tally_take
      have e2' : mset (mset M c 0 (s 0 + 1)) c 1 (s 1 + 1) c 2 = s 2 := by rw [ms_k _ _ (by decide), ms_k _ _ (by decide), e2]
      rw [bn, if_neg hv1, bn, ms_k _ _ (show (1 : Nat) ≠ 0 by decide), e0, e1, bn, e2']
      show (if M3 c 3 = -1 then f_Tally_take_b53 c v hv M3 else if M3 c 3 ≤ v then f_Tally_take_b61 c v hv (M3 c 3) M3 else f_Tally_take_b53 c v hv M3) = _
      rw [hM3 3 (by omega)]
      have step : (if s 3 = -1 then f_Tally_take_b53 c v hv M3 else if s 3 ≤ v then f_Tally_take_b61 c v hv (s 3) M3 else f_Tally_take_b53 c v hv M3) = f_Tally_take_b61 c v hv a3 M3 := by
        show _ = f_Tally_take_b61 c v hv (if s 3 = -1 then v else if s 3 ≤ v then s 3 else v) M3
        unfold f_Tally_take_b53
        split
        · rfl
        · split <;> rfl
      rw [step]
      unfold f_Tally_take_b61
      rw [bn]
      show (if v ≤ M4 c 4 then f_Tally_take_b81 c v hv (M4 c 4) M4 else f_Tally_take_b81 c v hv v M4) = _
      have hM4 : M4 c 4 = s 4 := by show mset M3 c 3 a3 c 4 = _; rw [ms_k _ _ (by decide)]; exact hM3 4 (by omega)
      have hM45 : M4 c 5 = s 5 := by show mset M3 c 3 a3 c 5 = _; rw [ms_k _ _ (by decide)]; exact hM3 5 (by omega)
      rw [hM4]
      have step2 : (if v ≤ s 4 then f_Tally_take_b81 c v hv (s 4) M4 else f_Tally_take_b81 c v hv v M4) = f_Tally_take_b81 c v hv a4 M4 := by
        show _ = f_Tally_take_b81 c v hv (if v ≤ s 4 then s 4 else v) M4
        split <;> rfl
      rw [step2]
      unfold f_Tally_take_b81 f_Tally_take_b97 f_Tally_take_b102
      rw [bn]
      show (if M5 c 5 = 0 then _ else _) = _
      have hM5 : M5 c 5 = s 5 := by show mset M4 c 4 a4 c 5 = _; rw [ms_k _ _ (by decide)]; exact hM45
      rw [hM5]
      show _ = some (mset M5 c 5 (if s 5 = 0 then (if v = hv then (1 : Int32) else 0) else 1))
      by_cases q1 : s 5 = 0
      · rw [if_pos q1, if_pos q1]
        by_cases q2 : v = hv
        · rw [if_pos q2, if_pos q2, if_pos (Or.inr rfl)]; rfl
        · rw [if_neg q2, if_neg q2, if_pos (Or.inl rfl)]; rfl
      · rw [if_neg q1, if_neg q1, if_pos (Or.inr rfl)]; rfl
    · have hk6 : k = 0 ∨ k = 1 ∨ k = 2 ∨ k = 3 ∨ k = 4 ∨ k = 5 := by omega
      show mset (mset (mset M3 c 3 a3) c 4 a4) c 5 a5 c k = _
      unfold tk
      rw [if_neg hv1]
      rcases hk6 with rfl | rfl | rfl | rfl | rfl | rfl
      · rw [ms_k _ _ (by decide), ms_k _ _ (by decide), ms_k _ _ (by decide)]
        show mset (mset (mset M c 0 (s 0 + 1)) c 1 (s 1 + 1)) c 2 (s 2 + v) c 0 = _
        rw [ms_k _ _ (by decide), ms_k _ _ (by decide), ms_s]
        rfl
      · rw [ms_k _ _ (by decide), ms_k _ _ (by decide), ms_k _ _ (by decide)]
        show mset (mset (mset M c 0 (s 0 + 1)) c 1 (s 1 + 1)) c 2 (s 2 + v) c 1 = _
        rw [ms_k _ _ (by decide), ms_s]
        rfl
      · rw [ms_k _ _ (by decide), ms_k _ _ (by decide), ms_k _ _ (by decide)]
        show mset (mset (mset M c 0 (s 0 + 1)) c 1 (s 1 + 1)) c 2 (s 2 + v) c 2 = _
        rw [ms_s]
        rfl
      · rw [ms_k _ _ (by decide), ms_k _ _ (by decide), ms_s]; rfl
      · rw [ms_k _ _ (by decide), ms_s]; rfl
      · rw [ms_s]; rfl
    · have o : ∀ (M : Mem) (k : Nat) (x : Int32), Out (fun c' _ => c' = c) M (mset M c k x) := fun _ _ _ => Out.set rfl
      exact (((((o M 0 _).trans (o _ 1 _)).trans (o _ 2 _)).trans (o _ 3 _)).trans (o _ 4 _)).trans (o _ 5 _)
/-- the state of a run: kept rows, HANDED ON, how many arrived, the tallies -/
abbrev ST : Type := KP × Int32 × Int32 × (Nat → Nat → Int32)
def SRel (o : Nat) (M : Mem) (s : ST) : Prop := KRel M s.1 ∧ M (o + 8) 6 = s.2.1 ∧ M o 5 = s.2.2.1 ∧ TRel M s.2.2.2
def FdP (o c k : Nat) : Prop := KpP c k ∨ (c = o + 8 ∧ k = 6) ∨ (c = o ∧ k = 5) ∨ (45 ≤ c ∧ c ≤ 54)
def carr (np : Nat) (pv : Nat → Int32) (r : Int32) (s : ST) : ST :=
  if r = -1 then s
  else if f_U_within (r >>> (20 &&& 31)) 10 = 0 then s
  else (s.1, s.2.1, s.2.2.1 + 1, fun p => if p = (r >>> (20 &&& 31)).toNatClampNeg then tk (hkOf np pv (r >>> (20 &&& 31))) (f_Run_valueOf r) (s.2.2.2 p) else s.2.2.2 p)
theorem u_arrive {o : Nat} (ho : isRun o) {M : Mem} {cd fg : Nat → Int32} {n : Nat} {jn : Int32} {np : Nat} {pk pv : Nat → Int32} {s : ST} {r : Int32} (hC : CRel o M cd fg n jn np pk pv) (hs : SRel o M s) : ∃ M', f_Run_arrive o M r = some M' ∧ SRel o M' (carr np pv r s) ∧ Out (FdP o) M M' := by
  unfold f_Run_arrive carr
  rw [bn]
  by_cases h1 : r = -1
  · rw [if_pos h1, if_pos h1]
    exact ⟨M, rfl, hs, Out.rfl⟩
  · rw [if_neg h1, if_neg h1]
    by_cases h2 : f_U_within (r >>> (20 &&& 31)) 10 = 0
    · rw [if_pos h2, if_pos h2]
      exact ⟨M, rfl, hs, Out.rfl⟩
    · rw [if_neg h2, if_neg h2, bn]
      obtain ⟨p, hp, ep⟩ := (within_iff (n := 10) (by decide)).mp h2
      rw [ep]
      have hcl : (nI p).toNatClampNeg = p := nI_clamp (by omega)
      have o1 : Out (fun c k => c = o ∧ k = 5) M (mset M o 5 (M o 5 + 1)) := Out.set ⟨rfl, rfl⟩
      have hC1 := hC.out o1 (fun c k q => by unfold isRun at ho; omega)
      rw [if_pos (gin_t hp (by decide)), u_valueAt hC1, Option.bind_some, hcl]
      obtain ⟨M', q1, q2, q3⟩ := u_take (M := mset M o 5 (M o 5 + 1)) (c := 45 + p) (v := f_Run_valueOf r) (hv := hkOf np pv (nI p)) (s := s.2.2.2 p) (fun k hk => by rw [ms_c _ _ (by unfold isRun at ho; omega)]; exact hs.2.2.2 p hp k hk)
      rw [q1, Option.bind_some]
      have o2 : Out (FdP o) M M' := (o1.mono (fun c k q => by unfold FdP; omega)).trans (q3.mono (fun c k q => by unfold FdP; omega))
      refine ⟨M', rfl, ⟨?_, ?_, ?_, fun p2 hp2 k hk => ?_⟩, o2⟩
      · refine (hs.1.out o1 (fun c k q => by unfold KpP; unfold isRun at ho; omega)).out q3 (fun c k q => by unfold KpP; omega)
      · rw [q3 _ _ (by unfold isRun at ho; omega), ms_c _ _ (by omega)]; exact hs.2.1
      · rw [q3 _ _ (by unfold isRun at ho; omega), ms_s, hs.2.2.1]
      · show M' (45 + p2) k = (if p2 = p then tk (hkOf np pv (nI p)) (f_Run_valueOf r) (s.2.2.2 p2) else s.2.2.2 p2) k
        by_cases hpp : p2 = p
        · subst hpp
          rw [if_pos rfl]
          exact q2 k hk
        · rw [if_neg hpp, q3 _ _ (by omega), ms_c _ _ (by unfold isRun at ho; omega)]
          exact hs.2.2.2 p2 hp2 k hk

-- ===== feed =====
def jnI (jo : Option Nat) : Int32 := match jo with
  | none => -1
  | some j => nI j
/-- whether the row goes with pair q at the join -/
def cjn (c : Int32) (pk : Nat → Int32) (r : Int32) (q : Nat) : Bool := if c = 8 then true else if f_Run_keyOf r = -1 then false else decide (f_Run_keyOf r = pk q)
def cjl (cd fg : Nat → Int32) (n j np : Nat) (pk pv : Nat → Int32) (r : Int32) : Nat → Nat → ST → ST
  | 0, _, s => s
  | d + 1, q, s =>
    if cjn (cd j) pk r q = true then
      cjl cd fg n j np pk pv r d (q + 1) (carr np pv (cps cd fg np pk (n - (j + 1)) (j + 1) (r ||| (nI q <<< (20 &&& 31))) s.1 (s.2.1 + 1)).1 ((cps cd fg np pk (n - (j + 1)) (j + 1) (r ||| (nI q <<< (20 &&& 31))) s.1 (s.2.1 + 1)).2.1, (cps cd fg np pk (n - (j + 1)) (j + 1) (r ||| (nI q <<< (20 &&& 31))) s.1 (s.2.1 + 1)).2.2, s.2.2))
    else cjl cd fg n j np pk pv r d (q + 1) s
def cfd (cd fg : Nat → Int32) (n : Nat) (jo : Option Nat) (np : Nat) (pk pv : Nat → Int32) (r : Int32) (fr : Nat) (s : ST) : ST := match jo with
  | none => carr np pv (cps cd fg np pk (n - fr) fr r s.1 s.2.1).1 ((cps cd fg np pk (n - fr) fr r s.1 s.2.1).2.1, (cps cd fg np pk (n - fr) fr r s.1 s.2.1).2.2, s.2.2)
  | some j =>
    if fr ≤ j then
      (if (cps cd fg np pk (j - fr) fr r s.1 s.2.1).1 = -1 then ((cps cd fg np pk (j - fr) fr r s.1 s.2.1).2.1, (cps cd fg np pk (j - fr) fr r s.1 s.2.1).2.2, s.2.2)
       else cjl cd fg n j np pk pv (cps cd fg np pk (j - fr) fr r s.1 s.2.1).1 np 0 ((cps cd fg np pk (j - fr) fr r s.1 s.2.1).2.1, (cps cd fg np pk (j - fr) fr r s.1 s.2.1).2.2, s.2.2))
    else carr np pv (cps cd fg np pk (n - fr) fr r s.1 s.2.1).1 ((cps cd fg np pk (n - fr) fr r s.1 s.2.1).2.1, (cps cd fg np pk (n - fr) fr r s.1 s.2.1).2.2, s.2.2)
/-- the class's pass, from fr to ahead of t -/
theorem u_passA {o : Nat} (ho : isRun o) {M : Mem} {cd fg : Nat → Int32} {n : Nat} {jn : Int32} {np : Nat} {pk pv : Nat → Int32} {s : ST} {r : Int32} {fr t : Nat} (hC : CRel o M cd fg n jn np pk pv) (hs : SRel o M s) (h1 : fr ≤ t) (h2 : t ≤ n) : ∃ M', f_Run_pass o M r (nI fr) (nI t) = some ((cps cd fg np pk (t - fr) fr r s.1 s.2.1).1, M') ∧ SRel o M' ((cps cd fg np pk (t - fr) fr r s.1 s.2.1).2.1, (cps cd fg np pk (t - fr) fr r s.1 s.2.1).2.2, s.2.2) ∧ Out (FdP o) M M' := by
  have hn := hC.1
  obtain ⟨M', q1, q2, q3, q4⟩ := u_pass ho (t - fr) fr FU M s.1 r (by omega) (Nat.lt_trans (by omega) fu_lt) hC hs.1
  rw [hs.2.1, show t - fr + fr = t by omega] at q1
  rw [hs.2.1] at q2 q3
  refine ⟨M', q1, ⟨q2, q3, ?_, fun p hp k hk => ?_⟩, q4.mono (fun c k q => by unfold PsP KpP at q; unfold FdP KpP; omega)⟩
  · rw [q4 _ _ (by unfold PsP KpP; unfold isRun at ho; omega)]; exact hs.2.2.1
  · rw [q4 _ _ (by unfold PsP KpP; unfold isRun at ho; omega)]; exact hs.2.2.2 p hp k hk
theorem FdC {o : Nat} (ho : isRun o) : ∀ c k, FdP o c k → ¬ (o + 1 ≤ c ∧ c ≤ o + 6) := fun c k q => by
  unfold FdP KpP at q
  unfold isRun at ho
  omega
theorem u_joins {o : Nat} {M : Mem} {cd fg : Nat → Int32} {n j : Nat} {np : Nat} {pk pv : Nat → Int32} {r : Int32} {q : Nat} (hC : CRel o M cd fg n (nI j) np pk pv) (hj : j < n) (hq : q < np) : f_Run_joins o M r (nI q) = some (if cjn (cd j) pk r q = true then 1 else 0) := by
  obtain ⟨h1, h2, h3, h4, h5, h6, h7⟩ := hC
  unfold f_Run_joins f_Run_joins_b43 f_Run_joins_b47 cjn
  rw [bn, h4, if_pos (gin_t (by omega) (by decide)), nI_clamp (by omega), show o + 1 + 1 = o + 2 by omega, (h5 j hj).1]
  by_cases c8 : cd j = 8
  · rw [if_pos c8, if_pos c8, if_pos rfl]
  · rw [if_neg c8, if_neg c8]
    by_cases c1 : f_Run_keyOf r = -1
    · rw [if_pos c1, if_pos c1, if_neg (by decide)]
    · rw [if_neg c1, if_neg c1, if_pos (gin_t (by omega) (by decide)), nI_clamp (by omega), show o + 4 + 1 = o + 5 by omega, (h7 q hq).1]
      by_cases c2 : f_Run_keyOf r = pk q
      · rw [if_pos c2, if_pos (by simp [c2])]
      · rw [if_neg c2, if_neg (by simp [c2])]
theorem u_feedJ {o : Nat} (ho : isRun o) {cd fg : Nat → Int32} {n j : Nat} {np : Nat} {pk pv : Nat → Int32} {r : Int32} (hj : j < n) (hr : ¬ r = -1) : ∀ (d q fuel : Nat) (M : Mem) (s : ST), d + q = np → d < fuel → CRel o M cd fg n (nI j) np pk pv → SRel o M s →
    ∃ M', f_Run_feed_l46 o fuel r (nI q) M = some M' ∧ SRel o M' (cjl cd fg n j np pk pv r d q s) ∧ Out (FdP o) M M' := by
  intro d
  induction d with
  | zero =>
    intro q fuel M s hd hf hC hs
    obtain ⟨g, rfl⟩ : ∃ g, fuel = g + 1 := ⟨fuel - 1, by omega⟩
    refine ⟨M, ?_, hs, Out.rfl⟩
    show f_Run_feed_l46B o (f_Run_feed_l46 o g) r (nI q) M = _
    unfold f_Run_feed_l46B
    rw [hC.2.2.2.2.2.1, show q = np by omega, if_pos (Int32.le_refl _)]
  | succ d ih =>
    intro q fuel M s hd hf hC hs
    have hn := hC.1
    have hnp := hC.2.1
    obtain ⟨g, rfl⟩ : ∃ g, fuel = g + 1 := ⟨fuel - 1, by omega⟩
    show ∃ M', f_Run_feed_l46B o (f_Run_feed_l46 o g) r (nI q) M = _ ∧ _
    unfold f_Run_feed_l46B f_Run_feed_b117
    rw [hC.2.2.2.2.2.1, if_neg (fun w => by have := (nI_leI (by omega) (by omega)).mp w; omega), if_neg hr, u_joins hC hj (by omega), Option.bind_some, nI_1]
    unfold cjl
    by_cases hc : cjn (cd j) pk r q = true
    · rw [if_pos hc, if_neg (by decide), if_pos hc, bn]
      have o1 : Out (FdP o) M (mset M (o + 8) 6 (M (o + 8) 6 + 1)) := Out.set (Or.inr (Or.inl ⟨rfl, rfl⟩))
      have hC1 := hC.out o1 (FdC ho)
      have hs1 : SRel o (mset M (o + 8) 6 (M (o + 8) 6 + 1)) (s.1, s.2.1 + 1, s.2.2) := ⟨hs.1.out (P := fun c k => c = o + 8) (Out.set rfl) (fun c k w => by unfold KpP; unfold isRun at ho; omega), by rw [ms_s, hs.2.1], by rw [ms_c _ _ (by omega)]; exact hs.2.2.1, fun p hp k hk => by rw [ms_c _ _ (by unfold isRun at ho; omega)]; exact hs.2.2.2 p hp k hk⟩
      have e3 := hC1.2.2.2.1
      have e2 := hC1.2.2.1
      rw [e3, e2, nI_1]
      obtain ⟨M1, a1, a2, a3⟩ := u_passA ho (fr := j + 1) (t := n) (r := r ||| (nI q <<< (20 &&& 31))) hC1 hs1 (by omega) (Nat.le_refl _)
      rw [a1, Option.bind_some]
      have hC2 := hC1.out a3 (FdC ho)
      obtain ⟨M2, b1, b2, b3⟩ := u_arrive ho (r := (cps cd fg np pk (n - (j + 1)) (j + 1) (r ||| (nI q <<< (20 &&& 31))) s.1 (s.2.1 + 1)).1) hC2 a2
      have hC3 := hC2.out b3 (FdC ho)
      obtain ⟨M3, c1, c2, c3⟩ := ih (q + 1) g M2 _ (by omega) (by omega) hC3 b2
      refine ⟨M3, ?_, c2, o1.trans (a3.trans (b3.trans c3))⟩
      rw [b1, Option.bind_some]
      exact c1
    · rw [if_neg hc, if_pos rfl, if_neg hc]
      obtain ⟨M3, c1, c2, c3⟩ := ih (q + 1) g M s (by omega) (by omega) hC hs
      exact ⟨M3, c1, c2, c3⟩
theorem u_feed {o : Nat} (ho : isRun o) {M : Mem} {cd fg : Nat → Int32} {n : Nat} {jo : Option Nat} {np : Nat} {pk pv : Nat → Int32} {s : ST} {r : Int32} {fr : Nat} (hjo : ∀ j, jo = some j → j < n) (hC : CRel o M cd fg n (jnI jo) np pk pv) (hs : SRel o M s) (h1 : fr ≤ n) :
    ∃ M', f_Run_feed o M r (nI fr) = some M' ∧ SRel o M' (cfd cd fg n jo np pk pv r fr s) ∧ Out (FdP o) M M' := by
  have hn := hC.1
  have e3 := hC.2.2.2.1
  have e2 := hC.2.2.1
  have plain : ∃ M', ((f_Run_pass o M r (nI fr) (nI n)).bind fun q9 => (f_Run_arrive o q9.2 q9.1).bind fun q10 => some q10) = some M' ∧ SRel o M' (carr np pv (cps cd fg np pk (n - fr) fr r s.1 s.2.1).1 ((cps cd fg np pk (n - fr) fr r s.1 s.2.1).2.1, (cps cd fg np pk (n - fr) fr r s.1 s.2.1).2.2, s.2.2)) ∧ Out (FdP o) M M' := by
    obtain ⟨M1, a1, a2, a3⟩ := u_passA ho (fr := fr) (t := n) (r := r) hC hs h1 (Nat.le_refl _)
    obtain ⟨M2, b1, b2, b3⟩ := u_arrive ho (r := (cps cd fg np pk (n - fr) fr r s.1 s.2.1).1) (hC.out a3 (FdC ho)) a2
    refine ⟨M2, ?_, b2, a3.trans b3⟩
    rw [a1, Option.bind_some]
    show ((f_Run_arrive o M1 (cps cd fg np pk (n - fr) fr r s.1 s.2.1).1).bind fun q10 => some q10) = _
    rw [b1, Option.bind_some]
  unfold f_Run_feed
  rw [e3, e2]
  cases jo with
  | none =>
    rw [if_neg (show ¬ nI fr ≤ jnI none from fun q => by
      have e : (jnI none).toInt = -1 := by decide
      rw [i_le, nI_toInt (by omega), e] at q
      omega)]
    exact plain
  | some j =>
    have hj := hjo j rfl
    have el : (nI fr ≤ jnI (some j)) ↔ fr ≤ j := nI_leI (by omega) (by omega)
    show ∃ M', _ ∧ SRel o M' (if fr ≤ j then _ else _) ∧ _
    by_cases hf : fr ≤ j
    · rw [if_pos (el.mpr hf), if_pos hf]
      obtain ⟨M1, a1, a2, a3⟩ := u_passA ho (fr := fr) (t := j) (r := r) hC hs hf (by omega)
      show ∃ M', ((f_Run_pass o M r (nI fr) (nI j)).bind fun q1 => f_Run_feed_l46 o FU q1.1 0 q1.2) = some M' ∧ _
      rw [a1, Option.bind_some]
      have hC1 := hC.out a3 (FdC ho)
      by_cases hb : (cps cd fg np pk (j - fr) fr r s.1 s.2.1).1 = -1
      · rw [if_pos hb]
        refine ⟨M1, ?_, a2, a3⟩
        show f_Run_feed_l46B o (f_Run_feed_l46 o 999) (cps cd fg np pk (j - fr) fr r s.1 s.2.1).1 0 M1 = _
        unfold f_Run_feed_l46B
        rw [if_pos hb]
        split <;> rfl
      · rw [if_neg hb]
        obtain ⟨M2, b1, b2, b3⟩ := u_feedJ ho hj hb np 0 FU M1 _ (by omega) (Nat.lt_trans (by have := hC.2.1; omega) fu_lt) hC1 a2
        exact ⟨M2, b1, b2, a3.trans b3⟩
    · rw [if_neg (fun q => hf (el.mp q)), if_neg hf]
      exact plain
