-- ===== a run's beginning and end =====
theorem u_fillL {c : Nat} {x : Int32} (hl : ln c < 2 ^ 31) : ∀ (d i fuel : Nat) (M : Mem), d + i = ln c → d < fuel → (∀ k, k < i → M c k = x) →
    ∃ M', f_J_fill_l5 c fuel x (nI i) (nI (ln c)) M = some M' ∧ (∀ k, k < ln c → M' c k = x) ∧ Out (fun c' k => c' = c) M M' := by
  intro d
  induction d with
  | zero =>
    intro i fuel M hd hf hk
    obtain ⟨g, rfl⟩ : ∃ g, fuel = g + 1 := ⟨fuel - 1, by omega⟩
    refine ⟨M, ?_, fun k h => hk k (by omega), Out.rfl⟩
    show f_J_fill_l5B c (f_J_fill_l5 c g) x (nI i) (nI (ln c)) M = _
    unfold f_J_fill_l5B
    rw [show i = ln c by omega, if_pos (Int32.le_refl _)]
  | succ d ih =>
    intro i fuel M hd hf hk
    obtain ⟨g, rfl⟩ : ∃ g, fuel = g + 1 := ⟨fuel - 1, by omega⟩
    have G : gin (nI i) (ln c) := gin_t (by omega) hl
    obtain ⟨M', a1, a2, a3⟩ := ih (i + 1) g (mset M c i x) (by omega) (by omega) (fun k h => by
      by_cases e : k = i
      · rw [e, ms_s]
      · rw [ms_k _ _ e]; exact hk k (by omega))
    have o0 : Out (fun c' k => c' = c) M (mset M c i x) := Out.set rfl
    refine ⟨M', ?_, a2, o0.trans a3⟩
    show f_J_fill_l5B c (f_J_fill_l5 c g) x (nI i) (nI (ln c)) M = _
    unfold f_J_fill_l5B
    rw [if_neg (fun q => by have := (nI_leI (by omega) (by omega)).mp q; omega), if_pos G, nI_clamp (by omega), bn, nI_1]
    exact a1
theorem u_fill {c : Nat} {x : Int32} {M : Mem} (hl : ln c < 512) : ∃ M', f_J_fill c M x = some M' ∧ (∀ k, k < ln c → M' c k = x) ∧ Out (fun c' k => c' = c) M M' := by
  unfold f_J_fill
  rw [bn]
  exact u_fillL (by omega) (ln c) 0 FU M (by omega) (Nat.lt_trans hl fu_lt) (fun k h => absurd h (Nat.not_lt_zero k))
/-- a tally cleared -/
def tl0 : Nat → Int32 := fun k => if k = 3 then -1 else if k = 4 then -1 else 0
theorem u_tallyClear {c : Nat} {M : Mem} : (∀ k, k < 6 → f_Tally_clear c M c k = tl0 k) ∧ Out (fun c' k => c' = c) M (f_Tally_clear c M) := by
  unfold f_Tally_clear
  simp only [bn]
  refine ⟨fun k hk => ?_, ?_⟩
  · rcases (by omega : k = 0 ∨ k = 1 ∨ k = 2 ∨ k = 3 ∨ k = 4 ∨ k = 5) with h | h | h | h | h | h <;> subst h <;> simp [ms, tl0]
  · have o0 : ∀ (M : Mem) (k : Nat) (v : Int32), Out (fun c' k => c' = c) M (mset M c k v) := fun M k v => Out.set rfl
    exact (o0 _ _ _).trans ((o0 _ _ _).trans ((o0 _ _ _).trans ((o0 _ _ _).trans ((o0 _ _ _).trans (o0 _ _ _)))))
theorem u_clearL : ∀ (d i fuel : Nat) (M : Mem), d + i = 10 → d < fuel → (∀ p, p < i → ∀ k, k < 6 → M (45 + p) k = tl0 k) →
    ∃ M', f_Kept_clear_l10 fuel (nI i) M = some M' ∧ TRel M' (fun _ => tl0) ∧ Out (fun c k => 45 ≤ c ∧ c ≤ 54) M M' := by
  intro d
  induction d with
  | zero =>
    intro i fuel M hd hf hk
    obtain ⟨g, rfl⟩ : ∃ g, fuel = g + 1 := ⟨fuel - 1, by omega⟩
    refine ⟨M, ?_, fun p hp k h => hk p (by omega) k h, Out.rfl⟩
    show f_Kept_clear_l10B (f_Kept_clear_l10 g) (nI i) M = _
    unfold f_Kept_clear_l10B
    rw [show i = 10 by omega, if_pos (by decide)]
  | succ d ih =>
    intro i fuel M hd hf hk
    obtain ⟨g, rfl⟩ : ∃ g, fuel = g + 1 := ⟨fuel - 1, by omega⟩
    have G : gin (nI i) 10 := gin_t (by omega) (by decide)
    obtain ⟨t1, t2⟩ := u_tallyClear (c := 45 + i) (M := M)
    obtain ⟨M', a1, a2, a3⟩ := ih (i + 1) g (f_Tally_clear (45 + i) M) (by omega) (by omega) (fun p hp k h => by
      by_cases e : p = i
      · subst e; exact t1 k h
      · rw [t2 _ _ (by omega)]; exact hk p (by omega) k h)
    refine ⟨M', ?_, a2, (t2.mono (fun c k q => by omega)).trans a3⟩
    show f_Kept_clear_l10B (f_Kept_clear_l10 g) (nI i) M = _
    unfold f_Kept_clear_l10B
    rw [if_neg (fun q => by have := (nI_leI (a := 10) (by decide) (by omega)).mp q; omega), if_pos G, nI_clamp (by omega), bn, nI_1]
    exact a1
theorem u_keptClear {M : Mem} : ∃ M', f_Kept_clear M = some M' ∧ KRel M' (fun _ => []) ∧ TRel M' (fun _ => tl0) ∧ Out (fun c k => KpP c k ∨ (45 ≤ c ∧ c ≤ 54)) M M' := by
  obtain ⟨M1, a1, a2, a3⟩ := u_fill (c := 43) (x := 0) (M := M) (by decide)
  obtain ⟨M2, b1, b2, b3⟩ := u_clearL 10 0 FU M1 (by omega) (by decide) (fun p h => absurd h (Nat.not_lt_zero p))
  refine ⟨M2, ?_, fun j hj => ⟨?_, Nat.zero_le _, AH.nil⟩, b2, (a3.mono (fun c k q => Or.inl (Or.inl q))).trans (b3.mono (fun c k q => Or.inr q))⟩
  · unfold f_Kept_clear
    rw [a1, Option.bind_some]
    exact b1
  · rw [b3 _ _ (by omega), a2 j (by show j < 14; exact hj)]
    rfl
-- the report's log and its open places
def tellF (lg : List Int32) (x : Int32) : List Int32 := if lg.length < 200 then lg ++ [x] else lg
def tells (lg : List Int32) (l : List Int32) : List Int32 := l.foldl tellF lg
theorem tells_app (lg a b : List Int32) : tells lg (a ++ b) = tells (tells lg a) b := by unfold tells; rw [List.foldl_append]
theorem tells_eq : ∀ (l lg : List Int32), lg.length ≤ 200 → tells lg l = (lg ++ l).take 200 := by
  intro l
  induction l with
  | nil => intro lg h; unfold tells; rw [List.append_nil]; exact (List.take_of_length_le h).symm
  | cons x l ih =>
    intro lg h
    show tells (tellF lg x) l = _
    unfold tellF
    by_cases e : lg.length < 200
    · rw [if_pos e, ih _ (by rw [List.length_append]; show lg.length + 1 ≤ 200; omega), List.append_assoc]
      rfl
    · rw [if_neg e, ih _ h, List.take_append_of_le_length (by omega), List.take_append_of_le_length (by omega)]
def RpIs (o : Nat) (M : Mem) (lg : List Int32) (op cu mo : Nat) : Prop := M (o + 8) 3 = nI lg.length ∧ lg.length ≤ 200 ∧ AH (M (o + 11)) lg ∧ M (o + 8) 7 = nI op ∧ M (o + 8) 8 = nI cu ∧ M (o + 8) 9 = nI mo
section RP
variable {o : Nat} {M : Mem} {lg : List Int32} {op' cu' mo' : Nat}
theorem RpIs.s (h : RpIs o M lg op' cu' mo') : M (o + 8) 3 = nI lg.length := And.left h
theorem RpIs.l (h : RpIs o M lg op' cu' mo') : lg.length ≤ 200 := And.left (And.right h)
theorem RpIs.h (h : RpIs o M lg op' cu' mo') : AH (M (o + 11)) lg := And.left (And.right (And.right h))
theorem RpIs.op (h : RpIs o M lg op' cu' mo') : M (o + 8) 7 = nI op' := And.left (And.right (And.right (And.right h)))
theorem RpIs.cu (h : RpIs o M lg op' cu' mo') : M (o + 8) 8 = nI cu' := And.left (And.right (And.right (And.right (And.right h))))
theorem RpIs.mo (h : RpIs o M lg op' cu' mo') : M (o + 8) 9 = nI mo' := And.right (And.right (And.right (And.right (And.right h))))
end RP
def RpP (o c k : Nat) : Prop := c = o + 11 ∨ (c = o + 8 ∧ (k = 3 ∨ k = 7 ∨ k = 8 ∨ k = 9))
theorem RpIs.out {o : Nat} {M M' : Mem} {lg : List Int32} {op cu mo : Nat} {P : Nat → Nat → Prop} (h : RpIs o M lg op cu mo) (ou : Out P M M') (hp : ∀ c k, P c k → ¬ RpP o c k) : RpIs o M' lg op cu mo :=
  ⟨by rw [ou _ _ (fun q => hp _ _ q (Or.inr ⟨rfl, Or.inl rfl⟩))]; exact h.s, h.l, h.h.same (fun j _ => ou _ _ (fun q => hp _ _ q (Or.inl rfl))), by rw [ou _ _ (fun q => hp _ _ q (Or.inr ⟨rfl, Or.inr (Or.inl rfl)⟩))]; exact h.op, by rw [ou _ _ (fun q => hp _ _ q (Or.inr ⟨rfl, Or.inr (Or.inr (Or.inl rfl))⟩))]; exact h.cu, by rw [ou _ _ (fun q => hp _ _ q (Or.inr ⟨rfl, Or.inr (Or.inr (Or.inr rfl))⟩))]; exact h.mo⟩
theorem u_tell {o : Nat} {M : Mem} {lg : List Int32} {op cu mo : Nat} {x : Int32} (h : RpIs o M lg op cu mo) : ∃ M', f_Report_tell (o + 8) M x = some M' ∧ RpIs o M' (tellF lg x) op cu mo ∧ Out (RpP o) M M' := by
  have hl := h.l
  unfold f_Report_tell tellF
  rw [h.s]
  by_cases e : lg.length < 200
  · rw [if_neg (fun q => by have := (nI_leI (a := 200) (by decide) (by omega)).mp q; omega), if_pos (gin_t e (by decide)), nI_clamp (by omega), bn, bn, if_pos e, show o + 8 + 3 = o + 11 by omega, ms_c _ _ (show o + 8 ≠ o + 11 by omega), h.s, nI_1]
    refine ⟨_, rfl, ⟨?_, ?_, ?_, ?_, ?_, ?_⟩, (Out.set (Or.inl rfl)).trans (Out.set (Or.inr ⟨rfl, Or.inl rfl⟩))⟩
    · rw [ms_s, List.length_append]; rfl
    · rw [List.length_append]; show lg.length + 1 ≤ 200; omega
    · refine h.h.snoc (fun j hj => ?_) ?_
      · rw [ms_c _ _ (by omega), ms_k _ _ (by omega)]
      · rw [ms_c _ _ (by omega), ms_s]
    · rw [ms_k _ _ (by decide), ms_c _ _ (by omega)]; exact h.op
    · rw [ms_k _ _ (by decide), ms_c _ _ (by omega)]; exact h.cu
    · rw [ms_k _ _ (by decide), ms_c _ _ (by omega)]; exact h.mo
  · have e2 : (200 : Int32) ≤ nI lg.length := (nI_leI (a := 200) (b := lg.length) (by decide) (by omega)).mpr (by omega)
    rw [if_pos e2, if_neg e]
    exact ⟨M, rfl, h, Out.rfl⟩
/-- the codes of a course from a place on -/
def cds (cd : Nat → Int32) : Nat → Nat → List Int32
  | 0, _ => []
  | d + 1, i => cd i :: cds cd d (i + 1)
theorem max_nI {a b : Nat} (ha : a < 2 ^ 31) (hb : b < 2 ^ 31) : f_J_max (nI a) (nI b) = nI (max a b) := by
  unfold f_J_max
  by_cases h : a < b
  · rw [if_pos ((nI_ltI ha hb).mpr h), Nat.max_eq_right (by omega)]
  · rw [if_neg (fun q => h ((nI_ltI ha hb).mp q)), Nat.max_eq_left (by omega)]
theorem u_openL {o : Nat} (ho : isRun o) {cd fg : Nat → Int32} {n : Nat} {jn : Int32} {np : Nat} {pk pv : Nat → Int32} : ∀ (d i fuel : Nat) (M : Mem) (lg : List Int32) (op cu mo : Nat), d + i = n → d < fuel → CRel o M cd fg n jn np pk pv → RpIs o M lg op cu mo → op + d < 10000 → cu ≤ mo → mo + d < 10000 →
    ∃ M', f_Report_openAll_l2 (o + 8) (o + 1) fuel (nI i) M = some M' ∧ RpIs o M' (tells lg (cds cd d i)) (op + d) (cu + d) (max mo (cu + d)) ∧ Out (RpP o) M M' := by
  intro d
  induction d with
  | zero =>
    intro i fuel M lg op cu mo hd hf hC hR h1 h2 h3
    obtain ⟨g, rfl⟩ : ∃ g, fuel = g + 1 := ⟨fuel - 1, by omega⟩
    refine ⟨M, ?_, ?_, Out.rfl⟩
    · show f_Report_openAll_l2B (o + 8) (o + 1) (f_Report_openAll_l2 (o + 8) (o + 1) g) (nI i) M = _
      unfold f_Report_openAll_l2B
      rw [hC.2.2.1, show i = n by omega, if_pos (Int32.le_refl _)]
    · rw [Nat.max_eq_left (by omega)]
      exact hR
  | succ d ih =>
    intro i fuel M lg op cu mo hd hf hC hR h1 h2 h3
    have hn := hC.1
    obtain ⟨g, rfl⟩ : ∃ g, fuel = g + 1 := ⟨fuel - 1, by omega⟩
    have G : gin (nI i) 14 := gin_t (by omega) (by decide)
    show ∃ M', f_Report_openAll_l2B (o + 8) (o + 1) (f_Report_openAll_l2 (o + 8) (o + 1) g) (nI i) M = _ ∧ _
    unfold f_Report_openAll_l2B
    rw [hC.2.2.1, if_neg (fun q => by have := (nI_leI (by omega) (by omega)).mp q; omega), bn, bn, bn, hR.op, nI_1, ms_k _ _ (show (8 : Nat) ≠ 7 by decide), hR.cu, nI_1, ms_k _ _ (show (9 : Nat) ≠ 8 by decide), ms_k _ _ (show (9 : Nat) ≠ 7 by decide), hR.mo, ms_s, max_nI (by omega) (by omega), if_pos G, nI_clamp (by omega)]
    have hR1 : RpIs o (mset (mset (mset M (o + 8) 7 (nI (op + 1))) (o + 8) 8 (nI (cu + 1))) (o + 8) 9 (nI (max mo (cu + 1)))) lg (op + 1) (cu + 1) (max mo (cu + 1)) := by
      refine ⟨?_, hR.l, ?_, ?_, ?_, ?_⟩
      · rw [ms_k _ _ (by decide), ms_k _ _ (by decide), ms_k _ _ (by decide)]; exact hR.s
      · exact hR.h.same (fun j _ => by rw [ms_c _ _ (by omega), ms_c _ _ (by omega), ms_c _ _ (by omega)])
      · rw [ms_k _ _ (by decide), ms_k _ _ (by decide), ms_s]
      · rw [ms_k _ _ (by decide), ms_s]
      · rw [ms_s]
    have o1 : Out (RpP o) M (mset (mset (mset M (o + 8) 7 (nI (op + 1))) (o + 8) 8 (nI (cu + 1))) (o + 8) 9 (nI (max mo (cu + 1)))) := (Out.set (Or.inr ⟨rfl, by omega⟩)).trans ((Out.set (Or.inr ⟨rfl, by omega⟩)).trans (Out.set (Or.inr ⟨rfl, by omega⟩)))
    generalize (mset (mset (mset M (o + 8) 7 (nI (op + 1))) (o + 8) 8 (nI (cu + 1))) (o + 8) 9 (nI (max mo (cu + 1)))) = M1 at hR1 o1 ⊢
    have nC : ∀ c k, RpP o c k → ¬ (o + 1 ≤ c ∧ c ≤ o + 6) := fun c k q => by unfold RpP at q; omega
    have hC1 := hC.out o1 nC
    rw [show o + 1 + 1 = o + 2 by omega, (hC1.2.2.2.2.1 i (by omega)).1]
    obtain ⟨M2, a1, a2, a3⟩ := u_tell (x := cd i) hR1
    rw [a1, Option.bind_some, nI_1]
    obtain ⟨M3, b1, b2, b3⟩ := ih (i + 1) g M2 _ _ _ _ (by omega) (by omega) (hC1.out a3 nC) a2 (by omega) (by omega) (by omega)
    refine ⟨M3, b1, ?_, o1.trans (a3.trans b3)⟩
    have e1 : op + 1 + d = op + (d + 1) := by omega
    have e2 : cu + 1 + d = cu + (d + 1) := by omega
    have e3 : max (max mo (cu + 1)) (cu + 1 + d) = max mo (cu + (d + 1)) := by omega
    rw [e3, e1, e2] at b2
    exact b2

theorem nI_m1 {n : Nat} (h : 0 < n) : nI n + (-1) = nI (n - 1) := by
  have : nI n = nI (n - 1) + 1 := by rw [nI_1]; congr 1; omega
  rw [this, Int32.add_assoc]
  show nI (n - 1) + (1 + -1) = _
  rw [show (1 : Int32) + -1 = 0 by decide, Int32.add_zero]
/-- the codes of a course from a place down, shut -/
def cdx (cd : Nat → Int32) : Nat → List Int32
  | 0 => []
  | d + 1 => (10 + cd d) :: cdx cd d
theorem RpC {o : Nat} : ∀ c k, RpP o c k → ¬ (o + 1 ≤ c ∧ c ≤ o + 6) := fun c k q => by unfold RpP at q; omega
theorem u_shutL {o : Nat} (ho : isRun o) {cd fg : Nat → Int32} {n : Nat} {jn : Int32} {np : Nat} {pk pv : Nat → Int32} : ∀ (d fuel : Nat) (M : Mem) (lg : List Int32) (op cu mo : Nat), d ≤ n → d < fuel → CRel o M cd fg n jn np pk pv → RpIs o M lg op cu mo → d ≤ cu →
    ∃ M', f_Report_shutAll_l7 (o + 8) (o + 1) fuel (nI d + (-1)) M = some M' ∧ RpIs o M' (tells lg (cdx cd d)) op (cu - d) mo ∧ Out (RpP o) M M' := by
  intro d
  induction d with
  | zero =>
    intro fuel M lg op cu mo hd hf hC hR h1
    obtain ⟨g, rfl⟩ : ∃ g, fuel = g + 1 := ⟨fuel - 1, by omega⟩
    refine ⟨M, ?_, hR, Out.rfl⟩
    show f_Report_shutAll_l7B (o + 8) (o + 1) (f_Report_shutAll_l7 (o + 8) (o + 1) g) (nI 0 + (-1)) M = _
    unfold f_Report_shutAll_l7B
    rw [if_pos (by decide)]
  | succ d ih =>
    intro fuel M lg op cu mo hd hf hC hR h1
    have hn := hC.1
    obtain ⟨g, rfl⟩ : ∃ g, fuel = g + 1 := ⟨fuel - 1, by omega⟩
    have G : gin (nI d) 14 := gin_t (by omega) (by decide)
    have hneg : ¬ nI d < 0 := fun q => by have := (nI_ltI (a := d) (b := 0) (by omega) (by decide)).mp q; omega
    show ∃ M', f_Report_shutAll_l7B (o + 8) (o + 1) (f_Report_shutAll_l7 (o + 8) (o + 1) g) (nI (d + 1) + (-1)) M = _ ∧ _
    unfold f_Report_shutAll_l7B
    rw [nI_m1 (by omega), show d + 1 - 1 = d by omega, if_neg hneg, bn, if_pos G, nI_clamp (by omega), hR.cu, nI_sub1 (by omega)]
    have hR1 : RpIs o (mset M (o + 8) 8 (nI (cu - 1))) lg op (cu - 1) mo := by
      refine ⟨?_, hR.l, ?_, ?_, ?_, ?_⟩
      · rw [ms_k _ _ (by decide)]; exact hR.s
      · exact hR.h.same (fun j _ => by rw [ms_c _ _ (by omega)])
      · rw [ms_k _ _ (by decide)]; exact hR.op
      · rw [ms_s]
      · rw [ms_k _ _ (by decide)]; exact hR.mo
    have o1 : Out (RpP o) M (mset M (o + 8) 8 (nI (cu - 1))) := Out.set (Or.inr ⟨rfl, by omega⟩)
    generalize mset M (o + 8) 8 (nI (cu - 1)) = M1 at hR1 o1 ⊢
    have hC1 := hC.out o1 RpC
    rw [show o + 1 + 1 = o + 2 by omega, (hC1.2.2.2.2.1 d (by omega)).1]
    obtain ⟨M2, a1, a2, a3⟩ := u_tell (x := 10 + cd d) hR1
    rw [a1, Option.bind_some]
    obtain ⟨M3, b1, b2, b3⟩ := ih g M2 _ _ _ _ (by omega) (by omega) (hC1.out a3 RpC) a2 (by omega)
    refine ⟨M3, b1, ?_, o1.trans (a3.trans b3)⟩
    rw [show cu - 1 - d = cu - (d + 1) by omega] at b2
    exact b2
theorem u_shut {o : Nat} (ho : isRun o) {M : Mem} {cd fg : Nat → Int32} {n : Nat} {jn : Int32} {np : Nat} {pk pv : Nat → Int32} {lg : List Int32} {op cu mo : Nat} (hC : CRel o M cd fg n jn np pk pv) (hR : RpIs o M lg op cu mo) (h1 : n ≤ cu) :
    ∃ M', f_Report_shutAll (o + 8) (o + 1) M = some M' ∧ RpIs o M' (tells lg (cdx cd n)) op (cu - n) mo ∧ Out (RpP o) M M' := by
  have hn := hC.1
  unfold f_Report_shutAll
  rw [bn, hC.2.2.1, show nI n - 1 = nI n + (-1) from Int32.sub_eq_add_neg _ _]
  exact u_shutL ho n FU M lg op cu mo (Nat.le_refl _) (Nat.lt_trans (by omega) fu_lt) hC hR h1
def BgP (o c k : Nat) : Prop := FdP o c k ∨ RpP o c k
theorem u_begin {o : Nat} (ho : isRun o) {M : Mem} {cd fg : Nat → Int32} {n : Nat} {jn : Int32} {np : Nat} {pk pv : Nat → Int32} {lg : List Int32} {op cu mo : Nat} (hC : CRel o M cd fg n jn np pk pv) (hR : RpIs o M lg op cu mo) (h1 : op < 5000) (h2 : cu ≤ mo) (h3 : mo < 5000) :
    ∃ M', f_Run_begin o M = some M' ∧ SRel o M' (fun _ => [], M (o + 8) 6, 0, fun _ => tl0) ∧ RpIs o M' (tells lg (cds cd n 0)) (op + n) (cu + n) (max mo (cu + n)) ∧ Out (BgP o) M M' := by
  have hn := hC.1
  unfold f_Run_begin
  rw [bn]
  have o0 : Out (FdP o) M (mset M o 5 0) := Out.set (Or.inr (Or.inr (Or.inl ⟨rfl, rfl⟩)))
  obtain ⟨M1, a1, a2, a3, a4⟩ := u_keptClear (M := mset M o 5 0)
  have o1 : Out (FdP o) M M1 := o0.trans (a4.mono (fun c k q => by unfold FdP; rcases q with q | q; exact Or.inl q; exact Or.inr (Or.inr (Or.inr q))))
  have x5 : M1 o 5 = 0 := by rw [a4 _ _ (by unfold KpP; unfold isRun at ho; omega), ms_s]
  have x6 : M1 (o + 8) 6 = M (o + 8) 6 := by rw [a4 _ _ (by unfold KpP; unfold isRun at ho; omega), ms_c _ _ (by omega)]
  rw [a1, Option.bind_some]
  have nR : ∀ c k, FdP o c k → ¬ RpP o c k := fun c k q => by unfold FdP KpP at q; unfold RpP; unfold isRun at ho; omega
  have hR1 := hR.out o1 nR
  obtain ⟨M2, b1, b2, b3⟩ := u_openL ho n 0 FU M1 lg op cu mo (by omega) (Nat.lt_trans (by omega) fu_lt) (hC.out o1 (FdC ho)) hR1 (by omega) h2 (by omega)
  refine ⟨M2, ?_, ⟨?_, ?_, ?_, ?_⟩, b2, (o1.mono (fun c k q => Or.inl q)).trans (b3.mono (fun c k q => Or.inr q))⟩
  · unfold f_Report_openAll
    rw [show (0 : Int32) = nI 0 from rfl, b1, Option.bind_some]
  · exact a2.out b3 (fun c k q => by unfold RpP at q; unfold KpP; unfold isRun at ho; omega)
  · rw [b3 _ _ (by unfold RpP; omega)]; exact x6
  · rw [b3 _ _ (by unfold RpP; omega)]; exact x5
  · intro p hp k hk
    rw [b3 _ _ (by unfold RpP; unfold isRun at ho; omega)]
    exact a3 p hp k hk
