-- ===== questions asked =====
def tmM (t : Nat → Int32) : Mem := fun _ k => t k
theorem tm_err {c : Nat} {M : Mem} {t : Nat → Int32} {en : Int32} (h : ∀ k, k < 6 → M c k = t k) : f_Tally_isError c M en = f_Tally_isError 0 (tmM t) en := by
  unfold f_Tally_isError f_Tally_isError_b17
  rw [h 0 (by decide)]
  rfl
theorem tm_mean {c : Nat} {M : Mem} {t : Nat → Int32} (h : ∀ k, k < 6 → M c k = t k) : f_Tally_mean c M = f_Tally_mean 0 (tmM t) := by
  unfold f_Tally_mean
  rw [h 1 (by decide), h 2 (by decide)]
  rfl
theorem tm_isIn {c : Nat} {M : Mem} {t : Nat → Int32} {v : Int32} (h : ∀ k, k < 6 → M c k = t k) : f_Tally_isIn c M v = f_Tally_isIn 0 (tmM t) v := by
  unfold f_Tally_isIn f_Tally_isIn_b32 f_Tally_isIn_b36
  rw [h 0 (by decide), h 1 (by decide), h 5 (by decide)]
  rfl
theorem tm_out {c : Nat} {M : Mem} {t : Nat → Int32} {en v : Int32} (h : ∀ k, k < 6 → M c k = t k) : f_Tally_outcome c M en v = f_Tally_outcome 0 (tmM t) en v := by
  unfold f_Tally_outcome
  rw [tm_mean h, tm_isIn h, h 0 (by decide), h 1 (by decide), h 2 (by decide), h 3 (by decide), h 4 (by decide)]
  rfl
/-- an outer row settled: the row in error, the answers and means so far -/
def stl (en hv : Int32) (t : Nat → Int32) (i er : Int32) (l : List (Int32 × Int32)) : Option (Int32 × List (Int32 × Int32)) :=
  if f_Tally_isError 0 (tmM t) en = 0 then (f_Tally_outcome 0 (tmM t) en hv).bind fun a => (f_Tally_mean 0 (tmM t)).bind fun m => some (er, l ++ [(a, UInt32.toInt32 m)])
  else some (i, l)
def AnIs (o : Nat) (M : Mem) (er : Int32) (l : List (Int32 × Int32)) : Prop := M (o + 8) 4 = er ∧ SH (M (o + 9)) (M (o + 10)) l
def AnP (o c k : Nat) : Prop := c = o + 9 ∨ c = o + 10 ∨ (c = o + 8 ∧ k = 4)
theorem AnIs.out {o : Nat} {M M' : Mem} {er : Int32} {l : List (Int32 × Int32)} {P : Nat → Nat → Prop} (h : AnIs o M er l) (ou : Out P M M') (hp : ∀ c k, P c k → ¬ AnP o c k) : AnIs o M' er l :=
  ⟨by rw [ou _ _ (fun q => hp _ _ q (Or.inr (Or.inr ⟨rfl, rfl⟩)))]; exact h.1, h.2.1.same (fun j _ => ou _ _ (fun q => hp _ _ q (Or.inl rfl))), h.2.2.same (fun j _ => ou _ _ (fun q => hp _ _ q (Or.inr (Or.inl rfl))))⟩
theorem u_settle {o : Nat} (ho : isRun o) {c : Nat} (hc : 45 ≤ c ∧ c ≤ 54) {M : Mem} {t : Nat → Int32} {en hv er : Int32} {l : List (Int32 × Int32)} (ht : ∀ k, k < 6 → M c k = t k) (hA : AnIs o M er l) (hl : l.length < 10) {er' : Int32} {l' : List (Int32 × Int32)} (hs : stl en hv t (nI l.length) er l = some (er', l')) :
    ∃ M', f_Report_settle (o + 8) c M (nI l.length) en hv = some M' ∧ AnIs o M' er' l' ∧ Out (AnP o) M M' := by
  have hci : (nI l.length).toNatClampNeg = l.length := nI_clamp (by omega)
  have G : gin (nI l.length) 10 := gin_t hl (by decide)
  unfold f_Report_settle
  unfold stl at hs
  rw [tm_err ht]
  by_cases e : f_Tally_isError 0 (tmM t) en = 0
  · rw [if_pos e] at hs ⊢
    cases ha : f_Tally_outcome 0 (tmM t) en hv with
    | none => rw [ha] at hs; cases hs
    | some a =>
      cases hm : f_Tally_mean 0 (tmM t) with
      | none => rw [ha, hm] at hs; cases hs
      | some m =>
        rw [ha, hm] at hs
        have hs : some (er, l ++ [(a, UInt32.toInt32 m)]) = some (er', l') := hs
        injection hs with hs
        injection hs with h1 h2
        subst h1
        subst h2
        have e1 : f_Tally_mean c (mset M (o + 9) l.length a) = some m := by
          rw [tm_mean (t := t) (fun k hk => by rw [ms_c _ _ (by unfold isRun at ho; omega)]; exact ht k hk)]
          exact hm
        rw [tm_out ht, ha, Option.bind_some, if_pos G, bn]
        simp only [hci]
        rw [show o + 8 + 1 = o + 9 by omega, e1, Option.bind_some, if_pos G, bn, show o + 8 + 2 = o + 10 by omega]
        refine ⟨_, rfl, ⟨?_, ?_⟩, (Out.set (Or.inl rfl)).trans (Out.set (Or.inr (Or.inl rfl)))⟩
        · rw [ms_c _ _ (by omega), ms_c _ _ (by omega)]; exact hA.1
        · refine hA.2.snoc (fun j hj => ?_) (fun j hj => ?_) ?_ ?_
          · rw [ms_c _ _ (by omega), ms_k _ _ (by omega)]
          · rw [ms_k _ _ (by omega), ms_c _ _ (by omega)]
          · rw [ms_c _ _ (by omega), ms_s]
          · rw [ms_s]
  · rw [if_neg e] at hs ⊢
    injection hs with hs
    injection hs with h1 h2
    subst h1
    subst h2
    rw [bn]
    refine ⟨_, rfl, ⟨by rw [ms_s], ?_⟩, Out.set (Or.inr (Or.inr ⟨rfl, rfl⟩))⟩
    exact ⟨hA.2.1.same (fun j _ => by rw [ms_c _ _ (by omega)]), hA.2.2.same (fun j _ => by rw [ms_c _ _ (by omega)])⟩
-- the functions of a list of pairs
def fs1 (l : List (Int32 × Int32)) : Nat → Int32 := fun j => (l.getD j (0, 0)).1
def fs2 (l : List (Int32 × Int32)) : Nat → Int32 := fun j => (l.getD j (0, 0)).2
theorem SH.fs {f g : Nat → Int32} {l : List (Int32 × Int32)} (h : SH f g l) {j : Nat} (hj : j < l.length) : f j = fs1 l j ∧ g j = fs2 l j := by
  refine ⟨?_, ?_⟩
  · rw [h.1 j (by rw [List.length_map]; exact hj)]
    unfold fs1
    simp [List.getD_eq_getElem?_getD, hj]
  · rw [h.2 j (by rw [List.length_map]; exact hj)]
    unfold fs2
    simp [List.getD_eq_getElem?_getD, hj]
theorem mk_CRel {o : Nat} {M : Mem} {co ps : List (Int32 × Int32)} {jn : Int32} (h : CoIs (o + 1) M co jn) (hp : PaIs (o + 4) M ps) : CRel o M (fs1 co) (fs2 co) co.length jn ps.length (fs1 ps) (fs2 ps) :=
  ⟨h.2.1, hp.2.1, h.1, h.2.2.2, fun j hj => h.2.2.1.fs hj, hp.1, fun j hj => hp.2.2.fs hj⟩
/-- the inner rows, packed -/
def inr (li : List (Int32 × Int32)) : List Int32 := (List.range li.length).map (fun i => f_Run_packed (fs1 li i) (fs2 li i) 0)
/-- all rows read and handed on late: how many were read, and the state then -/
def crun (co : List (Int32 × Int32)) (jo : Option Nat) (ps : List (Int32 × Int32)) (w : Int32) (li : List (Int32 × Int32)) (rd hd : Int32) : Int32 × ST :=
  ((cfl (fs1 co) (fs2 co) co.length jo ps.length (fs1 ps) (fs2 ps) w 1 (inr li) rd (fun _ => [], hd, 0, fun _ => tl0)).1,
   chk (fs1 co) (fs2 co) co.length jo ps.length (fs1 ps) (fs2 ps) w (co.length - 1) 1 (cfl (fs1 co) (fs2 co) co.length jo ps.length (fs1 ps) (fs2 ps) w 1 (inr li) rd (fun _ => [], hd, 0, fun _ => tl0)).2)
def RuP (o c k : Nat) : Prop := ReP o c k ∨ RpP o c k
theorem u_run {o : Nat} (ho : isRun o) {M : Mem} {co ps li : List (Int32 × Int32)} {jo : Option Nat} {w : Int32} {lg : List Int32} {op cu mo : Nat} (hn1 : 1 ≤ co.length) (hli : li.length ≤ 10) (hjo : ∀ j, jo = some j → j < co.length) (hC : CRel o M (fs1 co) (fs2 co) co.length (jnI jo) ps.length (fs1 ps) (fs2 ps)) (hR : RpIs o M lg op cu mo) (h1 : op < 5000) (h2 : cu ≤ mo) (h3 : mo < 5000) (hw : M o 4 = w) (hm : M 7 2 = nI li.length) (hS : SH (M 8) (M 9) li) :
    ∃ M', ((f_Run_begin o M).bind fun q7 => (f_Run_readInner o 7 q7).bind fun q8 => f_Run_handOnKept o q8) = some M' ∧ SRel o M' (crun co jo ps w li (M (o + 8) 5) (M (o + 8) 6)).2 ∧ M' (o + 8) 5 = (crun co jo ps w li (M (o + 8) 5) (M (o + 8) 6)).1 ∧ RpIs o M' (tells lg (cds (fs1 co) co.length 0)) (op + co.length) (cu + co.length) (max mo (cu + co.length)) ∧ Out (RuP o) M M' := by
  have hn := hC.1
  obtain ⟨M1, a1, a2, a3, a4⟩ := u_begin ho hC hR h1 h2 h3
  have nB : ∀ c k, BgP o c k → ¬ (o + 1 ≤ c ∧ c ≤ o + 6) := fun c k q => by unfold BgP FdP RpP KpP at q; unfold isRun at ho; omega
  have nX : ∀ c k, (c = 7 ∨ c = 8 ∨ c = 9 ∨ (c = o ∧ k = 4) ∨ (c = o + 8 ∧ k = 5)) → ¬ BgP o c k := fun c k hc q => by unfold BgP FdP RpP KpP at q; unfold isRun at ho; omega
  have x5 : M1 (o + 8) 5 = M (o + 8) 5 := a4 _ _ (nX _ _ (by omega))
  obtain ⟨M2, b1, b2, b3, b4⟩ := u_readInner ho (w := w) (m := li.length) (K := fs1 li) (V := fs2 li) hn1 hli hjo (inr li) 0 FU M1 _ (by unfold inr; rw [List.length_map, List.length_range]; omega) (by unfold inr; rw [List.length_map, List.length_range]; exact Nat.lt_trans (by omega) fu_lt) rfl (hC.out a4 nB) a2 (by rw [a4 _ _ (nX _ _ (by omega))]; exact hw) (by rw [a4 _ _ (nX _ _ (by omega))]; exact hm) (fun i hi => by rw [a4 _ _ (nX _ _ (by omega)), a4 _ _ (nX _ _ (by omega))]; exact hS.fs hi)
  rw [x5] at b2 b3
  have o2 : Out (RuP o) M M2 := (a4.mono (fun c k q => by rcases q with q | q; exact Or.inl (Or.inl q); exact Or.inr q)).trans (b4.mono (fun c k q => Or.inl q))
  have nR : ∀ c k, RuP o c k → ¬ (o + 1 ≤ c ∧ c ≤ o + 6) := fun c k q => by unfold RuP ReP FdP RpP KpP at q; unfold isRun at ho; omega
  obtain ⟨M3, c1, c2, c3⟩ := u_handOn ho (w := w) hjo (co.length - 1) 1 FU M2 _ (by omega) (Nat.lt_trans (by omega) fu_lt) (hC.out o2 nR) b2 (by rw [o2 _ _ (by unfold RuP ReP FdP RpP KpP; unfold isRun at ho; omega)]; exact hw)
  refine ⟨M3, ?_, c2, ?_, ?_, o2.trans (c3.mono (fun c k q => Or.inl (Or.inl q)))⟩
  · rw [a1, Option.bind_some]
    unfold f_Run_readInner
    have b1' : f_Run_readInner_l2 o 7 FU 0 M1 = some M2 := b1
    rw [b1', Option.bind_some]
    exact c1
  · rw [c3 _ _ (by unfold FdP KpP; unfold isRun at ho; omega)]
    exact b3
  · refine (a3.out b4 (fun c k q => ?_)).out c3 (fun c k q => ?_)
    · unfold ReP FdP KpP at q; unfold RpP; unfold isRun at ho; omega
    · unfold FdP KpP at q; unfold RpP; unfold isRun at ho; omega

/-- a report while questions are asked: row in error, read, handed on, answers and means, log, opened, most open -/
abbrev RS : Type := Int32 × Int32 × Int32 × List (Int32 × Int32) × List Int32 × Nat × Nat
def RRel (o : Nat) (M : Mem) (s : RS) (cu : Nat) : Prop := AnIs o M s.1 s.2.2.2.1 ∧ M (o + 8) 5 = s.2.1 ∧ M (o + 8) 6 = s.2.2.1 ∧ RpIs o M s.2.2.2.2.1 s.2.2.2.2.2.1 cu s.2.2.2.2.2.2
def rs0 : RS := (-1, 0, 0, [], [], 0, 0)
theorem u_reportClear {o : Nat} {M : Mem} : RRel o (f_Report_clear (o + 8) M) rs0 0 ∧ Out (fun c k => c = o + 8) M (f_Report_clear (o + 8) M) := by
  unfold f_Report_clear
  simp only [bn]
  have o0 : ∀ (M : Mem) (k : Nat) (v : Int32), Out (fun c' k => c' = o + 8) M (mset M (o + 8) k v) := fun M k v => Out.set rfl
  refine ⟨⟨⟨?_, AH.nil, AH.nil⟩, ?_, ?_, ?_, Nat.zero_le _, AH.nil, ?_, ?_, ?_⟩, (o0 _ _ _).trans ((o0 _ _ _).trans ((o0 _ _ _).trans ((o0 _ _ _).trans ((o0 _ _ _).trans ((o0 _ _ _).trans (o0 _ _ _))))))⟩
  all_goals simp [ms, rs0]
  all_goals rfl
/-- one outer row asked row by row -/
def rb1 (en w : Int32) (co li : List (Int32 × Int32)) (x : Int32 × Int32) (s : RS) : Option RS :=
  (stl en x.2 ((crun co none [x] w li s.2.1 s.2.2.1).2.2.2.2 0) (nI s.2.2.2.1.length) s.1 s.2.2.2.1).bind fun q =>
    some (q.1, (crun co none [x] w li s.2.1 s.2.2.1).1, (crun co none [x] w li s.2.1 s.2.2.1).2.2.1, q.2, tells (tells s.2.2.2.2.1 (cds (fs1 co) co.length 0)) (cdx (fs1 co) co.length), s.2.2.2.2.2.1 + co.length, max s.2.2.2.2.2.2 co.length)
def rbA (en w : Int32) (co li : List (Int32 × Int32)) : List (Int32 × Int32) → RS → Option RS
  | [], s => some s
  | x :: l, s => if s.1 = -1 then (rb1 en w co li x s).bind (rbA en w co li l) else some s
def AkP (o c k : Nat) : Prop := KpP c k ∨ (45 ≤ c ∧ c ≤ 54) ∨ (o ≤ c ∧ c ≤ o + 11)
theorem u_rb1 {o : Nat} (ho : isRun o) {M : Mem} {co lo li : List (Int32 × Int32)} {x : Int32 × Int32} {en w : Int32} {s s' : RS} (hn1 : 1 ≤ co.length) (hli : li.length ≤ 10) (hi : s.2.2.2.1.length < 10) (hco : CoIs (o + 1) M co (-1)) (hs : RRel o M s 0) (h1 : s.2.2.2.2.2.1 < 5000) (h3 : s.2.2.2.2.2.2 < 5000) (hw : M o 4 = w) (hm : M 7 2 = nI li.length) (hS : SH (M 8) (M 9) li) (hx : rb1 en w co li x s = some s') (k : Mem → Option Mem) :
    ∃ M', (bnd (f_Pairs_setOne (o + 4) M x.1 x.2) fun q6 => (f_Run_begin o q6).bind fun q7 => (f_Run_readInner o 7 q7).bind fun q8 => (f_Run_handOnKept o q8).bind fun q9 =>
      (f_Report_settle (o + 8) 45 q9 (nI s.2.2.2.1.length) en x.2).bind fun q11 => (f_Report_shutAll (o + 8) (o + 1) q11).bind k) = k M' ∧ RRel o M' s' 0 ∧ CoIs (o + 1) M' co (-1) ∧ Out (fun c k => AkP o c k ∧ ¬ (c = o ∧ k = 4)) M M' := by
  rw [bn]
  obtain ⟨p1, p2⟩ := u_setOne (c := o + 4) (M := M) (x := x.1) (y := x.2)
  generalize f_Pairs_setOne (o + 4) M x.1 x.2 = M1 at p1 p2
  have nP : ∀ c k, PaP (o + 4) c k → ¬ (o + 1 ≤ c ∧ c ≤ o + 3) := fun c k q => by unfold PaP at q; omega
  have cow : ∀ {M M' : Mem} {P : Nat → Nat → Prop}, CoIs (o + 1) M co (-1) → Out P M M' → (∀ c k, P c k → ¬ (o + 1 ≤ c ∧ c ≤ o + 3)) → CoIs (o + 1) M' co (-1) := fun h ou hp =>
    ⟨by rw [ou _ _ (fun q => hp _ _ q (by omega))]; exact h.1, h.2.1, ⟨h.2.2.1.1.same (fun j _ => ou _ _ (fun q => hp _ _ q (by omega))), h.2.2.1.2.same (fun j _ => ou _ _ (fun q => hp _ _ q (by omega)))⟩, by rw [ou _ _ (fun q => hp _ _ q (by omega))]; exact h.2.2.2⟩
  have hco1 := cow hco p2 nP
  have hR1 := hs.2.2.2.out p2 (fun c k q => by unfold PaP at q; unfold RpP; omega)
  have hA1 := hs.1.out p2 (fun c k q => by unfold PaP at q; unfold AnP; omega)
  have y5 : M1 (o + 8) 5 = s.2.1 := by rw [p2 _ _ (by unfold PaP; omega)]; exact hs.2.1
  have y6 : M1 (o + 8) 6 = s.2.2.1 := by rw [p2 _ _ (by unfold PaP; omega)]; exact hs.2.2.1
  have nQ : ∀ c k, c < o → ¬ PaP (o + 4) c k := fun c k h q => by unfold PaP at q; omega
  have o55 : 55 ≤ o := by unfold isRun at ho; omega
  obtain ⟨M2, a1, a2, a3, a4, a5⟩ := u_run ho (jo := none) (w := w) hn1 hli (fun j h => by cases h) (mk_CRel hco1 p1) hR1 h1 (Nat.zero_le _) h3 (by rw [p2 _ _ (by unfold PaP; omega)]; exact hw) (by rw [p2 _ _ (nQ _ _ (by omega))]; exact hm) ⟨hS.1.same (fun j _ => p2 _ _ (nQ _ _ (by omega))), hS.2.same (fun j _ => p2 _ _ (nQ _ _ (by omega)))⟩
  rw [y5, y6] at a2 a3
  have hb : ∀ (f : Mem → Option Mem), ((f_Run_begin o M1).bind fun q7 => (f_Run_readInner o 7 q7).bind fun q8 => (f_Run_handOnKept o q8).bind f) = f M2 := fun f => by
    cases e1 : f_Run_begin o M1 with
    | none => rw [e1] at a1; cases a1
    | some q7 =>
      rw [e1] at a1
      have a1 : ((f_Run_readInner o 7 q7).bind fun q8 => f_Run_handOnKept o q8) = some M2 := a1
      cases e2 : f_Run_readInner o 7 q7 with
      | none => rw [e2] at a1; cases a1
      | some q8 =>
        rw [e2] at a1
        have a1 : f_Run_handOnKept o q8 = some M2 := a1
        rw [Option.bind_some, e2, Option.bind_some, a1, Option.bind_some]
  rw [hb]
  have nA : ∀ c k, RuP o c k → ¬ AnP o c k := fun c k q => by unfold RuP ReP FdP RpP KpP at q; unfold AnP; omega
  have hA2 := hA1.out a5 nA
  unfold rb1 at hx
  cases hst : stl en x.2 ((crun co none [x] w li s.2.1 s.2.2.1).2.2.2.2 0) (nI s.2.2.2.1.length) s.1 s.2.2.2.1 with
  | none => rw [hst] at hx; cases hx
  | some q =>
    rw [hst, Option.bind_some] at hx
    injection hx with hx
    obtain ⟨M3, b1, b2, b3⟩ := u_settle ho (c := 45) (by omega) (fun k hk => a2.2.2.2 0 (by decide) k hk) hA2 hi hst
    rw [b1, Option.bind_some]
    have nA2 : ∀ c k, AnP o c k → ¬ RpP o c k := fun c k q => by unfold AnP at q; unfold RpP; omega
    have hR3 := a4.out b3 nA2
    have hco3 : CoIs (o + 1) M3 co (-1) := cow (cow hco1 a5 (fun c k q => by unfold RuP ReP FdP RpP KpP at q; omega)) b3 (fun c k q => by unfold AnP at q; omega)
    have p3 : PaIs (o + 4) M3 [x] := by
      have e : ∀ c k, o + 4 ≤ c ∧ c ≤ o + 6 → M3 c k = M1 c k := fun c k hc => by
        rw [b3 _ _ (by unfold AnP; omega), a5 _ _ (by unfold RuP ReP FdP RpP KpP; unfold isRun at ho; omega)]
      exact ⟨by rw [e _ _ (by omega)]; exact p1.1, p1.2.1, p1.2.2.1.same (fun j _ => e _ _ (by omega)), p1.2.2.2.same (fun j _ => e _ _ (by omega))⟩
    obtain ⟨M4, c1, c2, c3⟩ := u_shut ho (mk_CRel hco3 p3) hR3 (by omega)
    rw [c1, Option.bind_some]
    have z : ∀ k, k = 5 ∨ k = 6 → M4 (o + 8) k = M2 (o + 8) k := fun k hk => by
      rw [c3 _ _ (by unfold RpP; omega), b3 _ _ (by unfold AnP; omega)]
    rw [← hx]
    refine ⟨M4, rfl, ⟨b2.out c3 (fun c k q w => nA2 c k w q), ?_, ?_, ?_⟩, cow hco3 c3 (fun c k q => by unfold RpP at q; omega), ?_⟩
    · rw [z 5 (by omega)]; exact a3
    · rw [z 6 (by omega)]; exact a2.2.1
    · rw [Nat.zero_add, Nat.sub_self] at c2
      exact c2
    · refine (p2.mono (fun c k q => ?_)).trans ((a5.mono (fun c k q => ?_)).trans ((b3.mono (fun c k q => ?_)).trans (c3.mono (fun c k q => ?_))))
      · unfold PaP at q; unfold AkP; omega
      · unfold RuP ReP FdP RpP at q; unfold AkP; unfold KpP at q ⊢; omega
      · unfold AnP at q; unfold AkP; omega
      · unfold RpP at q; unfold AkP; omega
