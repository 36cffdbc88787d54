-- ===== rows read, and rows handed on late =====
theorem cps_kp {cd fg : Nat → Int32} {np : Nat} {pk : Nat → Int32} : ∀ (d j : Nat) (r : Int32) (kp : KP) (h : Int32) (i : Nat), i < j → (cps cd fg np pk d j r kp h).2.1 i = kp i := by
  intro d
  induction d with
  | zero => intro j r kp h i hi; rfl
  | succ d ih =>
    intro j r kp h i hi
    unfold cps
    split
    · rfl
    · split
      · exact upF_n _ _ (by omega)
      · rw [ih (j + 1) _ _ _ i (by omega)]
        exact upF_n _ _ (by omega)
theorem carr_kp {np : Nat} {pv : Nat → Int32} {r : Int32} {s : ST} : (carr np pv r s).1 = s.1 := by
  unfold carr
  split
  · rfl
  · split <;> rfl
theorem cjl_kp {cd fg : Nat → Int32} {n j np : Nat} {pk pv : Nat → Int32} {r : Int32} : ∀ (d q : Nat) (s : ST) (i : Nat), i ≤ j → (cjl cd fg n j np pk pv r d q s).1 i = s.1 i := by
  intro d
  induction d with
  | zero => intro q s i hi; rfl
  | succ d ih =>
    intro q s i hi
    unfold cjl
    split
    · rw [ih _ _ i hi, carr_kp]
      exact cps_kp _ _ _ _ _ i (by omega)
    · exact ih _ _ i hi
theorem cfd_kp {cd fg : Nat → Int32} {n : Nat} {jo : Option Nat} {np : Nat} {pk pv : Nat → Int32} {r : Int32} {fr : Nat} {s : ST} {i : Nat} (h : i < fr) : (cfd cd fg n jo np pk pv r fr s).1 i = s.1 i := by
  unfold cfd
  cases jo with
  | none => show (carr _ _ _ _).1 i = _; rw [carr_kp]; exact cps_kp _ _ _ _ _ i h
  | some j =>
    show (if fr ≤ j then _ else _ : ST).1 i = _
    split
    · split
      · exact cps_kp _ _ _ _ _ i h
      · rw [cjl_kp _ _ _ i (by omega)]
        exact cps_kp _ _ _ _ _ i h
    · rw [carr_kp]; exact cps_kp _ _ _ _ _ i h
/-- rows fed at a place till enough have arrived; how many -/
def cfl (cd fg : Nat → Int32) (n : Nat) (jo : Option Nat) (np : Nat) (pk pv : Nat → Int32) (w : Int32) (fr : Nat) : List Int32 → Int32 → ST → Int32 × ST
  | [], c, s => (c, s)
  | r :: rs, c, s => if w ≤ s.2.2.1 then (c, s) else cfl cd fg n jo np pk pv w fr rs (c + 1) (cfd cd fg n jo np pk pv r fr (s.1, s.2.1 + 1, s.2.2))
theorem cfl_kp {cd fg : Nat → Int32} {n : Nat} {jo : Option Nat} {np : Nat} {pk pv : Nat → Int32} {w : Int32} {fr i : Nat} (h : i < fr) : ∀ (l : List Int32) (c : Int32) (s : ST), (cfl cd fg n jo np pk pv w fr l c s).2.1 i = s.1 i := by
  intro l
  induction l with
  | nil => intro c s; rfl
  | cons r l ih =>
    intro c s
    unfold cfl
    split
    · rfl
    · rw [ih, cfd_kp h]
theorem SRel.hd {o : Nat} (ho : isRun o) {M : Mem} {s : ST} (hs : SRel o M s) : SRel o (mset M (o + 8) 6 (M (o + 8) 6 + 1)) (s.1, s.2.1 + 1, s.2.2) := ⟨hs.1.out (P := fun c k => c = o + 8) (Out.set rfl) (fun c k w => by unfold KpP; unfold isRun at ho; omega), by rw [ms_s, hs.2.1], by rw [ms_c _ _ (by omega)]; exact hs.2.2.1, fun p hp k hk => by rw [ms_c _ _ (by unfold isRun at ho; omega)]; exact hs.2.2.2 p hp k hk⟩
def ReP (o c k : Nat) : Prop := FdP o c k ∨ (c = o + 8 ∧ k = 5)
theorem ReC {o : Nat} (ho : isRun o) : ∀ c k, ReP o c k → ¬ (o + 1 ≤ c ∧ c ≤ o + 6) := fun c k q => by
  unfold ReP FdP KpP at q
  unfold isRun at ho
  omega
theorem u_readInner {o : Nat} (ho : isRun o) {cd fg : Nat → Int32} {n : Nat} {jo : Option Nat} {np : Nat} {pk pv : Nat → Int32} {w : Int32} {m : Nat} {K V : Nat → Int32} (hn1 : 1 ≤ n) (hm : m ≤ 10) (hjo : ∀ j, jo = some j → j < n) : ∀ (l : List Int32) (i fuel : Nat) (M : Mem) (s : ST), l.length + i = m → l.length < fuel → l = ((List.range m).map (fun i => f_Run_packed (K i) (V i) 0)).drop i → CRel o M cd fg n (jnI jo) np pk pv → SRel o M s → M o 4 = w → M 7 2 = nI m → (∀ i, i < m → M 8 i = K i ∧ M 9 i = V i) →
    ∃ M', f_Run_readInner_l2 o 7 fuel (nI i) M = some M' ∧ SRel o M' (cfl cd fg n jo np pk pv w 1 l (M (o + 8) 5) s).2 ∧ M' (o + 8) 5 = (cfl cd fg n jo np pk pv w 1 l (M (o + 8) 5) s).1 ∧ Out (ReP o) M M' := by
  intro l
  induction l with
  | nil =>
    intro i fuel M s hi hf hl hC hs hw hm2 hkv
    have hf : 0 < fuel := hf
    obtain ⟨g, rfl⟩ : ∃ g, fuel = g + 1 := ⟨fuel - 1, by omega⟩
    have hi : 0 + i = m := hi
    refine ⟨M, ?_, hs, rfl, Out.rfl⟩
    show f_Run_readInner_l2B o 7 (f_Run_readInner_l2 o 7 g) (nI i) M = _
    unfold f_Run_readInner_l2B
    rw [hm2, show i = m by omega, if_pos (Int32.le_refl _)]
  | cons r l ih =>
    intro i fuel M s hi hf hl hC hs hw hm2 hkv
    have hf : l.length + 1 < fuel := hf
    have hi : l.length + 1 + i = m := hi
    obtain ⟨g, rfl⟩ : ∃ g, fuel = g + 1 := ⟨fuel - 1, by omega⟩
    have him : i < m := by omega
    have hr : r = f_Run_packed (K i) (V i) 0 ∧ l = ((List.range m).map (fun i => f_Run_packed (K i) (V i) 0)).drop (i + 1) := by
      have hlen : i < ((List.range m).map (fun i => f_Run_packed (K i) (V i) 0)).length := by rw [List.length_map, List.length_range]; exact him
      rw [List.drop_eq_getElem_cons hlen] at hl
      injection hl with e1 e2
      refine ⟨?_, e2⟩
      rw [e1, List.getElem_map, List.getElem_range]
    show ∃ M', f_Run_readInner_l2B o 7 (f_Run_readInner_l2 o 7 g) (nI i) M = _ ∧ _
    unfold f_Run_readInner_l2B
    rw [hm2, if_neg (fun q => by have := (nI_leI (by omega) (by omega)).mp q; omega), hw, hs.2.2.1]
    unfold cfl
    by_cases hwa : w ≤ s.2.2.1
    · rw [if_pos hwa, if_pos hwa]
      exact ⟨M, rfl, hs, rfl, Out.rfl⟩
    · have G : gin (nI i) 10 := gin_t (by omega) (by decide)
      rw [if_neg hwa, if_neg hwa, bn, bn, if_pos G, if_pos G, nI_clamp (by omega)]
      have o0 : Out (ReP o) M (mset M (o + 8) 5 (M (o + 8) 5 + 1)) := Out.set (Or.inr ⟨rfl, rfl⟩)
      have hs0 : SRel o (mset M (o + 8) 5 (M (o + 8) 5 + 1)) s := ⟨hs.1.out (P := fun c k => c = o + 8) (Out.set rfl) (fun c k w => by unfold KpP; unfold isRun at ho; omega), by rw [ms_k _ _ (by decide)]; exact hs.2.1, by rw [ms_c _ _ (by omega)]; exact hs.2.2.1, fun p hp k hk => by rw [ms_c _ _ (by unfold isRun at ho; omega)]; exact hs.2.2.2 p hp k hk⟩
      have hs1 := hs0.hd ho
      have o1 : Out (ReP o) M (mset (mset M (o + 8) 5 (M (o + 8) 5 + 1)) (o + 8) 6 (mset M (o + 8) 5 (M (o + 8) 5 + 1) (o + 8) 6 + 1)) := o0.trans (Out.set (Or.inl (Or.inr (Or.inl ⟨rfl, rfl⟩))))
      have h5 : (mset (mset M (o + 8) 5 (M (o + 8) 5 + 1)) (o + 8) 6 (mset M (o + 8) 5 (M (o + 8) 5 + 1) (o + 8) 6 + 1)) (o + 8) 5 = M (o + 8) 5 + 1 := by rw [ms_k _ _ (by decide), ms_s]
      generalize (mset (mset M (o + 8) 5 (M (o + 8) 5 + 1)) (o + 8) 6 (mset M (o + 8) 5 (M (o + 8) 5 + 1) (o + 8) 6 + 1)) = M1 at hs1 o1 h5 ⊢
      have nm : ∀ c k, (c = 7 ∨ c = 8 ∨ c = 9 ∨ (c = o ∧ k = 4)) → ¬ ReP o c k := fun c k hc q => by unfold ReP FdP KpP at q; unfold isRun at ho; omega
      rw [show 7 + 1 = 8 from rfl, show 7 + 2 = 9 from rfl, o1 8 i (nm 8 i (by omega)), o1 9 i (nm 9 i (by omega)), (hkv i him).1, (hkv i him).2, ← hr.1]
      obtain ⟨M2, a1, a2, a3⟩ := u_feed ho (r := r) (fr := 1) hjo (hC.out o1 (ReC ho)) hs1 hn1
      have a1 : f_Run_feed o M1 r 1 = some M2 := a1
      rw [a1, Option.bind_some, nI_1]
      have o2 : Out (ReP o) M M2 := o1.trans (a3.mono (fun c k q => Or.inl q))
      have h52 : M2 (o + 8) 5 = M (o + 8) 5 + 1 := by rw [a3 _ _ (by unfold FdP KpP; unfold isRun at ho; omega)]; exact h5
      obtain ⟨M3, b1, b2, b3, b4⟩ := ih (i + 1) g M2 _ (by omega) (by omega) hr.2 (hC.out o2 (ReC ho)) a2 (by rw [o2 _ _ (nm o 4 (by omega))]; exact hw) (by rw [o2 _ _ (nm 7 2 (by omega))]; exact hm2) (fun q hq => by rw [o2 8 q (nm 8 q (by omega)), o2 9 q (nm 9 q (by omega))]; exact hkv q hq)
      rw [h52] at b2 b3
      exact ⟨M3, b1, b2, b3, o2.trans b4⟩
/-- the rows that pairs are -/
def prow (pk pv : Nat → Int32) (np : Nat) : List Int32 := (List.range np).map (fun i => f_Run_packed (pk i) (pv i) (nI i))
theorem u_handU {o : Nat} (ho : isRun o) {cd fg : Nat → Int32} {n : Nat} {jo : Option Nat} {np : Nat} {pk pv : Nat → Int32} {w : Int32} {pl : Nat} (hpl : pl < n) (hjo : ∀ j, jo = some j → j < n) (k2 : Int32 → Mem → Option Mem) : ∀ (l : List Int32) (i fuel : Nat) (M : Mem) (s : ST) (c : Int32), l.length + i = np → l.length < fuel → l = (prow pk pv np).drop i → CRel o M cd fg n (jnI jo) np pk pv → SRel o M s → M o 4 = w →
    ∃ M', f_Run_handOnKept_l25 o k2 fuel (nI pl) 4 (nI i) M = k2 (nI (pl + 1)) M' ∧ SRel o M' (cfl cd fg n jo np pk pv w (pl + 1) l c s).2 ∧ Out (FdP o) M M' := by
  intro l
  -- behind the pairs
  have last : ∀ (M : Mem), f_Run_handOnKept_b100 o k2 (nI pl) 4 M = k2 (nI (pl + 1)) M := fun M => by
    unfold f_Run_handOnKept_b100
    show f_Run_handOnKept_l102B o k2 (f_Run_handOnKept_l102 o k2 999) (nI pl) 4 0 M = _
    unfold f_Run_handOnKept_l102B f_Run_handOnKept_b169
    rw [if_neg (by decide), nI_1]
  induction l with
  | nil =>
    intro i fuel M s c hi hf hl hC hs hw
    have hf : 0 < fuel := hf
    have hi : 0 + i = np := hi
    obtain ⟨g, rfl⟩ : ∃ g, fuel = g + 1 := ⟨fuel - 1, by omega⟩
    refine ⟨M, ?_, hs, Out.rfl⟩
    show f_Run_handOnKept_l25B o k2 (f_Run_handOnKept_l25 o k2 g) (nI pl) 4 (nI i) M = _
    unfold f_Run_handOnKept_l25B
    rw [if_pos rfl, hC.2.2.2.2.2.1, show i = np by omega, if_pos (Int32.le_refl _), last]
  | cons r l ih =>
    intro i fuel M s c hi hf hl hC hs hw
    have hnp := hC.2.1
    have hn := hC.1
    have hf : l.length + 1 < fuel := hf
    have hi : l.length + 1 + i = np := hi
    obtain ⟨g, rfl⟩ : ∃ g, fuel = g + 1 := ⟨fuel - 1, by omega⟩
    have him : i < np := by omega
    have hr : r = f_Run_packed (pk i) (pv i) (nI i) ∧ l = (prow pk pv np).drop (i + 1) := by
      have hlen : i < (prow pk pv np).length := by unfold prow; rw [List.length_map, List.length_range]; exact him
      rw [List.drop_eq_getElem_cons hlen] at hl
      injection hl with e1 e2
      refine ⟨?_, e2⟩
      have : (prow pk pv np)[i] = f_Run_packed (pk i) (pv i) (nI i) := by simp [prow]
      exact e1.trans this
    show ∃ M', f_Run_handOnKept_l25B o k2 (f_Run_handOnKept_l25 o k2 g) (nI pl) 4 (nI i) M = _ ∧ _
    unfold f_Run_handOnKept_l25B
    rw [if_pos rfl, hC.2.2.2.2.2.1, if_neg (fun q => by have := (nI_leI (by omega) (by omega)).mp q; omega), hw, hs.2.2.1]
    unfold cfl
    by_cases hwa : w ≤ s.2.2.1
    · rw [if_pos hwa, if_pos hwa, last]
      exact ⟨M, rfl, hs, Out.rfl⟩
    · have G : gin (nI i) 10 := gin_t (by omega) (by decide)
      rw [if_neg hwa, if_neg hwa, bn, if_pos G, if_pos G, nI_clamp (by omega)]
      have hs1 := hs.hd ho
      have o1 : Out (FdP o) M (mset M (o + 8) 6 (M (o + 8) 6 + 1)) := Out.set (Or.inr (Or.inl ⟨rfl, rfl⟩))
      generalize mset M (o + 8) 6 (M (o + 8) 6 + 1) = M1 at hs1 o1 ⊢
      have hC1 := hC.out o1 (FdC ho)
      rw [show o + 4 + 1 = o + 5 by omega, show o + 4 + 2 = o + 6 by omega, (hC1.2.2.2.2.2.2 i him).1, (hC1.2.2.2.2.2.2 i him).2, ← hr.1, nI_1]
      obtain ⟨M2, a1, a2, a3⟩ := u_feed ho (r := r) (fr := pl + 1) hjo hC1 hs1 (by omega)
      rw [a1, Option.bind_some, nI_1]
      have o2 := o1.trans a3
      obtain ⟨M3, b1, b2, b3⟩ := ih (i + 1) g M2 _ (c + 1) (by omega) (by omega) hr.2 (hC.out o2 (FdC ho)) a2 (by rw [o2 _ _ (by unfold FdP KpP; unfold isRun at ho; omega)]; exact hw)
      exact ⟨M3, b1, b2, o2.trans b3⟩
theorem u_handG {o : Nat} (ho : isRun o) {cd fg : Nat → Int32} {n : Nat} {jo : Option Nat} {np : Nat} {pk pv : Nat → Int32} {w : Int32} {pl : Nat} (hpl : pl < n) (hjo : ∀ j, jo = some j → j < n) (k2 : Int32 → Mem → Option Mem) (L : List Int32) : ∀ (l : List Int32) (i fuel : Nat) (M : Mem) (s : ST) (c : Int32), l.length + i = L.length → l.length < fuel → l = L.drop i → s.1 pl = L → CRel o M cd fg n (jnI jo) np pk pv → SRel o M s → M o 4 = w →
    ∃ M', f_Run_handOnKept_l102 o k2 fuel (nI pl) 6 (nI i) M = k2 (nI (pl + 1)) M' ∧ SRel o M' (cfl cd fg n jo np pk pv w (pl + 1) l c s).2 ∧ Out (FdP o) M M' := by
  intro l
  have last : ∀ (M : Mem), f_Run_handOnKept_b169 o k2 (nI pl) M = k2 (nI (pl + 1)) M := fun M => by
    unfold f_Run_handOnKept_b169
    rw [nI_1]
  induction l with
  | nil =>
    intro i fuel M s c hi hf hl hL hC hs hw
    have hn := hC.1
    have hf : 0 < fuel := hf
    have hi : 0 + i = L.length := hi
    obtain ⟨g, rfl⟩ : ∃ g, fuel = g + 1 := ⟨fuel - 1, by omega⟩
    obtain ⟨k1, k3, k4⟩ := hs.1 pl (by omega)
    rw [hL] at k1
    refine ⟨M, ?_, hs, Out.rfl⟩
    show f_Run_handOnKept_l102B o k2 (f_Run_handOnKept_l102 o k2 g) (nI pl) 6 (nI i) M = _
    unfold f_Run_handOnKept_l102B
    have hcp : (nI pl).toNatClampNeg = pl := nI_clamp (by omega)
    have G0 : gin (nI pl) 14 := gin_t (by omega) (by decide)
    rw [if_pos rfl, if_pos G0]
    simp only [hcp]
    rw [k1, show i = L.length by omega, if_pos (Int32.le_refl _), last]
  | cons r l ih =>
    intro i fuel M s c hi hf hl hL hC hs hw
    have hn := hC.1
    have hf : l.length + 1 < fuel := hf
    have hi : l.length + 1 + i = L.length := hi
    obtain ⟨g, rfl⟩ : ∃ g, fuel = g + 1 := ⟨fuel - 1, by omega⟩
    have him : i < L.length := by omega
    obtain ⟨k1, k3, k4⟩ := hs.1 pl (by omega)
    rw [hL] at k1 k3 k4
    have hr : L.getD i 0 = r ∧ l = L.drop (i + 1) := by
      rw [List.drop_eq_getElem_cons him] at hl
      injection hl with e1 e2
      refine ⟨?_, e2⟩
      rw [e1, List.getD_eq_getElem?_getD, List.getElem?_eq_getElem him]
      rfl
    show ∃ M', f_Run_handOnKept_l102B o k2 (f_Run_handOnKept_l102 o k2 g) (nI pl) 6 (nI i) M = _ ∧ _
    unfold f_Run_handOnKept_l102B
    have hcp : (nI pl).toNatClampNeg = pl := nI_clamp (by omega)
    have G0 : gin (nI pl) 14 := gin_t (by omega) (by decide)
    rw [if_pos rfl, if_pos G0]
    simp only [hcp]
    rw [k1, if_neg (fun q => by have := (nI_leI (by omega) (by omega)).mp q; omega), hw, hs.2.2.1]
    unfold cfl
    by_cases hwa : w ≤ s.2.2.1
    · rw [if_pos hwa, if_pos hwa, last]
      exact ⟨M, rfl, hs, Out.rfl⟩
    · have G : gin (nI i) 220 := gin_t (by omega) (by decide)
      rw [if_neg hwa, if_neg hwa, bn, if_pos G0, if_pos G, nI_clamp (by omega)]
      have hs1 := hs.hd ho
      have o1 : Out (FdP o) M (mset M (o + 8) 6 (M (o + 8) 6 + 1)) := Out.set (Or.inr (Or.inl ⟨rfl, rfl⟩))
      have hrow : (mset M (o + 8) 6 (M (o + 8) 6 + 1)) (29 + pl) i = r := by
        rw [ms_c _ _ (by unfold isRun at ho; omega), k4 i him]
        exact hr.1
      rw [hrow]
      generalize mset M (o + 8) 6 (M (o + 8) 6 + 1) = M1 at hs1 o1 ⊢
      have hC1 := hC.out o1 (FdC ho)
      rw [nI_1]
      obtain ⟨M2, a1, a2, a3⟩ := u_feed ho (r := r) (fr := pl + 1) hjo hC1 hs1 (by omega)
      rw [a1, Option.bind_some, nI_1]
      have o2 := o1.trans a3
      obtain ⟨M3, b1, b2, b3⟩ := ih (i + 1) g M2 _ (c + 1) (by omega) (by omega) hr.2 (by rw [cfd_kp (by omega)]; exact hL) (hC.out o2 (FdC ho)) a2 (by rw [o2 _ _ (by unfold FdP KpP; unfold isRun at ho; omega)]; exact hw)
      exact ⟨M3, b1, b2, o2.trans b3⟩
/-- what one place hands on late -/
def cpl (cd fg : Nat → Int32) (n : Nat) (jo : Option Nat) (np : Nat) (pk pv : Nat → Int32) (w : Int32) (pl : Nat) (s : ST) : ST :=
  if cd pl = 4 then (cfl cd fg n jo np pk pv w (pl + 1) (prow pk pv np) 0 s).2
  else if cd pl = 6 then (cfl cd fg n jo np pk pv w (pl + 1) (s.1 pl) 0 s).2
  else s
def chk (cd fg : Nat → Int32) (n : Nat) (jo : Option Nat) (np : Nat) (pk pv : Nat → Int32) (w : Int32) : Nat → Nat → ST → ST
  | 0, _, s => s
  | d + 1, pl, s => chk cd fg n jo np pk pv w d (pl + 1) (cpl cd fg n jo np pk pv w pl s)
theorem u_handOn {o : Nat} (ho : isRun o) {cd fg : Nat → Int32} {n : Nat} {jo : Option Nat} {np : Nat} {pk pv : Nat → Int32} {w : Int32} (hjo : ∀ j, jo = some j → j < n) : ∀ (d pl fuel : Nat) (M : Mem) (s : ST), d + pl = n → d < fuel → CRel o M cd fg n (jnI jo) np pk pv → SRel o M s → M o 4 = w →
    ∃ M', f_Run_handOnKept_l2 o fuel (nI pl) M = some M' ∧ SRel o M' (chk cd fg n jo np pk pv w d pl s) ∧ Out (FdP o) M M' := by
  intro d
  induction d with
  | zero =>
    intro pl fuel M s hd hf hC hs hw
    obtain ⟨g, rfl⟩ : ∃ g, fuel = g + 1 := ⟨fuel - 1, by omega⟩
    refine ⟨M, ?_, hs, Out.rfl⟩
    show f_Run_handOnKept_l2B o (f_Run_handOnKept_l2 o g) (nI pl) M = _
    unfold f_Run_handOnKept_l2B
    rw [hC.2.2.1, show pl = n by omega, if_pos (Int32.le_refl _)]
  | succ d ih =>
    intro pl fuel M s hd hf hC hs hw
    have hn := hC.1
    have hnp := hC.2.1
    obtain ⟨g, rfl⟩ : ∃ g, fuel = g + 1 := ⟨fuel - 1, by omega⟩
    have G : gin (nI pl) 14 := gin_t (by omega) (by decide)
    have hb : f_Run_handOnKept_l2 o (g + 1) (nI pl) M = f_Run_handOnKept_l25 o (f_Run_handOnKept_l2 o g) FU (nI pl) (cd pl) 0 M := by
      show f_Run_handOnKept_l2B o (f_Run_handOnKept_l2 o g) (nI pl) M = _
      unfold f_Run_handOnKept_l2B
      rw [hC.2.2.1, if_neg (fun q => by have := (nI_leI (by omega) (by omega)).mp q; omega), if_pos G, nI_clamp (by omega), show o + 1 + 1 = o + 2 by omega, (hC.2.2.2.2.1 pl (by omega)).1, bn]
    have step : ∃ M', f_Run_handOnKept_l25 o (f_Run_handOnKept_l2 o g) FU (nI pl) (cd pl) 0 M = f_Run_handOnKept_l2 o g (nI (pl + 1)) M' ∧ SRel o M' (cpl cd fg n jo np pk pv w pl s) ∧ Out (FdP o) M M' := by
      unfold cpl
      by_cases c4 : cd pl = 4
      · rw [if_pos c4, c4]
        exact u_handU ho (by omega) hjo (f_Run_handOnKept_l2 o g) (prow pk pv np) 0 FU M s 0 (by unfold prow; rw [List.length_map, List.length_range]; omega) (by unfold prow; rw [List.length_map, List.length_range]; exact Nat.lt_trans (by omega) fu_lt) rfl hC hs hw
      · rw [if_neg c4]
        have e1 : f_Run_handOnKept_l25 o (f_Run_handOnKept_l2 o g) FU (nI pl) (cd pl) 0 M = f_Run_handOnKept_l102 o (f_Run_handOnKept_l2 o g) FU (nI pl) (cd pl) 0 M := by
          show f_Run_handOnKept_l25B o (f_Run_handOnKept_l2 o g) (f_Run_handOnKept_l25 o (f_Run_handOnKept_l2 o g) 999) (nI pl) (cd pl) 0 M = _
          unfold f_Run_handOnKept_l25B f_Run_handOnKept_b100
          rw [if_neg c4]
        rw [e1]
        by_cases c6 : cd pl = 6
        · rw [if_pos c6, c6]
          have hl := (hs.1 pl (by omega)).2.1
          exact u_handG ho (by omega) hjo (f_Run_handOnKept_l2 o g) (s.1 pl) (s.1 pl) 0 FU M s 0 rfl (Nat.lt_trans (by omega) fu_lt) rfl rfl hC hs hw
        · rw [if_neg c6]
          refine ⟨M, ?_, hs, Out.rfl⟩
          show f_Run_handOnKept_l102B o (f_Run_handOnKept_l2 o g) (f_Run_handOnKept_l102 o (f_Run_handOnKept_l2 o g) 999) (nI pl) (cd pl) 0 M = _
          unfold f_Run_handOnKept_l102B f_Run_handOnKept_b169
          rw [if_neg c6, nI_1]
    obtain ⟨M1, a1, a2, a3⟩ := step
    obtain ⟨M2, b1, b2, b3⟩ := ih (pl + 1) g M1 _ (by omega) (by omega) (hC.out a3 (FdC ho)) a2 (by rw [a3 _ _ (by unfold FdP KpP; unfold isRun at ho; omega)]; exact hw)
    exact ⟨M2, by rw [hb, a1]; exact b1, b2, a3.trans b3⟩
