-- ===== what the texts say, as lists =====
def trl (b : Nat → Int32) (n : Nat) : List (Int32 × Int32) := (List.range (trows b n)).map (fun i => (tval (b (3 * i)), tval (b (3 * i + 1))))
theorem trl_len (b : Nat → Int32) (n : Nat) : (trl b n).length = trows b n := by unfold trl; rw [List.length_map, List.length_range]
theorem trl_at {b : Nat → Int32} {n i : Nat} (h : i < trows b n) : (trl b n)[i]? = some (tval (b (3 * i)), tval (b (3 * i + 1))) := by
  unfold trl
  rw [List.getElem?_map, List.getElem?_range h]
  rfl
theorem AH_of {f : Nat → Int32} {l : List Int32} (h : ∀ j x, l[j]? = some x → f j = x) : AH f l := fun j hj => by
  rw [List.getD_eq_getElem?_getD, List.getElem?_eq_getElem hj]
  exact h j _ (List.getElem?_eq_getElem hj)
theorem SH_trl {f g : Nat → Int32} {b : Nat → Int32} {n : Nat} (h : ∀ i, i < trows b n → f i = tval (b (3 * i)) ∧ g i = tval (b (3 * i + 1))) : SH f g (trl b n) := by
  constructor
  · intro j hj
    rw [List.length_map, trl_len] at hj
    rw [(h j hj).1, List.getD_eq_getElem?_getD, List.getElem?_map, trl_at hj]
    rfl
  · intro j hj
    rw [List.length_map, trl_len] at hj
    rw [(h j hj).2, List.getD_eq_getElem?_getD, List.getElem?_map, trl_at hj]
    rfl
theorem tf_ok {b : Nat → Int32} {n : Nat} (hn : n ≤ 29) : ∀ (f i : Nat), f + i = n → tfF b n f i = -1 → ∀ j, i ≤ j → j < n → ¬ tbad b j := by
  intro f
  induction f with
  | zero => intro i hi _ j h1 h2; omega
  | succ f ih =>
    intro i hi h j h1 h2
    rw [tfF_s] at h
    by_cases hb : tbad b i
    · rw [if_pos hb] at h; exact absurd h (nI_nm1 (by omega))
    · rw [if_neg hb] at h
      by_cases hj : j = i
      · rw [hj]; exact hb
      · exact ih (i + 1) (by omega) h j (by omega) h2
theorem tval_V {b : Nat → Int32} {i : Nat} (h3 : i % 3 ≠ 2) (h : ¬ tbad b i) : VK (tval (b i)) := by
  unfold tbad at h
  rw [if_neg h3] at h
  unfold tval
  by_cases h45 : b i = 45
  · rw [if_pos h45]; exact VK.m1
  · rw [if_neg h45]
    have h48 : ¬ (b i < 48 ∨ 57 < b i) := fun q => h ⟨q, h45⟩
    obtain ⟨s1, s2⟩ := sub48 h48
    have hx : ¬ (b i - 48) < 0 := fun q => by have := i_lt.mp q; rw [show (0 : Int32).toInt = 0 by decide] at this; omega
    obtain ⟨j, hj, e⟩ := nI_of hx
    rw [e, nI_toInt hj] at s2
    exact ⟨j + 1, by omega, by rw [e, kI_s]⟩
theorem trl_V {b : Nat → Int32} {n : Nat} (hn : n ≤ 29) : ∀ y, y ∈ trl b n → VK y.1 ∧ VV 10 y.2 := by
  intro y hy
  unfold trl at hy
  obtain ⟨i, hi, e⟩ := List.mem_map.mp hy
  have hi2 := List.mem_range.mp hi
  have h3 := trows_3 hn hi2
  have hf : tfault b n = -1 := by
    unfold trows at hi2
    by_cases h : tfault b n = -1
    · exact h
    · rw [if_neg h] at hi2; exact absurd hi2 (Nat.not_lt_zero i)
  have hok := tf_ok hn n 0 rfl hf
  rw [← e]
  exact ⟨tval_V (by omega) (hok _ (Nat.zero_le _) (by omega)), (tval_V (by omega) (hok _ (Nat.zero_le _) (by omega))).vv (by omega)⟩
theorem trl_10 {b : Nat → Int32} {n : Nat} (hn : n ≤ 29) : (trl b n).length ≤ 10 := by rw [trl_len]; exact trows_le hn
theorem spF_ok {b : Nat → Int32} {n : Nat} : ∀ (f i : Nat) (acc : List (Int32 × Int32)), acc.length ≤ i → i ≤ n → KdOk acc → (spF b n f i acc).2.length ≤ n ∧ KdOk (spF b n f i acc).2 := by
  intro f
  induction f with
  | zero => intro i acc h1 h2 h3; exact ⟨Nat.le_trans h1 h2, h3⟩
  | succ f ih =>
    intro i acc h1 h2 h3
    rw [spF_s]
    have hsn : ∀ x : Int32 × Int32, 1 ≤ x.1 → KdOk (acc ++ [x]) := fun x hx y hy => by
      rcases List.mem_append.mp hy with q | q
      · exact h3 y q
      · rw [List.mem_singleton.mp q]; exact hx
    by_cases c1 : n ≤ i
    · rw [if_pos c1]; exact ⟨Nat.le_trans h1 h2, h3⟩
    · rw [if_neg c1]
      by_cases c2 : f_Mo_kindOf (b i) = -1
      · rw [if_pos c2]; exact ⟨Nat.zero_le _, fun y hy => absurd hy List.not_mem_nil⟩
      · rw [if_neg c2]
        by_cases c3 : f_Mo_kindOf (b i) = 7
        · rw [if_pos c3]
          by_cases c4 : i + 1 < n ∧ ¬ (b (i + 1) < 48 ∨ 57 < b (i + 1))
          · rw [if_pos c4]
            exact ih (i + 2) _ (by rw [List.length_append]; show acc.length + 1 ≤ i + 2; omega) (by omega) (hsn _ (show (1 : Int32) ≤ 7 by decide))
          · rw [if_neg c4]; exact ⟨Nat.zero_le _, fun y hy => absurd hy List.not_mem_nil⟩
        · rw [if_neg c3]
          refine ih (i + 1) _ (by rw [List.length_append]; show acc.length + 1 ≤ i + 1; omega) (by omega) (hsn _ ?_)
          show 1 ≤ f_Mo_kindOf (b i)
          rcases kind_range (b i) with q | q | q | q | q | q | q | q
          · exact absurd q c2
          all_goals rw [q]; decide
theorem ssteps_ok (b : Nat → Int32) (n : Nat) : (ssteps b n).length ≤ n ∧ KdOk (ssteps b n) := spF_ok (n + 1) 0 [] (Nat.le_refl _) (Nat.zero_le _) (fun y hy => absurd hy List.not_mem_nil)
-- ===== the state of a run of calls: texts and the end =====
abbrev DT : Type := (Nat → Nat) × (Nat → Nat → Int32) × Nat
def DOk (D : DT) : Prop := D.1 0 ≤ 29 ∧ D.1 1 ≤ 29 ∧ D.1 2 ≤ 12 ∧ D.2.2 < 9
def dO (D : DT) : List (Int32 × Int32) := trl (D.2.1 0) (D.1 0)
def dI (D : DT) : List (Int32 × Int32) := trl (D.2.1 1) (D.1 1)
def dL (D : DT) : List (Int32 × Int32) := ssteps (D.2.1 2) (D.1 2)
def dFa (D : DT) (t : Nat) : Int32 := if t = 2 then sfault (D.2.1 2) (D.1 2) else tfault (D.2.1 t) (D.1 t)
section DD
variable {D : DT} (h : DOk D)
theorem dO_l : DOk D → (dO D).length ≤ 10 := fun h => trl_10 h.1
theorem dI_l : DOk D → (dI D).length ≤ 10 := fun h => trl_10 h.2.1
theorem dL_l : DOk D → (dL D).length ≤ 12 := fun h => Nat.le_trans (ssteps_ok _ _).1 h.2.2.1
theorem dO_V : DOk D → ∀ y, y ∈ dO D → VK y.1 ∧ VV 10 y.2 := fun h => trl_V h.1
theorem dI_V : DOk D → ∀ y, y ∈ dI D → VK y.1 ∧ VV 10 y.2 := fun h => trl_V h.2.1
theorem dL_K : KdOk (dL D) := (ssteps_ok _ _).2
end DD
/-- what the runs come to -/
def dR (D : DT) (e : Nat) (sk : Int32) : RS := (rbQ (nI e) sk (dL D) (dO D) (dI D)).getD rs0
def dF (D : DT) (e : Nat) : RS := (frQ (nI e) (dL D) (dO D) (dI D)).getD rs0
/-- the class's side -/
def EC (D : DT) (M : Mem) : Prop := M 4 2 = nI (dO D).length ∧ SH (M 5) (M 6) (dO D) ∧ M 4 3 = dFa D 0 ∧ M 7 2 = nI (dI D).length ∧ SH (M 8) (M 9) (dI D) ∧ M 7 3 = dFa D 1 ∧ StpIs M (dFa D 2) (dL D) ∧ M 0 6 = nI D.2.2
/-- the reference's side -/
def EM (D : DT) (M : Mem) : Prop := MT M 0 (D.1 0) (D.2.1 0) ∧ MT M 1 (D.1 1) (D.2.1 1) ∧ MT M 2 (D.1 2) (D.2.1 2) ∧ M 91 9 = nI D.2.2
def ECP (c k : Nat) : Prop := (4 ≤ c ∧ c ≤ 12) ∨ (c = 0 ∧ k = 6)
def EMP (c k : Nat) : Prop := c = 92 ∨ c = 93 ∨ (c = 91 ∧ k = 9)
theorem SH.out {f g f' g' : Nat → Int32} {l : List (Int32 × Int32)} (h : SH f g l) (h1 : ∀ j, f' j = f j) (h2 : ∀ j, g' j = g j) : SH f' g' l := ⟨h.1.same (fun j _ => h1 j), h.2.same (fun j _ => h2 j)⟩
theorem EC.out {D : DT} {M M' : Mem} {P : Nat → Nat → Prop} (h : EC D M) (o : Out P M M') (hp : ∀ c k, P c k → ¬ ECP c k) : EC D M' := by
  obtain ⟨a1, a2, a3, a4, a5, a6, a7, a8⟩ := h
  have k : ∀ c, 4 ≤ c → c ≤ 12 → ∀ j, M' c j = M c j := fun c h1 h2 j => o _ _ (fun q => hp _ _ q (Or.inl ⟨h1, h2⟩))
  exact ⟨by rw [k 4 (by omega) (by omega)]; exact a1, a2.out (k 5 (by omega) (by omega)) (k 6 (by omega) (by omega)), by rw [k 4 (by omega) (by omega)]; exact a3, by rw [k 7 (by omega) (by omega)]; exact a4, a5.out (k 8 (by omega) (by omega)) (k 9 (by omega) (by omega)), by rw [k 7 (by omega) (by omega)]; exact a6, a7.out o (fun c k q => fun w => hp _ _ q (Or.inl ⟨by omega, by omega⟩)), by rw [o _ _ (fun q => hp _ _ q (Or.inr ⟨rfl, rfl⟩))]; exact a8⟩
theorem EM.out {D : DT} {M M' : Mem} {P : Nat → Nat → Prop} (h : EM D M) (o : Out P M M') (hp : ∀ c k, P c k → ¬ EMP c k) : EM D M' :=
  ⟨h.1.out o (fun q => hp _ _ q (Or.inl rfl)) (fun k _ q => hp _ _ q (Or.inr (Or.inl rfl))), h.2.1.out o (fun q => hp _ _ q (Or.inl rfl)) (fun k _ q => hp _ _ q (Or.inr (Or.inl rfl))), h.2.2.1.out o (fun q => hp _ _ q (Or.inl rfl)) (fun k _ q => hp _ _ q (Or.inr (Or.inl rfl))), by rw [o _ _ (fun q => hp _ _ q (Or.inr (Or.inr ⟨rfl, rfl⟩)))]; exact h.2.2.2⟩
-- the runs of the class
theorem sk_none {L : List (Int32 × Int32)} (hL : L.length ≤ 12) : ∀ j, j < L.length → (nI j = (-1 : Int32) ↔ j = 1000) := fun j hj => ⟨fun q => absurd q (nI_nm1 (by omega)), fun q => by omega⟩
theorem sk_some {L : List (Int32 × Int32)} (hL : L.length ≤ 12) {i : Nat} (hi : i < 12) : ∀ j, j < L.length → (nI j = nI i ↔ j = i) := fun j hj => nI_eq (by omega) (by omega)
theorem dR_ok {D : DT} (h : DOk D) {e : Nat} (he : e < 9) {sk : Int32} {skn : Nat} (hsk : ∀ j, j < (dL D).length → (nI j = sk ↔ j = skn)) : rbQ (nI e) sk (dL D) (dO D) (dI D) = some (dR D e sk) ∧ ∃ m, mrQ (dL D) (dO D) (dI D) sk (nI e) = some m ∧ RR sk (dL D) e (dR D e sk) m ∧ ((dR D e sk).1 = -1 → (dR D e sk).2.2.2.1.length = (dO D).length) ∧ ((dR D e sk).1 = -1 ∨ ∃ i, i < (dO D).length ∧ (dR D e sk).1 = nI i) := by
  obtain ⟨s, m, a1, a2, a3, a4, a5⟩ := rbQ_sim hsk (dL_l h) (dO_l h) (dI_l h) (dO_V h) (dI_V h) he
  unfold dR
  rw [a1]
  exact ⟨rfl, m, a2, a3, a4, a5⟩
theorem dF_ok {D : DT} (h : DOk D) {e : Nat} (he : e < 9) : frQ (nI e) (dL D) (dO D) (dI D) = some (dF D e) ∧ ∃ an, FF e (dL D) (dO D) (dI D) an (dF D e) ∧
      ∀ i, i < (dO D).length → afin (nI e) (frv (jat (nI e) (dL D)) (dps (nI e) (dL D) (dO D)) (gpl (fuv (nI e) (dL D)) [] (dO D)) i) ((frF (nI e) (dL D) (dO D) (dI D)).1.foldl (af (frp (jat (nI e) (dL D)) (gpl (fuv (nI e) (dL D)) [] (dO D)) i) (frv (jat (nI e) (dL D)) (dps (nI e) (dL D) (dO D)) (gpl (fuv (nI e) (dL D)) [] (dO D)) i)) af0) = some (an i) := by
  obtain ⟨s, an, a1, a2, a3⟩ := free_ok he (dL_l h) (dO_l h) (dI_l h) (dO_V h) (dI_V h)
  unfold dF
  rw [a1]
  exact ⟨rfl, an, a2, a3⟩
theorem c_askR {D : DT} (h : DOk D) {M : Mem} (hE : EC D M) {o e : Nat} (ho : isRun o) (he : e < 9) {sk : Int32} {skn : Nat} (hsk : ∀ j, j < (dL D).length → (nI j = sk ↔ j = skn)) : ∃ M', f_Run_askRowByRow o M (nI e) sk = some M' ∧ RRel o M' (dR D e sk) 0 ∧ Out (AkP o) M M' := by
  obtain ⟨M', a1, a2, -, a4⟩ := u_askR (sk := sk) ho (dL_l h) hE.2.2.2.2.2.2.1 (dO_l h) (dI_l h) hE.1 hE.2.1 hE.2.2.2.1 hE.2.2.2.2.1 (dR_ok h he hsk).1
  exact ⟨M', a1, a2, a4⟩
theorem c_askF {D : DT} (h : DOk D) {M : Mem} (hE : EC D M) {o e : Nat} (ho : isRun o) (he : e < 9) : ∃ M', f_Run_askFree o M (nI e) = some M' ∧ RRel o M' (dF D e) 0 ∧ CoIs (o + 1) M' (fco (nI e) (dL D)).1 (jnI (fco (nI e) (dL D)).2) ∧ PaIs (o + 4) M' (fps (nI e) (dL D) (dO D)) ∧ Out (AkP o) M M' :=
  u_askF ho (dL_l h) hE.2.2.2.2.2.2.1 (dO_l h) (dI_l h) hE.1 hE.2.1 hE.2.2.2.1 hE.2.2.2.2.1 (dF_ok h he).1
def CRan (D : DT) (M : Mem) : Prop := RRel 55 M (dR D D.2.2 (-1)) 0 ∧ RRel 67 M (dF D D.2.2) 0 ∧ CoIs 68 M (fco (nI D.2.2) (dL D)).1 (jnI (fco (nI D.2.2) (dL D)).2) ∧ PaIs 71 M (fps (nI D.2.2) (dL D) (dO D))
theorem RRel.out {o : Nat} {M M' : Mem} {s : RS} {cu : Nat} {P : Nat → Nat → Prop} (h : RRel o M s cu) (ou : Out P M M') (hp : ∀ c k, P c k → ¬ (o + 8 ≤ c ∧ c ≤ o + 11)) : RRel o M' s cu :=
  ⟨h.1.out ou (fun c k q w => hp c k q (by unfold AnP at w; omega)), by rw [ou _ _ (fun q => hp _ _ q (by omega))]; exact h.2.1, by rw [ou _ _ (fun q => hp _ _ q (by omega))]; exact h.2.2.1, h.2.2.2.out ou (fun c k q w => hp c k q (by unfold RpP at w; omega))⟩
theorem CRan.out {D : DT} {M M' : Mem} {P : Nat → Nat → Prop} (h : CRan D M) (o : Out P M M') (hp : ∀ c k, P c k → ¬ (55 ≤ c ∧ c ≤ 78)) : CRan D M' := by
  obtain ⟨a1, a2, a3, a4⟩ := h
  have k : ∀ c, 55 ≤ c → c ≤ 78 → ∀ j, M' c j = M c j := fun c h1 h2 j => o _ _ (fun q => hp _ _ q ⟨h1, h2⟩)
  exact ⟨a1.out o (fun c k q w => hp c k q (by omega)), a2.out o (fun c k q w => hp c k q (by omega)), ⟨by rw [k 68 (by omega) (by omega)]; exact a3.1, a3.2.1, a3.2.2.1.out (k 69 (by omega) (by omega)) (k 70 (by omega) (by omega)), by rw [k 68 (by omega) (by omega)]; exact a3.2.2.2⟩, ⟨by rw [k 71 (by omega) (by omega)]; exact a4.1, a4.2.1, a4.2.2.out (k 72 (by omega) (by omega)) (k 73 (by omega) (by omega))⟩⟩
/-- where the class's runs may write -/
def UrP (c k : Nat) : Prop := (27 ≤ c ∧ c ≤ 90) ∨ (c = 0 ∧ k = 8)
theorem c_refresh {D : DT} (h : DOk D) {M : Mem} (hE : EC D M) (hS : M 0 8 = 0 → CRan D M) : ∃ M', f_U_refresh M = some M' ∧ CRan D M' ∧ M' 0 8 = 0 ∧ Out UrP M M' := by
  unfold f_U_refresh
  by_cases h0 : M 0 8 = 0
  · rw [if_pos h0]
    exact ⟨M, rfl, hS h0, h0, Out.rfl⟩
  · rw [if_neg h0]
    have he := h.2.2.2
    have e6 : M 0 6 = nI D.2.2 := hE.2.2.2.2.2.2.2
    obtain ⟨M1, a1, a2, a3⟩ := c_askR (o := 55) h hE (by unfold isRun; omega) he (sk_none (dL_l h))
    have hE1 : EC D M1 := hE.out a3 (fun c k q w => by unfold AkP KpP at q; unfold ECP at w; omega)
    obtain ⟨M2, b1, b2, b3, b4, b5⟩ := c_askF (o := 67) h hE1 (by unfold isRun; omega) he
    have hR : RRel 55 M2 (dR D D.2.2 (-1)) 0 := a2.out b5 (fun c k q w => by unfold AkP KpP at q; omega)
    refine ⟨mset M2 0 8 0, ?_, ?_, ms_s _ _ _ _, ?_⟩
    · rw [e6, a1, Option.bind_some, hE1.2.2.2.2.2.2.2, b1]
      rfl
    · exact CRan.out (M := M2) ⟨hR, b2, b3, b4⟩ (Out.set (P := fun c k => c = 0 ∧ k = 8) ⟨rfl, rfl⟩) (fun c k q w => by omega)
    · exact ((a3.mono (fun c k q => by unfold AkP KpP at q; unfold UrP; omega)).trans (b5.mono (fun c k q => by unfold AkP KpP at q; unfold UrP; omega))).trans (Out.set (Or.inr ⟨rfl, rfl⟩))
-- the runs of the reference
def MoS (c k : Nat) : Prop := (94 ≤ c ∧ c ≤ 118) ∨ (c = 91 ∧ k ≠ 9 ∧ k ≠ 43) ∨ c = 123
def MRow (D : DT) (e : Nat) (sk : Int32) (M : Mem) : Prop := M 100 0 = (dR D e sk).1 ∧ ((dR D e sk).1 = -1 → ∀ i, i < (dO D).length → M 101 i = fs1 (dR D e sk).2.2.2.1 i) ∧ (sk = -1 → LgIs M 0 (dR D e sk).2.2.2.2.1 ∧ M 102 0 = (dR D e sk).2.1 ∧ M 102 1 = (dR D e sk).2.2.1 ∧ M 102 2 = nI (dR D e sk).2.2.2.2.2.1 ∧ M 102 3 = nI (dR D e sk).2.2.2.2.2.2 ∧ M 102 4 = 0)
def MFre (D : DT) (e : Nat) (M : Mem) : Prop := M 100 1 = (dF D e).1 ∧ ((dF D e).1 = -1 → ∀ i, i < (dO D).length → M 101 (10 + i) = fs1 (dF D e).2.2.2.1 i) ∧ LgIs M 1 (dF D e).2.2.2.2.1 ∧ M 102 5 = (dF D e).2.1 ∧ M 102 6 = (dF D e).2.2.1 ∧ M 102 7 = nI (dF D e).2.2.2.2.2.1 ∧ M 102 8 = nI (dF D e).2.2.2.2.2.2 ∧ M 102 9 = 0 ∧ DoIs M (fps (nI e) (dL D) (dO D)) ∧ PlIs M ((fco (nI e) (dL D)).1.map Prod.fst)
def MRan (D : DT) (e : Nat) (M : Mem) : Prop := MRow D e (-1) M ∧ MFre D e M ∧ StM M (dL D) (-1) ∧ TbM M (dO D) (dI D) ∧ M 91 10 = nI e
theorem fs1_map {l : List (Int32 × Int32)} {m : List Int32} (h : l.map Prod.fst = m) (j : Nat) : m.getD j 0 = fs1 l j := by
  rw [← h]
  unfold fs1
  rw [List.getD_eq_getElem?_getD, List.getElem?_map, List.getD_eq_getElem?_getD]
  cases l[j]? <;> rfl
theorem m_rows {D : DT} (h : DOk D) {M : Mem} {e : Nat} (he : e < 9) {sk : Int32} {skn : Nat} (hsk : ∀ j, j < (dL D).length → (nI j = sk ↔ j = skn)) (hS : StM M (dL D) sk) (hT : TbM M (dO D) (dI D)) (hE : M 91 10 = nI e) : ∃ M', f_Mo_rowByRow M = some M' ∧ MRow D e sk M' ∧ Out RwP M M' := by
  obtain ⟨-, m, a2, a3, a4, -⟩ := dR_ok h he hsk
  obtain ⟨M', b1, b2, b3⟩ := m_rowByRow hS hE hT a2
  obtain ⟨r1, r2, r3, r4, r5⟩ := a3
  obtain ⟨q1, q2, q3, q4, q5, q6, q7, q8⟩ := b2
  refine ⟨M', b1, ⟨by rw [q1, r1], fun hx i hi => ?_, fun hx => ?_⟩, b3⟩
  · obtain ⟨w1, w2⟩ := r4 hx
    rw [q2 i (by rw [← w1, List.length_map, a4 hx]; exact hi), fs1_map w1]
  · obtain ⟨w1, w2, w3, w4⟩ := r5 hx
    rw [w1, r2, r3, w2, w3]
    exact ⟨q3, q4, q5, q6, q7, q8⟩
theorem RwP_S {c k : Nat} (h : RwP c k) : MoS c k := by
  unfold RwP AsP GtP GoP OuP HdP RoP OpP LgP at h
  unfold MoS
  omega
theorem m_runs {D : DT} (h : DOk D) {M : Mem} (hE : EM D M) {e : Nat} (he : e < 9) : ∃ M', f_Mo_runs M (nI e) = some M' ∧ MRan D e M' ∧ Rd M' (D.1 0) (D.1 1) (D.1 2) (D.2.1 0) (D.2.1 1) (D.2.1 2) ∧ Out MoS M M' := by
  obtain ⟨M1, a1, a2, a3⟩ := m_reads h.1 h.2.1 h.2.2.1 hE.1 hE.2.1 hE.2.2.1
  have o2 : Out (fun c k => c = 91 ∧ (k = 10 ∨ k = 11)) M1 (mset (mset M1 91 10 (nI e)) 91 11 (-1)) := (Out.set (P := fun c k => c = 91 ∧ (k = 10 ∨ k = 11)) ⟨rfl, Or.inl rfl⟩).trans (Out.set ⟨rfl, Or.inr rfl⟩)
  obtain ⟨d1, d2, d3, d4, d5, d6, d7, d8, d9⟩ := a2
  have k2 : ∀ c, c ≠ 91 → ∀ j, mset (mset M1 91 10 (nI e)) 91 11 (-1) c j = M1 c j := fun c hc j => o2 _ _ (fun q => hc q.1)
  have hS : StM (mset (mset M1 91 10 (nI e)) 91 11 (-1)) (dL D) (-1) := ⟨dL_l h, by rw [o2 _ _ (fun q => by omega)]; exact d8, d9.out (k2 98 (by omega)) (k2 99 (by omega)), ms_s _ _ _ _⟩
  have hT : TbM (mset (mset M1 91 10 (nI e)) 91 11 (-1)) (dO D) (dI D) := by
    refine ⟨dO_l h, dI_l h, ?_, ?_, ?_, ?_⟩
    · rw [k2 95 (by omega), d4]; unfold dO; rw [trl_len]
    · rw [k2 95 (by omega), d5]; unfold dI; rw [trl_len]
    · exact (SH_trl d6).out (k2 96 (by omega)) (k2 97 (by omega))
    · exact (SH_trl (f := fun j => M1 96 (10 + j)) (g := fun j => M1 97 (10 + j)) d7).out (fun j => k2 96 (by omega) _) (fun j => k2 97 (by omega) _)
  have hN : mset (mset M1 91 10 (nI e)) 91 11 (-1) 91 10 = nI e := by rw [ms_k _ _ (by decide), ms_s]
  obtain ⟨M2, b1, b2, b3⟩ := m_rows h he (sk_none (dL_l h)) hS hT hN
  have hS2 : StM M2 (dL D) (-1) := hS.out b3 (fun c k q w => by unfold RwP AsP GtP GoP OuP HdP RoP OpP LgP at q; omega)
  have hT2 : TbM M2 (dO D) (dI D) := hT.out b3 (fun c k q w => by unfold RwP AsP GtP GoP OuP HdP RoP OpP LgP at q; omega)
  have hN2 : M2 91 10 = nI e := by rw [b3 _ _ (fun q => by unfold RwP AsP GtP GoP OuP HdP RoP OpP LgP at q; omega)]; exact hN
  obtain ⟨-, an, ff, han⟩ := dF_ok h he
  obtain ⟨M3, c1, c2, c3⟩ := m_free hS2 hN2 hT2 dL_K han
  refine ⟨M3, ?_, ⟨?_, ?_, hS2.out c3 (fun c k q w => by unfold FrP at q; omega), hT2.out c3 (fun c k q w => by unfold FrP at q; omega), by rw [c3 _ _ (fun q => by unfold FrP at q; omega)]; exact hN2⟩, ?_, ?_⟩
  · unfold f_Mo_runs
    rw [a1, Option.bind_some, bn, bn, b1, Option.bind_some, c1]
    rfl
  · obtain ⟨q1, q2, q3⟩ := b2
    refine ⟨by rw [c3 _ _ (fun q => by unfold FrP at q; omega)]; exact q1, fun hx i hi => ?_, fun hx => ?_⟩
    · have := dO_l h
      rw [c3 _ _ (fun q => by unfold FrP at q; omega)]; exact q2 hx i hi
    · obtain ⟨w1, w2, w3, w4, w5, w6⟩ := q3 hx
      exact ⟨w1.out c3 (fun c k q w => by unfold FrP at q; unfold LgP at w; omega), by rw [c3 _ _ (fun q => by unfold FrP at q; omega)]; exact w2, by rw [c3 _ _ (fun q => by unfold FrP at q; omega)]; exact w3, by rw [c3 _ _ (fun q => by unfold FrP at q; omega)]; exact w4, by rw [c3 _ _ (fun q => by unfold FrP at q; omega)]; exact w5, by rw [c3 _ _ (fun q => by unfold FrP at q; omega)]; exact w6⟩
  · obtain ⟨f1, f2, f3, f4, f5, f6, f7, f8⟩ := ff
    obtain ⟨g1, g2, g3, g4, g5, g6, g7, g8, g9, g10⟩ := c2
    refine ⟨by rw [g1, f1], fun hx i hi => ?_, by rw [f6]; exact g3, by rw [f2]; exact g4, by rw [f3]; exact g5, by rw [f7]; rw [g6, Int32.zero_add], by rw [f8]; exact g7, g8, by rw [dps_eq]; exact g9, by rw [← pln_eq]; exact g10⟩
    rw [g2 i hi, (f4 hx).2.1 i hi]
  · have oA : ∀ c k, ((c = 94 ∨ c = 95 ∨ c = 96 ∨ c = 97 ∨ c = 98 ∨ c = 99) ∨ (c = 91 ∧ k = 6)) → M3 c k = M1 c k := fun c k hc => by
      rw [c3 _ _ (fun q => by unfold FrP at q; omega), b3 _ _ (fun q => by unfold RwP AsP GtP GoP OuP HdP RoP OpP LgP at q; omega), o2 _ _ (fun q => by omega)]
    exact ⟨by rw [oA _ _ (by omega)]; exact d1, by rw [oA _ _ (by omega)]; exact d2, by rw [oA _ _ (by omega)]; exact d3, by rw [oA _ _ (by omega)]; exact d4, by rw [oA _ _ (by omega)]; exact d5, fun i hi => by rw [oA _ _ (by omega), oA _ _ (by omega)]; exact d6 i hi, fun i hi => by rw [oA _ _ (by omega), oA _ _ (by omega)]; exact d7 i hi, by rw [oA _ _ (by omega)]; exact d8, d9.out (fun j => oA _ _ (by omega)) (fun j => oA _ _ (by omega))⟩
  · refine (a3.mono (fun c k q => ?_)).trans ((o2.mono (fun c k q => ?_)).trans ((b3.mono (fun c k q => RwP_S q)).trans (c3.mono (fun c k q => ?_))))
    · unfold RaP at q; unfold MoS; omega
    · unfold MoS; omega
    · unfold FrP at q; unfold MoS; omega
