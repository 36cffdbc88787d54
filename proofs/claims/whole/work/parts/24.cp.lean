-- ===== the class's machine on lists (rows packed as the class packs them) =====
abbrev KP : Type := Nat → List Int32
def upF (kp : KP) (j : Nat) (l : List Int32) : KP := fun i => if i = j then l else kp i
theorem upF_s (kp : KP) (j : Nat) (l : List Int32) : upF kp j l j = l := if_pos rfl
theorem upF_n (kp : KP) {i j : Nat} (l : List Int32) (h : i ≠ j) : upF kp j l i = kp i := if_neg h
theorem upF_id (kp : KP) (j : Nat) : upF kp j (kp j) = kp := by
  funext i
  unfold upF
  by_cases h : i = j
  · rw [if_pos h, h]
  · rw [if_neg h]
def addP : List Int32 → Nat → Int32 → List Int32
  | [], room, g => if room = 0 then [] else [g + 512]
  | x :: l, room, g => if (x &&& (-1048321)) = g then (x + 256) :: l else x :: addP l (room - 1) g
def ct (c f hk r : Int32) (l : List Int32) : Int32 × List Int32 :=
  if c = 1 then (if f_Run_keyOf r = -1 then -1 else if f_Run_keyOf r = hk then r else -1, l)
  else if c = 2 then (if f_Run_keyOf r = -1 then -1 else if hk ≤ f_Run_keyOf r then -1 else r, l)
  else if c = 3 then (if f_Run_valueOf r = -1 then f_Run_packed (f_Run_keyOf r) (-1) (r >>> (20 &&& 31)) else if hk = -1 then f_Run_packed (f_Run_keyOf r) (-1) (r >>> (20 &&& 31)) else f_Run_packed (f_Run_keyOf r) (f_Run_valueOf r + hk) (r >>> (20 &&& 31)), l)
  else if c = 4 then (r, l)
  else if c = 5 then (if r ∈ l then (-1, l) else (r, if l.length < 220 then l ++ [r] else l))
  else if c = 6 then (-1, addP l 220 (r &&& (-1048321)))
  else if c = 7 then (if f_Run_valueOf r = -1 then -1 else if f_Run_valueOf r < f then -1 else r, l)
  else (r, l)
/-- a plan as the class holds it: codes, figures, how many; where the join is; pairs -/
def hkOf (np : Nat) (pk : Nat → Int32) (x : Int32) : Int32 := if x < 0 then -1 else if nI np ≤ x then -1 else pk x.toNatClampNeg
def cps (cd fg : Nat → Int32) (np : Nat) (pk : Nat → Int32) : Nat → Nat → Int32 → KP → Int32 → Int32 × KP × Int32
  | 0, _, r, kp, h => (r, kp, h)
  | d + 1, j, r, kp, h =>
    if r = -1 then (r, kp, h)
    else if (ct (cd j) (fg j) (hkOf np pk (r >>> (20 &&& 31))) r (kp j)).1 = -1 then (-1, upF kp j (ct (cd j) (fg j) (hkOf np pk (r >>> (20 &&& 31))) r (kp j)).2, h)
    else cps cd fg np pk d (j + 1) (ct (cd j) (fg j) (hkOf np pk (r >>> (20 &&& 31))) r (kp j)).1 (upF kp j (ct (cd j) (fg j) (hkOf np pk (r >>> (20 &&& 31))) r (kp j)).2) (h + 1)
/-- the class's kept rows -/
def KRel (M : Mem) (kp : KP) : Prop := ∀ j, j < 14 → M 43 j = nI (kp j).length ∧ (kp j).length ≤ 220 ∧ AH (M (29 + j)) (kp j)
def KpP (c _k : Nat) : Prop := c = 43 ∨ (29 ≤ c ∧ c ≤ 42)
theorem KRel.out {M M' : Mem} {kp : KP} {P : Nat → Nat → Prop} (h : KRel M kp) (o : Out P M M') (hp : ∀ c k, P c k → ¬ KpP c k) : KRel M' kp := fun j hj => by
  obtain ⟨h1, h2, h3⟩ := h j hj
  refine ⟨?_, h2, h3.same (fun i _ => ?_)⟩
  · rw [o 43 j (fun q => hp _ _ q (Or.inl rfl))]; exact h1
  · exact o _ _ (fun q => hp _ _ q (Or.inr ⟨by omega, by omega⟩))
/-- row j of the kept ones is now l -/
theorem KRel.put {M M' : Mem} {kp : KP} {j : Nat} {l : List Int32} (h : KRel M kp) (hj : j < 14) (hl : l.length ≤ 220) (h1 : M' 43 j = nI l.length) (h2 : AH (M' (29 + j)) l) (o : Out (fun c k => (c = 43 ∧ k = j) ∨ c = 29 + j) M M') : KRel M' (upF kp j l) := fun i hi => by
  by_cases e : i = j
  · subst e
    rw [upF_s]
    exact ⟨h1, hl, h2⟩
  · rw [upF_n _ _ e]
    obtain ⟨q1, q2, q3⟩ := h i hi
    exact ⟨by rw [o 43 i (by omega)]; exact q1, q2, q3.same (fun k _ => o _ _ (by omega))⟩
theorem u_isNew {kp : KP} {j : Nat} {r : Int32} (hj : j < 14) : ∀ (d i fuel : Nat) (M : Mem), d + i = (kp j).length → d < fuel → KRel M kp → (∀ q, q < i → ¬ (kp j).getD q 0 = r) →
    ∃ M', f_Kept_isNew_l2 fuel (nI j) r (nI i) M = some (if r ∈ kp j then 0 else 1, M') ∧ KRel M' (upF kp j (if r ∈ kp j then kp j else if (kp j).length < 220 then kp j ++ [r] else kp j)) ∧ Out KpP M M' := by
  intro d
  induction d with
  | zero =>
    intro i fuel M hd hf hK hq
    obtain ⟨g, rfl⟩ : ∃ g, fuel = g + 1 := ⟨fuel - 1, by omega⟩
    obtain ⟨k1, k2, k3⟩ := hK j hj
    have hi : i = (kp j).length := by omega
    subst hi
    have hn : ¬ r ∈ kp j := fun hm => by
      obtain ⟨q, hq1, hq2⟩ := List.getElem_of_mem hm
      refine hq q hq1 ?_
      rw [List.getD_eq_getElem?_getD, List.getElem?_eq_getElem hq1]
      exact hq2
    have G : gin (nI j) 14 := gin_t hj (by decide)
    have hc : (nI j).toNatClampNeg = j := nI_clamp (by omega)
    rw [if_neg hn, if_neg hn]
    show ∃ M', f_Kept_isNew_l2B (f_Kept_isNew_l2 g) (nI j) r (nI (kp j).length) M = _ ∧ _
    unfold f_Kept_isNew_l2B f_Kept_isNew_b68
    simp only [hc, k1]
    rw [if_pos G, if_pos (Int32.le_refl _), if_pos G]
    have e220 : ((220 : Int32) ≤ nI (kp j).length) ↔ 220 ≤ (kp j).length := nI_leI (a := 220) (by decide) (by omega)
    by_cases h2 : (kp j).length < 220
    · rw [if_neg (fun q => by have := e220.mp q; omega), if_pos G, if_pos G, if_pos (gin_t h2 (by decide)), bn, if_pos G, if_pos G, bn, nI_clamp (by omega), if_pos h2, ms_c _ _ (show (43 : Nat) ≠ 29 + j by omega), k1, nI_1]
      have o1 : Out (fun c k => (c = 43 ∧ k = j) ∨ c = 29 + j) M (mset (mset M (29 + j) (kp j).length r) 43 j (nI ((kp j).length + 1))) := (Out.set (Or.inr rfl)).trans (Out.set (Or.inl ⟨rfl, rfl⟩))
      refine ⟨_, rfl, hK.put hj (by rw [List.length_append]; show (kp j).length + 1 ≤ 220; omega) (by rw [ms_s, List.length_append]; rfl) (k3.snoc (fun q hq2 => ?_) ?_) o1, o1.mono (fun c k q => by unfold KpP; omega)⟩
      · rw [ms_c _ _ (by omega), ms_k _ _ (by omega)]
      · rw [ms_c _ _ (by omega), ms_s]
    · rw [if_pos (e220.mpr (by omega)), if_neg h2, upF_id]
      exact ⟨M, rfl, hK, Out.rfl⟩
  | succ d ih =>
    intro i fuel M hd hf hK hq
    obtain ⟨g, rfl⟩ : ∃ g, fuel = g + 1 := ⟨fuel - 1, by omega⟩
    obtain ⟨k1, k2, k3⟩ := hK j hj
    have G : gin (nI j) 14 := gin_t hj (by decide)
    have hc : (nI j).toNatClampNeg = j := nI_clamp (by omega)
    have hc2 : (nI i).toNatClampNeg = i := nI_clamp (by omega)
    have hx := k3 i (by omega)
    by_cases he : (kp j).getD i 0 = r
    · have hm : r ∈ kp j := by
        rw [← he, List.getD_eq_getElem?_getD, List.getElem?_eq_getElem (by omega)]
        exact List.getElem_mem (by omega)
      rw [if_pos hm, if_pos hm, upF_id]
      refine ⟨M, ?_, hK, Out.rfl⟩
      show f_Kept_isNew_l2B (f_Kept_isNew_l2 g) (nI j) r (nI i) M = _
      unfold f_Kept_isNew_l2B
      simp only [hc, hc2, k1, hx, he]
      rw [if_pos G, if_neg (fun q => by have := (nI_leI (by omega) (by omega)).mp q; omega), if_pos G, if_pos (gin_t (by omega) (by decide)), if_pos trivial]
    · obtain ⟨M', e1, e2, e3⟩ := ih (i + 1) g M (by omega) (by omega) hK (fun q hq2 => by
        by_cases hqi : q = i
        · rw [hqi]; exact he
        · exact hq q (by omega))
      refine ⟨M', ?_, e2, e3⟩
      rw [← e1]
      show f_Kept_isNew_l2B (f_Kept_isNew_l2 g) (nI j) r (nI i) M = _
      unfold f_Kept_isNew_l2B
      simp only [hc, hc2, k1, hx]
      rw [if_pos G, if_neg (fun q => by have := (nI_leI (by omega) (by omega)).mp q; omega), if_pos G, if_pos (gin_t (by omega) (by decide)), if_neg he, nI_1]

theorem addP_len : ∀ (l : List Int32) (room : Nat) (g : Int32), l.length ≤ room → (addP l room g).length ≤ room
  | [], room, g, _ => by
    unfold addP
    by_cases h : room = 0
    · rw [if_pos h]; exact Nat.zero_le _
    · rw [if_neg h]; show 1 ≤ room; omega
  | x :: l, room, g, h => by
    unfold addP
    by_cases hx : (x &&& (-1048321)) = g
    · rw [if_pos hx]; exact h
    · rw [if_neg hx]
      have h1 : l.length + 1 ≤ room := h
      have := addP_len l (room - 1) g (by omega)
      show (addP l (room - 1) g).length + 1 ≤ room
      omega
theorem addP_app : ∀ (pre suf : List Int32) (room : Nat) (g : Int32), (∀ x, x ∈ pre → ¬ (x &&& (-1048321)) = g) → addP (pre ++ suf) room g = pre ++ addP suf (room - pre.length) g
  | [], suf, room, g, _ => by rw [List.nil_append, List.nil_append]; rfl
  | x :: pre, suf, room, g, h => by
    show (if (x &&& (-1048321)) = g then (x + 256) :: (pre ++ suf) else x :: addP (pre ++ suf) (room - 1) g) = _
    rw [if_neg (h x List.mem_cons_self), addP_app pre suf (room - 1) g (fun y hy => h y (List.mem_cons_of_mem _ hy))]
    show x :: (pre ++ addP suf (room - 1 - pre.length) g) = x :: (pre ++ addP suf (room - (pre.length + 1)) g)
    rw [show room - 1 - pre.length = room - (pre.length + 1) by omega]
theorem AH_set {f g : Nat → Int32} {pre suf : List Int32} {x y : Int32} (h : AH f (pre ++ x :: suf)) (hg : ∀ j, j ≠ pre.length → g j = f j) (hy : g pre.length = y) : AH g (pre ++ y :: suf) := by
  intro j hj
  have hl : (pre ++ y :: suf).length = (pre ++ x :: suf).length := by rw [List.length_append, List.length_append]; rfl
  by_cases e : j = pre.length
  · subst e
    rw [hy, List.getD_eq_getElem?_getD, List.getElem?_append_right (Nat.le_refl _), Nat.sub_self]
    rfl
  · rw [hg j e, h j (by omega)]
    by_cases e2 : j < pre.length
    · rw [List.getD_eq_getElem?_getD, List.getD_eq_getElem?_getD, List.getElem?_append_left e2, List.getElem?_append_left e2]
    · rw [List.getD_eq_getElem?_getD, List.getD_eq_getElem?_getD, List.getElem?_append_right (by omega), List.getElem?_append_right (by omega)]
      obtain ⟨m, hm⟩ : ∃ m, j - pre.length = m + 1 := ⟨j - pre.length - 1, by omega⟩
      rw [hm]
      rfl
theorem AH_at {f : Nat → Int32} {pre suf : List Int32} {x : Int32} (h : AH f (pre ++ x :: suf)) : f pre.length = x := by
  rw [h pre.length (by rw [List.length_append]; show _ < _ + (_ + 1); omega), List.getD_eq_getElem?_getD, List.getElem?_append_right (Nat.le_refl _), Nat.sub_self]
  rfl
theorem u_addToGroup {kp : KP} {j : Nat} {g : Int32} (hj : j < 14) : ∀ (suf pre : List Int32) (fuel : Nat) (M : Mem), kp j = pre ++ suf → suf.length < fuel → KRel M kp → (∀ x, x ∈ pre → ¬ (x &&& (-1048321)) = g) →
    ∃ M', f_Kept_addToGroup_l8 fuel (nI j) g (nI pre.length) M = some M' ∧ KRel M' (upF kp j (addP (kp j) 220 g)) ∧ Out KpP M M' := by
  intro suf
  induction suf with
  | nil =>
    intro pre fuel M hkp hf hK hp
    obtain ⟨fu, rfl⟩ : ∃ g, fuel = g + 1 := ⟨fuel - 1, by omega⟩
    obtain ⟨k1, k2, k3⟩ := hK j hj
    have hl : (kp j).length = pre.length := by rw [hkp, List.append_nil]
    have G : gin (nI j) 14 := gin_t hj (by decide)
    have hc : (nI j).toNatClampNeg = j := nI_clamp (by omega)
    have hadd : addP (kp j) 220 g = kp j ++ (if 220 - pre.length = 0 then [] else [g + 512]) := by rw [hkp, addP_app pre [] 220 g hp, List.append_nil]; rfl
    rw [hadd]
    show ∃ M', f_Kept_addToGroup_l8B (f_Kept_addToGroup_l8 fu) (nI j) g (nI pre.length) M = _ ∧ _
    unfold f_Kept_addToGroup_l8B
    simp only [hc, k1]
    rw [← hl, if_pos G, if_pos (Int32.le_refl _), if_pos G]
    have e220 : ((220 : Int32) ≤ nI (kp j).length) ↔ 220 ≤ (kp j).length := nI_leI (a := 220) (by decide) (by omega)
    by_cases h2 : (kp j).length < 220
    · rw [if_neg (fun q => by have := e220.mp q; omega), if_pos G, if_pos G, if_pos (gin_t h2 (by decide)), bn, if_pos G, if_pos G, bn, nI_clamp (by omega), if_neg (show ¬ 220 - (kp j).length = 0 by omega), ms_c _ _ (show (43 : Nat) ≠ 29 + j by omega), k1, nI_1]
      have o1 : Out (fun c k => (c = 43 ∧ k = j) ∨ c = 29 + j) M (mset (mset M (29 + j) (kp j).length (g + 512)) 43 j (nI ((kp j).length + 1))) := (Out.set (Or.inr rfl)).trans (Out.set (Or.inl ⟨rfl, rfl⟩))
      refine ⟨_, rfl, hK.put hj (by rw [List.length_append]; show (kp j).length + 1 ≤ 220; omega) (by rw [ms_s, List.length_append]; rfl) (k3.snoc (fun q hq2 => ?_) ?_) o1, o1.mono (fun c k q => by unfold KpP; omega)⟩
      · rw [ms_c _ _ (by omega), ms_k _ _ (by omega)]
      · rw [ms_c _ _ (by omega), ms_s]
    · rw [if_pos (e220.mpr (by omega)), if_pos (show 220 - (kp j).length = 0 by omega), List.append_nil, upF_id]
      exact ⟨M, rfl, hK, Out.rfl⟩
  | cons x suf ih =>
    intro pre fuel M hkp hf hK hp
    have hf : suf.length + 1 < fuel := hf
    obtain ⟨fu, rfl⟩ : ∃ g, fuel = g + 1 := ⟨fuel - 1, by omega⟩
    obtain ⟨k1, k2, k3⟩ := hK j hj
    have hl : (kp j).length = pre.length + (suf.length + 1) := by rw [hkp, List.length_append]; rfl
    have G : gin (nI j) 14 := gin_t hj (by decide)
    have G2 : gin (nI pre.length) 220 := gin_t (by omega) (by decide)
    have hc : (nI j).toNatClampNeg = j := nI_clamp (by omega)
    have hc2 : (nI pre.length).toNatClampNeg = pre.length := nI_clamp (by omega)
    have k3' := k3
    rw [hkp] at k3'
    have hx : M (29 + j) pre.length = x := AH_at k3'
    have nle : ¬ nI (kp j).length ≤ nI pre.length := fun q => by have := (nI_leI (by omega) (by omega)).mp q; omega
    by_cases he : (x &&& (-1048321)) = g
    · have hadd : addP (kp j) 220 g = pre ++ (x + 256) :: suf := by
        rw [hkp, addP_app pre (x :: suf) 220 g hp]
        show pre ++ (if (x &&& (-1048321)) = g then (x + 256) :: suf else _) = _
        rw [if_pos he]
      rw [hadd]
      have o1 : Out (fun c k => (c = 43 ∧ k = j) ∨ c = 29 + j) M (mset M (29 + j) pre.length (x + 256)) := Out.set (Or.inr rfl)
      refine ⟨mset M (29 + j) pre.length (x + 256), ?_, hK.put hj (by rw [List.length_append]; show _ + (_ + 1) ≤ 220; omega) ?_ (AH_set k3' (fun q hq => ms_k _ _ hq) (ms_s _ _ _ _)) o1, o1.mono (fun c k q => by unfold KpP; omega)⟩
      · show f_Kept_addToGroup_l8B (f_Kept_addToGroup_l8 fu) (nI j) g (nI pre.length) M = _
        unfold f_Kept_addToGroup_l8B
        simp only [hc, hc2, k1, hx]
        rw [if_pos G, if_neg nle, if_pos G, if_pos G2, if_pos he, if_pos G, if_pos G2, if_pos G2, bn]
      · rw [ms_c _ _ (by omega), k1, hl, List.length_append]
        rfl
    · obtain ⟨M', e1, e2, e3⟩ := ih (pre ++ [x]) fu M (by rw [hkp, List.append_assoc]; rfl) (by omega) hK (fun y hy => by
        rcases List.mem_append.mp hy with h | h
        · exact hp y h
        · rw [List.mem_singleton.mp h]; exact he)
      refine ⟨M', ?_, e2, e3⟩
      rw [← e1]
      show f_Kept_addToGroup_l8B (f_Kept_addToGroup_l8 fu) (nI j) g (nI pre.length) M = _
      unfold f_Kept_addToGroup_l8B
      simp only [hc, hc2, k1, hx]
      rw [if_pos G, if_neg nle, if_pos G, if_pos G2, if_neg he, nI_1, List.length_append]
      rfl
/-- what a plan's run at cell o finds all through: its course, its pairs -/
def CRel (o : Nat) (M : Mem) (cd fg : Nat → Int32) (n : Nat) (jn : Int32) (np : Nat) (pk pv : Nat → Int32) : Prop :=
  n ≤ 14 ∧ np ≤ 10 ∧ M (o + 1) 2 = nI n ∧ M (o + 1) 3 = jn ∧ (∀ j, j < n → M (o + 2) j = cd j ∧ M (o + 3) j = fg j) ∧ M (o + 4) 3 = nI np ∧ ∀ q, q < np → M (o + 5) q = pk q ∧ M (o + 6) q = pv q
/-- a run of the class -/
def isRun (o : Nat) : Prop := o = 55 ∨ o = 67 ∨ o = 79
theorem CRel.out {o : Nat} {M M' : Mem} {cd fg : Nat → Int32} {n : Nat} {jn : Int32} {np : Nat} {pk pv : Nat → Int32} {P : Nat → Nat → Prop} (h : CRel o M cd fg n jn np pk pv) (ou : Out P M M') (hp : ∀ c k, P c k → ¬ (o + 1 ≤ c ∧ c ≤ o + 6)) : CRel o M' cd fg n jn np pk pv := by
  obtain ⟨h1, h2, h3, h4, h5, h6, h7⟩ := h
  have e : ∀ c k, o + 1 ≤ c ∧ c ≤ o + 6 → M' c k = M c k := fun c k hc => ou c k (fun q => hp c k q hc)
  refine ⟨h1, h2, by rw [e _ _ (by omega)]; exact h3, by rw [e _ _ (by omega)]; exact h4, fun j hj => ?_, by rw [e _ _ (by omega)]; exact h6, fun q hq => ?_⟩
  · rw [e _ _ (by omega), e _ _ (by omega)]; exact h5 j hj
  · rw [e _ _ (by omega), e _ _ (by omega)]; exact h7 q hq
theorem u_keyAt {o : Nat} {M : Mem} {cd fg : Nat → Int32} {n : Nat} {jn : Int32} {np : Nat} {pk pv : Nat → Int32} (h : CRel o M cd fg n jn np pk pv) (x : Int32) : f_Pairs_keyAt (o + 4) M x = some (hkOf np pk x) := by
  obtain ⟨h1, h2, h3, h4, h5, h6, h7⟩ := h
  unfold f_Pairs_keyAt f_Pairs_keyAt_b21 hkOf
  rw [h6]
  by_cases c0 : x < 0
  · rw [if_pos c0, if_pos c0]
  · rw [if_neg c0, if_neg c0]
    by_cases c1 : nI np ≤ x
    · rw [if_pos c1, if_pos c1]
    · rw [if_neg c1, if_neg c1]
      obtain ⟨q, hq, rfl, -, e, -⟩ := pk_mu c0 c1 (by omega)
      rw [if_pos (gin_t (by omega) (by decide)), e]
      rw [show o + 4 + 1 = o + 5 by omega, (h7 q hq).1]
theorem u_valueAt {o : Nat} {M : Mem} {cd fg : Nat → Int32} {n : Nat} {jn : Int32} {np : Nat} {pk pv : Nat → Int32} (h : CRel o M cd fg n jn np pk pv) (x : Int32) : f_Pairs_valueAt (o + 4) M x = some (hkOf np pv x) := by
  obtain ⟨h1, h2, h3, h4, h5, h6, h7⟩ := h
  unfold f_Pairs_valueAt f_Pairs_valueAt_b21 hkOf
  rw [h6]
  by_cases c0 : x < 0
  · rw [if_pos c0, if_pos c0]
  · rw [if_neg c0, if_neg c0]
    by_cases c1 : nI np ≤ x
    · rw [if_pos c1, if_pos c1]
    · rw [if_neg c1, if_neg c1]
      obtain ⟨q, hq, rfl, -, e, -⟩ := pk_mu c0 c1 (by omega)
      rw [if_pos (gin_t (by omega) (by decide)), e]
      rw [show o + 4 + 2 = o + 6 by omega, (h7 q hq).2]
theorem u_through {o : Nat} {M : Mem} {cd fg : Nat → Int32} {n : Nat} {jn : Int32} {np : Nat} {pk pv : Nat → Int32} {kp : KP} {j : Nat} {r : Int32} (h : CRel o M cd fg n jn np pk pv) (hK : KRel M kp) (hj : j < n) :
    ∃ M', f_Run_through o M (nI j) r = some ((ct (cd j) (fg j) (hkOf np pk (r >>> (20 &&& 31))) r (kp j)).1, M') ∧ KRel M' (upF kp j (ct (cd j) (fg j) (hkOf np pk (r >>> (20 &&& 31))) r (kp j)).2) ∧ Out KpP M M' := by
  have hn := h.1
  have G : gin (nI j) 14 := gin_t (by omega) (by decide)
  have hc : (nI j).toNatClampNeg = j := nI_clamp (by omega)
  obtain ⟨e1, e2⟩ := h.2.2.2.2.1 j hj
  have hl := (hK j (by omega)).2.1
  have same : ∀ x : Int32, ∃ M', (some (x, M) : Option (Int32 × Mem)) = some (x, M') ∧ KRel M' (upF kp j (kp j)) ∧ Out KpP M M' := fun x => ⟨M, rfl, by rw [upF_id]; exact hK, Out.rfl⟩
  unfold f_Run_through f_Run_through_b91 f_Run_through_b108 f_Run_through_b123 f_Run_through_b132 f_Run_through_b193
  rw [bn, bn, u_keyAt h, Option.bind_some, if_pos G]
  simp only [show o + 1 + 1 = o + 2 by omega, show o + 1 + 2 = o + 3 by omega, hc, e1, e2]
  unfold ct
  by_cases c1 : cd j = 1
  · rw [if_pos c1, if_pos c1]
    split
    · exact same _
    · split
      · exact same _
      · exact same _
  · rw [if_neg c1, if_neg c1]
    by_cases c2 : cd j = 2
    · rw [if_pos c2, if_pos c2]
      split
      · exact same _
      · split
        · exact same _
        · exact same _
    · rw [if_neg c2, if_neg c2]
      by_cases c3 : cd j = 3
      · rw [if_pos c3, if_pos c3]
        split
        · exact same _
        · split
          · exact same _
          · exact same _
      · rw [if_neg c3, if_neg c3]
        by_cases c4 : cd j = 4
        · rw [if_pos c4, if_pos c4]
          exact same _
        · rw [if_neg c4, if_neg c4]
          by_cases c5 : cd j = 5
          · rw [if_pos c5, if_pos c5]
            obtain ⟨M', q1, q2, q3⟩ := u_isNew (kp := kp) (j := j) (r := r) (by omega) (kp j).length 0 FU M (by omega) (Nat.lt_trans (by omega) fu_lt) hK (fun q hq => absurd hq (Nat.not_lt_zero q))
            have q1 : f_Kept_isNew M (nI j) r = some (if r ∈ kp j then 0 else 1, M') := q1
            rw [q1, Option.bind_some]
            by_cases hm : r ∈ kp j
            · rw [if_pos hm] at q2
              simp only [if_pos hm, if_true]
              exact ⟨M', rfl, q2, q3⟩
            · rw [if_neg hm] at q2
              simp only [if_neg hm]
              rw [if_neg (by decide)]
              exact ⟨M', rfl, q2, q3⟩
          · rw [if_neg c5, if_neg c5]
            by_cases c6 : cd j = 6
            · rw [if_pos c6, if_pos c6]
              obtain ⟨M', q1, q2, q3⟩ := u_addToGroup (kp := kp) (j := j) (g := r &&& (-1048321)) (by omega) (kp j) [] FU M rfl (Nat.lt_trans (by omega) fu_lt) hK (fun x hx => by cases hx)
              have q1 : f_Kept_addToGroup M (nI j) r = some M' := q1
              rw [q1, Option.bind_some]
              exact ⟨M', rfl, q2, q3⟩
            · rw [if_neg c6, if_neg c6]
              by_cases c7 : cd j = 7
              · rw [if_pos c7, if_pos c7]
                split
                · exact same _
                · split
                  · exact same _
                  · exact same _
              · rw [if_neg c7, if_neg c7]
                exact same _
/-- the class's Run.pass -/
def PsP (o c k : Nat) : Prop := KpP c k ∨ (c = o + 8 ∧ k = 6)
theorem u_pass {o : Nat} (ho : isRun o) {cd fg : Nat → Int32} {n : Nat} {jn : Int32} {np : Nat} {pk pv : Nat → Int32} : ∀ (d j fuel : Nat) (M : Mem) (kp : KP) (r : Int32), d + j ≤ n → d < fuel → CRel o M cd fg n jn np pk pv → KRel M kp →
    ∃ M', f_Run_pass_l6 o fuel (nI (d + j)) r (nI j) M = some ((cps cd fg np pk d j r kp (M (o + 8) 6)).1, M') ∧ KRel M' (cps cd fg np pk d j r kp (M (o + 8) 6)).2.1 ∧ M' (o + 8) 6 = (cps cd fg np pk d j r kp (M (o + 8) 6)).2.2 ∧ Out (PsP o) M M' := by
  intro d
  induction d with
  | zero =>
    intro j fuel M kp r hd hf hC hK
    obtain ⟨g, rfl⟩ : ∃ g, fuel = g + 1 := ⟨fuel - 1, by omega⟩
    refine ⟨M, ?_, hK, rfl, Out.rfl⟩
    show f_Run_pass_l6B o (f_Run_pass_l6 o g) (nI (0 + j)) r (nI j) M = _
    unfold f_Run_pass_l6B f_Run_pass_b53
    rw [Nat.zero_add, if_pos (Int32.le_refl _)]
    rfl
  | succ d ih =>
    intro j fuel M kp r hd hf hC hK
    have hn := hC.1
    obtain ⟨g, rfl⟩ : ∃ g, fuel = g + 1 := ⟨fuel - 1, by omega⟩
    show ∃ M', f_Run_pass_l6B o (f_Run_pass_l6 o g) (nI (d + 1 + j)) r (nI j) M = _ ∧ _
    unfold f_Run_pass_l6B f_Run_pass_b53 f_Run_pass_b47
    rw [if_neg (fun q => by have := (nI_leI (by omega) (by omega)).mp q; omega)]
    unfold cps
    by_cases hr : r = -1
    · rw [if_pos hr, if_pos hr]
      exact ⟨M, rfl, hK, rfl, Out.rfl⟩
    · rw [if_neg hr, if_neg hr]
      obtain ⟨M1, q1, q2, q3⟩ := u_through (j := j) (r := r) hC hK (by omega)
      rw [q1, Option.bind_some]
      have hc8 : ¬ KpP (o + 8) 6 := by unfold KpP; unfold isRun at ho; omega
      generalize ct (cd j) (fg j) (hkOf np pk (r >>> (20 &&& 31))) r (kp j) = w at q2 ⊢
      by_cases hw : w.1 = -1
      · rw [if_pos hw, if_pos hw, hw]
        refine ⟨M1, ?_, q2, q3 _ _ hc8, q3.mono (fun c k q => Or.inl q)⟩
        rw [nI_1]
        -- once gone it stays gone
        obtain ⟨g2, rfl⟩ : ∃ g2, g = g2 + 1 := ⟨g - 1, by omega⟩
        show f_Run_pass_l6B o (f_Run_pass_l6 o g2) (nI (d + 1 + j)) (-1) (nI (j + 1)) M1 = _
        unfold f_Run_pass_l6B f_Run_pass_b53
        rw [if_pos rfl]
        split <;> rfl
      · rw [if_neg hw, if_neg hw, bn]
        have o2 : Out (PsP o) M (mset M1 (o + 8) 6 (M1 (o + 8) 6 + 1)) := (q3.mono (fun c k q => Or.inl q)).trans (Out.set (Or.inr ⟨rfl, rfl⟩))
        obtain ⟨M2, r1, r2, r3, r4⟩ := ih (j + 1) g (mset M1 (o + 8) 6 (M1 (o + 8) 6 + 1)) (upF kp j w.2) w.1 (by omega) (by omega) (hC.out o2 (fun c k q => by unfold PsP KpP at q; unfold isRun at ho; omega)) (q2.out (P := fun c k => c = o + 8) (Out.set rfl) (fun c k q => by unfold KpP; unfold isRun at ho; omega))
        rw [ms_s, q3 _ _ hc8] at r1 r2 r3
        refine ⟨M2, ?_, r2, r3, o2.trans r4⟩
        show f_Run_pass_l6 o g (nI (d + 1 + j)) w.1 (nI j + 1) (mset M1 (o + 8) 6 (M1 (o + 8) 6 + 1)) = _
        rw [nI_1, show d + 1 + j = d + (j + 1) by omega, q3 _ _ hc8]
        exact r1
