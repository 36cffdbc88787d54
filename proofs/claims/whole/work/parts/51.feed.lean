-- ===== one row fed, place by place =====
section CF
variable {cd fg : Nat → Int32} {n : Nat} {jo : Option Nat} {np : Nat} {pk pv : Nat → Int32}
theorem cps_s {d j : Nat} {r : Int32} {kp : KP} {h : Int32} : cps cd fg np pk (d + 1) j r kp h = if r = -1 then (r, kp, h)
    else if (ct (cd j) (fg j) (hkOf np pk (r >>> (20 &&& 31))) r (kp j)).1 = -1 then (-1, upF kp j (ct (cd j) (fg j) (hkOf np pk (r >>> (20 &&& 31))) r (kp j)).2, h)
    else cps cd fg np pk d (j + 1) (ct (cd j) (fg j) (hkOf np pk (r >>> (20 &&& 31))) r (kp j)).1 (upF kp j (ct (cd j) (fg j) (hkOf np pk (r >>> (20 &&& 31))) r (kp j)).2) (h + 1) := rfl
theorem cps_go {d j : Nat} {r r' : Int32} {l' : List Int32} {kp : KP} {h : Int32} (hr : ¬ r = -1) (hc : ct (cd j) (fg j) (hkOf np pk (r >>> (20 &&& 31))) r (kp j) = (r', l')) (hr' : ¬ r' = -1) : cps cd fg np pk (d + 1) j r kp h = cps cd fg np pk d (j + 1) r' (upF kp j l') (h + 1) := by
  rw [cps_s, if_neg hr, hc, if_neg hr']
theorem cps_no {d j : Nat} {r : Int32} {l' : List Int32} {kp : KP} {h : Int32} (hr : ¬ r = -1) (hc : ct (cd j) (fg j) (hkOf np pk (r >>> (20 &&& 31))) r (kp j) = (-1, l')) : cps cd fg np pk (d + 1) j r kp h = (-1, upF kp j l', h) := by
  rw [cps_s, if_neg hr, hc, if_pos rfl]
theorem carr_m1 {s : ST} : carr np pv (-1) s = s := by
  unfold carr; rw [if_pos rfl]
theorem cfd_go {pl : Nat} {r r' : Int32} {l' : List Int32} {s : ST} (hp : pl < n) (hj : ¬ jo = some pl) (hjn : ∀ j, jo = some j → j < n) (hr : ¬ r = -1) (hc : ct (cd pl) (fg pl) (hkOf np pk (r >>> (20 &&& 31))) r (s.1 pl) = (r', l')) (hr' : ¬ r' = -1) :
    cfd cd fg n jo np pk pv r pl s = cfd cd fg n jo np pk pv r' (pl + 1) (upF s.1 pl l', s.2.1 + 1, s.2.2) := by
  obtain ⟨e, he⟩ : ∃ e, n - pl = e + 1 := ⟨n - pl - 1, by omega⟩
  have he2 : n - (pl + 1) = e := by omega
  cases jo with
  | none =>
    unfold cfd
    rw [he, he2, cps_go hr hc hr']
  | some j =>
    have hjl := hjn j rfl
    have hne : j ≠ pl := fun q => hj (by rw [q])
    unfold cfd
    by_cases h1 : pl ≤ j
    · obtain ⟨f, hf⟩ : ∃ f, j - pl = f + 1 := ⟨j - pl - 1, by omega⟩
      have hf2 : j - (pl + 1) = f := by omega
      simp only [if_pos h1, if_pos (show pl + 1 ≤ j by omega)]
      rw [hf, hf2, cps_go hr hc hr']
    · simp only [if_neg h1, if_neg (show ¬ pl + 1 ≤ j by omega)]
      rw [he, he2, cps_go hr hc hr']
theorem cfd_no {pl : Nat} {r : Int32} {l' : List Int32} {s : ST} (hp : pl < n) (hj : ¬ jo = some pl) (hr : ¬ r = -1) (hc : ct (cd pl) (fg pl) (hkOf np pk (r >>> (20 &&& 31))) r (s.1 pl) = (-1, l')) :
    cfd cd fg n jo np pk pv r pl s = (upF s.1 pl l', s.2.1, s.2.2) := by
  obtain ⟨e, he⟩ : ∃ e, n - pl = e + 1 := ⟨n - pl - 1, by omega⟩
  cases jo with
  | none =>
    unfold cfd
    simp only
    rw [he, cps_no hr hc, carr_m1]
  | some j =>
    have hne : j ≠ pl := fun q => hj (by rw [q])
    unfold cfd
    by_cases h1 : pl ≤ j
    · obtain ⟨f, hf⟩ : ∃ f, j - pl = f + 1 := ⟨j - pl - 1, by omega⟩
      simp only [if_pos h1]
      rw [hf, cps_no hr hc, if_pos rfl]
    · simp only [if_neg h1]
      rw [he, cps_no hr hc, carr_m1]
theorem cfd_end {r : Int32} {s : ST} (hjn : ∀ j, jo = some j → j < n) : cfd cd fg n jo np pk pv r n s = carr np pv r s := by
  cases jo with
  | none =>
    unfold cfd
    simp only [Nat.sub_self]
    rfl
  | some j =>
    have := hjn j rfl
    unfold cfd
    simp only [if_neg (show ¬ n ≤ j by omega), Nat.sub_self]
    rfl
theorem cfd_join {r : Int32} {s : ST} {j : Nat} (hr : ¬ r = -1) : cfd cd fg n (some j) np pk pv r j s = cjl cd fg n j np pk pv r np 0 s := by
  unfold cfd
  simp only [if_pos (Nat.le_refl j), Nat.sub_self]
  show (if r = -1 then _ else _) = _
  rw [if_neg hr]
  rfl
/-- behind the join a row is fed as where there is none -/
theorem cfd_after {r : Int32} {s : ST} {j fr : Nat} (h : j < fr) : cfd cd fg n (some j) np pk pv r fr s = carr np pv (cps cd fg np pk (n - fr) fr r s.1 s.2.1).1 ((cps cd fg np pk (n - fr) fr r s.1 s.2.1).2.1, (cps cd fg np pk (n - fr) fr r s.1 s.2.1).2.2, s.2.2) := by
  unfold cfd
  simp only [if_neg (show ¬ fr ≤ j by omega)]
theorem chk_app {w : Int32} : ∀ (a b pl : Nat) (s : ST), chk cd fg n jo np pk pv w (a + b) pl s = chk cd fg n jo np pk pv w b (pl + a) (chk cd fg n jo np pk pv w a pl s) := by
  intro a
  induction a with
  | zero => intro b pl s; rw [Nat.zero_add]; rfl
  | succ a ih =>
    intro b pl s
    rw [show a + 1 + b = (a + b) + 1 by omega]
    show chk cd fg n jo np pk pv w (a + b) (pl + 1) _ = chk cd fg n jo np pk pv w b (pl + (a + 1)) (chk cd fg n jo np pk pv w a (pl + 1) _)
    rw [ih, show pl + 1 + a = pl + (a + 1) by omega]
theorem cfl_stop {w : Int32} {fr : Nat} {l : List Int32} {c : Int32} {s : ST} (h : w ≤ s.2.2.1) : cfl cd fg n jo np pk pv w fr l c s = (c, s) := by
  cases l with
  | nil => rfl
  | cons r rs => show (if w ≤ s.2.2.1 then (c, s) else _) = _; rw [if_pos h]
theorem cpl_stop {w : Int32} {pl : Nat} {s : ST} (h : w ≤ s.2.2.1) : cpl cd fg n jo np pk pv w pl s = s := by
  unfold cpl
  rw [cfl_stop h, cfl_stop h]
  split
  · rfl
  · split <;> rfl
theorem chk_stop {w : Int32} : ∀ (d pl : Nat) (s : ST), w ≤ s.2.2.1 → chk cd fg n jo np pk pv w d pl s = s := by
  intro d
  induction d with
  | zero => intro pl s _; rfl
  | succ d ih =>
    intro pl s h
    show chk cd fg n jo np pk pv w d (pl + 1) (cpl cd fg n jo np pk pv w pl s) = s
    rw [cpl_stop h]
    exact ih _ _ h
end CF
-- ===== the place of a step when one is left out =====
def plc (skn j : Nat) : Nat := if skn < j then j else j + 1
theorem plc_s {skn j : Nat} (h : j ≠ skn) : plc skn (j + 1) = plc skn j + 1 := by
  unfold plc
  by_cases h1 : skn < j
  · rw [if_pos h1, if_pos (by omega)]
  · rw [if_neg h1, if_neg (by omega)]
theorem plc_e {skn : Nat} : plc skn (skn + 1) = plc skn skn := by
  unfold plc
  rw [if_pos (by omega), if_neg (by omega)]
theorem plc_lt {skn i j : Nat} (hi : i ≠ skn) (h : i < j) : plc skn i < plc skn j := by
  unfold plc
  split <;> split <;> omega
theorem plc_mono {skn i j : Nat} (h : i ≤ j) : plc skn i ≤ plc skn j := by
  unfold plc
  split <;> split <;> omega
theorem plc_ne {skn i j : Nat} (hi : i ≠ skn) (hj : j ≠ skn) (h : i ≠ j) : plc skn i ≠ plc skn j := by
  unfold plc
  split <;> split <;> omega
theorem skp_at {sk : Int32} {skn : Nat} {d : Int32 × Int32} {T : Nat} (hsk : ∀ j, j < T → (nI j = sk ↔ j = skn)) : ∀ (l : List (Int32 × Int32)) (i j : Nat), i + l.length ≤ T → j < l.length → i + j ≠ skn → (skp sk i l).getD (if i ≤ skn ∧ skn < i + j then j - 1 else j) d = l.getD j d := by
  intro l
  induction l with
  | nil => intro i j _ h; exact absurd h (Nat.not_lt_zero j)
  | cons x l ih =>
    intro i j hT hj hne
    have hT' : i + (l.length + 1) ≤ T := hT
    have hj' : j < l.length + 1 := hj
    show (if nI i = sk then skp sk (i + 1) l else x :: skp sk (i + 1) l).getD _ d = _
    by_cases hi : i = skn
    · rw [if_pos ((hsk i (by omega)).mpr hi)]
      obtain ⟨j', rfl⟩ : ∃ j', j = j' + 1 := ⟨j - 1, by omega⟩
      rw [if_pos (by omega)]
      have := ih (i + 1) j' (by omega) (by omega) (by omega)
      rw [if_neg (by omega)] at this
      rw [Nat.add_sub_cancel, this]
      rfl
    · rw [if_neg (fun q => hi ((hsk i (by omega)).mp q))]
      cases j with
      | zero => rw [if_neg (by omega)]; rfl
      | succ j' =>
        have := ih (i + 1) j' (by omega) (by omega) (by omega)
        by_cases hc : i ≤ skn ∧ skn < i + (j' + 1)
        · rw [if_pos hc]
          rw [if_pos (show i + 1 ≤ skn ∧ skn < i + 1 + j' by omega)] at this
          obtain ⟨j2, rfl⟩ : ∃ j2, j' = j2 + 1 := ⟨j' - 1, by omega⟩
          exact this
        · rw [if_neg hc]
          rw [if_neg (show ¬ (i + 1 ≤ skn ∧ skn < i + 1 + j') by omega)] at this
          exact this
theorem skp_ln {sk : Int32} {skn : Nat} {T : Nat} (hsk : ∀ j, j < T → (nI j = sk ↔ j = skn)) : ∀ (l : List (Int32 × Int32)) (i : Nat), i + l.length ≤ T → (skp sk i l).length = if i ≤ skn ∧ skn < i + l.length then l.length - 1 else l.length := by
  intro l
  induction l with
  | nil => intro i _; rw [if_neg (show ¬ (i ≤ skn ∧ skn < i + ([] : List (Int32 × Int32)).length) from fun q => by have h2 : skn < i + 0 := q.2; omega)]; rfl
  | cons x l ih =>
    intro i hT
    have hT' : i + (l.length + 1) ≤ T := hT
    show (if nI i = sk then skp sk (i + 1) l else x :: skp sk (i + 1) l).length = if i ≤ skn ∧ skn < i + (l.length + 1) then l.length + 1 - 1 else l.length + 1
    by_cases hi : i = skn
    · rw [if_pos ((hsk i (by omega)).mpr hi), ih (i + 1) (by omega), if_neg (by omega), if_pos (by omega)]
      omega
    · rw [if_neg (fun q => hi ((hsk i (by omega)).mp q))]
      show (skp sk (i + 1) l).length + 1 = _
      rw [ih (i + 1) (by omega)]
      by_cases hc : i ≤ skn ∧ skn < i + (l.length + 1)
      · rw [if_pos hc, if_pos (by omega)]
        omega
      · rw [if_neg hc, if_neg (by omega)]
/-- a row's course -/
def rco (sk : Int32) (L : List (Int32 × Int32)) : List (Int32 × Int32) := (0, -1) :: skp sk 0 L
section RC
variable {sk : Int32} {skn : Nat} {L : List (Int32 × Int32)}
theorem rco_len (hsk : ∀ j, j < L.length → (nI j = sk ↔ j = skn)) : (rco sk L).length = plc skn L.length := by
  show (skp sk 0 L).length + 1 = _
  rw [skp_ln hsk L 0 (by omega)]
  unfold plc
  by_cases h : skn < L.length
  · rw [if_pos (by omega), if_pos h]
    omega
  · rw [if_neg (by omega), if_neg h]
theorem rco_at (hsk : ∀ j, j < L.length → (nI j = sk ↔ j = skn)) {j : Nat} (hj : j < L.length) (hne : j ≠ skn) : fs1 (rco sk L) (plc skn j) = fs1 L j ∧ fs2 (rco sk L) (plc skn j) = fs2 L j := by
  have h := skp_at (d := (0, 0)) hsk L 0 j (by omega) hj (by omega)
  have e : plc skn j = (if 0 ≤ skn ∧ skn < 0 + j then j - 1 else j) + 1 := by
    unfold plc
    by_cases h : skn < j
    · rw [if_pos h, if_pos (by omega)]; omega
    · rw [if_neg h, if_neg (by omega)]
  have e2 : (rco sk L).getD (plc skn j) (0, 0) = L.getD j (0, 0) := by
    rw [e, ← h]
    rfl
  unfold fs1 fs2
  rw [e2]
  exact ⟨rfl, rfl⟩
end RC
