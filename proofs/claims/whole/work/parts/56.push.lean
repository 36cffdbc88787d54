-- ===== free: rows pushed one by one, or place by place =====
def bmp (i : Nat) (l : List Int32) (c : Int32) (s : ST) : ST := (upF s.1 i l, s.2.1 + c, s.2.2)
theorem upF_c (kp : KP) {i j : Nat} (l l' : List Int32) (h : i ≠ j) : upF (upF kp i l) j l' = upF (upF kp j l') i l := by
  funext q
  unfold upF
  by_cases h1 : q = j
  · rw [if_pos h1, if_neg (by omega), if_pos h1]
  · rw [if_neg h1]
    by_cases h2 : q = i
    · rw [if_pos h2, if_pos h2]
    · rw [if_neg h2, if_neg h2, if_neg h1]
theorem upF_u (kp : KP) (i : Nat) (l l' : List Int32) : upF (upF kp i l) i l' = upF kp i l' := by
  funext q
  unfold upF
  by_cases h1 : q = i
  · rw [if_pos h1, if_pos h1]
  · rw [if_neg h1, if_neg h1, if_neg h1]
theorem add_c1 (a c : Int32) : a + c + 1 = a + 1 + c := by rw [Int32.add_assoc, Int32.add_comm c, ← Int32.add_assoc]
section CF
variable {cd fg : Nat → Int32} {n : Nat} {jo : Option Nat} {np : Nat} {pk pv : Nat → Int32}
theorem cps_comm {i : Nat} {l : List Int32} {c : Int32} : ∀ (d j : Nat) (r : Int32) (kp : KP) (h : Int32), i < j → cps cd fg np pk d j r (upF kp i l) (h + c) = ((cps cd fg np pk d j r kp h).1, upF (cps cd fg np pk d j r kp h).2.1 i l, (cps cd fg np pk d j r kp h).2.2 + c) := by
  intro d
  induction d with
  | zero => intro j r kp h _; rfl
  | succ d ih =>
    intro j r kp h hi
    rw [cps_s, cps_s, upF_n kp l (show j ≠ i by omega)]
    by_cases h1 : r = -1
    · rw [if_pos h1, if_pos h1]
    · rw [if_neg h1, if_neg h1]
      by_cases h2 : (ct (cd j) (fg j) (hkOf np pk (r >>> (20 &&& 31))) r (kp j)).1 = -1
      · rw [if_pos h2, if_pos h2, upF_c _ _ _ (show i ≠ j by omega)]
      · rw [if_neg h2, if_neg h2, upF_c _ _ _ (show i ≠ j by omega), add_c1, ih _ _ _ _ (by omega)]
theorem carr_comm {i : Nat} {l : List Int32} {c r : Int32} {s : ST} : carr np pv r (bmp i l c s) = bmp i l c (carr np pv r s) := by
  unfold carr bmp
  split
  · rfl
  · split <;> rfl
theorem cjl_comm {i j : Nat} {l : List Int32} {c r : Int32} (hi : i ≤ j) : ∀ (d q : Nat) (s : ST), cjl cd fg n j np pk pv r d q (bmp i l c s) = bmp i l c (cjl cd fg n j np pk pv r d q s) := by
  intro d
  induction d with
  | zero => intro q s; rfl
  | succ d ih =>
    intro q s
    unfold cjl
    by_cases h : cjn (cd j) pk r q = true
    · rw [if_pos h, if_pos h, ← ih, ← carr_comm]
      have e : cps cd fg np pk (n - (j + 1)) (j + 1) (r ||| (nI q <<< (20 &&& 31))) (bmp i l c s).1 ((bmp i l c s).2.1 + 1) = ((cps cd fg np pk (n - (j + 1)) (j + 1) (r ||| (nI q <<< (20 &&& 31))) s.1 (s.2.1 + 1)).1, upF (cps cd fg np pk (n - (j + 1)) (j + 1) (r ||| (nI q <<< (20 &&& 31))) s.1 (s.2.1 + 1)).2.1 i l, (cps cd fg np pk (n - (j + 1)) (j + 1) (r ||| (nI q <<< (20 &&& 31))) s.1 (s.2.1 + 1)).2.2 + c) := by
        show cps cd fg np pk (n - (j + 1)) (j + 1) _ (upF s.1 i l) (s.2.1 + c + 1) = _
        rw [add_c1, cps_comm _ _ _ _ _ (by omega)]
      rw [e]
      rfl
    · rw [if_neg h, if_neg h, ih]
theorem cfd_comm {i fr : Nat} {l : List Int32} {c r : Int32} {s : ST} (hi : i < fr) : cfd cd fg n jo np pk pv r fr (bmp i l c s) = bmp i l c (cfd cd fg n jo np pk pv r fr s) := by
  have e : ∀ d, cps cd fg np pk d fr r (bmp i l c s).1 (bmp i l c s).2.1 = ((cps cd fg np pk d fr r s.1 s.2.1).1, upF (cps cd fg np pk d fr r s.1 s.2.1).2.1 i l, (cps cd fg np pk d fr r s.1 s.2.1).2.2 + c) := fun d => cps_comm d fr r s.1 s.2.1 hi
  cases jo with
  | none =>
    unfold cfd
    simp only
    rw [e, ← carr_comm]
    rfl
  | some j =>
    unfold cfd
    simp only
    by_cases h1 : fr ≤ j
    · rw [if_pos h1, if_pos h1, e]
      by_cases h2 : (cps cd fg np pk (j - fr) fr r s.1 s.2.1).1 = -1
      · rw [if_pos h2, if_pos h2]
        rfl
      · rw [if_neg h2, if_neg h2, ← cjl_comm (show i ≤ j by omega)]
        rfl
    · rw [if_neg h1, if_neg h1, e, ← carr_comm]
      rfl
/-- rows fed at a place, each handed on -/
def fdl (cd fg : Nat → Int32) (n : Nat) (jo : Option Nat) (np : Nat) (pk pv : Nat → Int32) (fr : Nat) (rows : List Int32) (s : ST) : ST := rows.foldl (fun s r => cfd cd fg n jo np pk pv r fr (s.1, s.2.1 + 1, s.2.2)) s
theorem fdl_c {fr : Nat} {r : Int32} {rows : List Int32} {s : ST} : fdl cd fg n jo np pk pv fr (r :: rows) s = fdl cd fg n jo np pk pv fr rows (cfd cd fg n jo np pk pv r fr (s.1, s.2.1 + 1, s.2.2)) := rfl
theorem fdl_app {fr : Nat} {a b : List Int32} {s : ST} : fdl cd fg n jo np pk pv fr (a ++ b) s = fdl cd fg n jo np pk pv fr b (fdl cd fg n jo np pk pv fr a s) := List.foldl_append
theorem fdl_comm {i fr : Nat} {l : List Int32} {c : Int32} (hi : i < fr) : ∀ (rows : List Int32) (s : ST), fdl cd fg n jo np pk pv fr rows (bmp i l c s) = bmp i l c (fdl cd fg n jo np pk pv fr rows s) := by
  intro rows
  induction rows with
  | nil => intro s; rfl
  | cons r rows ih =>
    intro s
    rw [fdl_c, fdl_c, ← ih, ← cfd_comm hi]
    have e : ((bmp i l c s).1, (bmp i l c s).2.1 + 1, (bmp i l c s).2.2) = bmp i l c (s.1, s.2.1 + 1, s.2.2) := by
      show (upF s.1 i l, s.2.1 + c + 1, s.2.2) = (upF s.1 i l, s.2.1 + 1 + c, s.2.2)
      rw [add_c1]
    rw [e]
theorem fdl_kp {i fr : Nat} (hi : i < fr) : ∀ (rows : List Int32) (s : ST), (fdl cd fg n jo np pk pv fr rows s).1 i = s.1 i := by
  intro rows
  induction rows with
  | nil => intro s; rfl
  | cons r rows ih => intro s; rw [fdl_c, ih, cfd_kp hi]
-- how many arrive
theorem carr_arr {r : Int32} {s : ST} : ∃ a, a ≤ 1 ∧ (carr np pv r s).2.2.1 = s.2.2.1 + nI a := by
  unfold carr
  split
  · exact ⟨0, by omega, (Int32.add_zero _).symm⟩
  · split
    · exact ⟨0, by omega, (Int32.add_zero _).symm⟩
    · exact ⟨1, by omega, rfl⟩
theorem cjl_arr {j : Nat} {r : Int32} : ∀ (d q : Nat) (s : ST), ∃ a, a ≤ d ∧ (cjl cd fg n j np pk pv r d q s).2.2.1 = s.2.2.1 + nI a := by
  intro d
  induction d with
  | zero => intro q s; exact ⟨0, by omega, (Int32.add_zero _).symm⟩
  | succ d ih =>
    intro q s
    unfold cjl
    by_cases h : cjn (cd j) pk r q = true
    · rw [if_pos h]
      obtain ⟨a, h1, h2⟩ := ih (q + 1) (carr np pv (cps cd fg np pk (n - (j + 1)) (j + 1) (r ||| (nI q <<< (20 &&& 31))) s.1 (s.2.1 + 1)).1 ((cps cd fg np pk (n - (j + 1)) (j + 1) (r ||| (nI q <<< (20 &&& 31))) s.1 (s.2.1 + 1)).2.1, (cps cd fg np pk (n - (j + 1)) (j + 1) (r ||| (nI q <<< (20 &&& 31))) s.1 (s.2.1 + 1)).2.2, s.2.2))
      obtain ⟨b, h3, h4⟩ := carr_arr (np := np) (pv := pv) (r := (cps cd fg np pk (n - (j + 1)) (j + 1) (r ||| (nI q <<< (20 &&& 31))) s.1 (s.2.1 + 1)).1) (s := ((cps cd fg np pk (n - (j + 1)) (j + 1) (r ||| (nI q <<< (20 &&& 31))) s.1 (s.2.1 + 1)).2.1, (cps cd fg np pk (n - (j + 1)) (j + 1) (r ||| (nI q <<< (20 &&& 31))) s.1 (s.2.1 + 1)).2.2, s.2.2))
      rw [h4] at h2
      exact ⟨b + a, by omega, by rw [h2, Int32.add_assoc, nI_add]⟩
    · rw [if_neg h]
      obtain ⟨a, h1, h2⟩ := ih (q + 1) s
      exact ⟨a, by omega, h2⟩
theorem cfd_arr (hnp : np ≤ 10) {r : Int32} {fr : Nat} {s : ST} : ∃ a, a ≤ 10 ∧ (cfd cd fg n jo np pk pv r fr s).2.2.1 = s.2.2.1 + nI a := by
  have hc : ∀ d, ∃ a, a ≤ 10 ∧ (carr np pv (cps cd fg np pk d fr r s.1 s.2.1).1 ((cps cd fg np pk d fr r s.1 s.2.1).2.1, (cps cd fg np pk d fr r s.1 s.2.1).2.2, s.2.2)).2.2.1 = s.2.2.1 + nI a := fun d => by
    obtain ⟨a, h1, h2⟩ := carr_arr (np := np) (pv := pv) (r := (cps cd fg np pk d fr r s.1 s.2.1).1) (s := ((cps cd fg np pk d fr r s.1 s.2.1).2.1, (cps cd fg np pk d fr r s.1 s.2.1).2.2, s.2.2))
    exact ⟨a, by omega, h2⟩
  cases jo with
  | none => exact hc _
  | some j =>
    unfold cfd
    simp only
    by_cases h1 : fr ≤ j
    · rw [if_pos h1]
      by_cases h2 : (cps cd fg np pk (j - fr) fr r s.1 s.2.1).1 = -1
      · rw [if_pos h2]
        exact ⟨0, by omega, (Int32.add_zero _).symm⟩
      · rw [if_neg h2]
        obtain ⟨a, h3, h4⟩ := cjl_arr (cd := cd) (fg := fg) (n := n) (j := j) (np := np) (pk := pk) (pv := pv) (r := (cps cd fg np pk (j - fr) fr r s.1 s.2.1).1) np 0 ((cps cd fg np pk (j - fr) fr r s.1 s.2.1).2.1, (cps cd fg np pk (j - fr) fr r s.1 s.2.1).2.2, s.2.2)
        exact ⟨a, by omega, h4⟩
    · rw [if_neg h1]
      exact hc _
theorem fdl_arr (hnp : np ≤ 10) {fr : Nat} : ∀ (rows : List Int32) (s : ST), ∃ a, a ≤ 10 * rows.length ∧ (fdl cd fg n jo np pk pv fr rows s).2.2.1 = s.2.2.1 + nI a := by
  intro rows
  induction rows with
  | nil => intro s; exact ⟨0, by omega, (Int32.add_zero _).symm⟩
  | cons r rows ih =>
    intro s
    rw [fdl_c]
    obtain ⟨a, h1, h2⟩ := cfd_arr (cd := cd) (fg := fg) (n := n) (jo := jo) (pk := pk) (pv := pv) hnp (r := r) (fr := fr) (s := (s.1, s.2.1 + 1, s.2.2))
    obtain ⟨b, h3, h4⟩ := ih (cfd cd fg n jo np pk pv r fr (s.1, s.2.1 + 1, s.2.2))
    exact ⟨a + b, by show a + b ≤ 10 * (rows.length + 1); omega, by rw [h4, h2, Int32.add_assoc, nI_add]⟩
theorem cfl_fdl (hnp : np ≤ 10) {fr : Nat} : ∀ (rows : List Int32) (c : Int32) (s : ST) (A : Nat), s.2.2.1 = nI A → A + 10 * rows.length < 1000000 → cfl cd fg n jo np pk pv 1000000 fr rows c s = (c + nI rows.length, fdl cd fg n jo np pk pv fr rows s) := by
  intro rows
  induction rows with
  | nil => intro c s A _ _; show (c, s) = (c + 0, s); rw [Int32.add_zero]
  | cons r rows ih =>
    intro c s A hA hl
    have hl' : A + 10 * (rows.length + 1) < 1000000 := hl
    obtain ⟨a, h1, h2⟩ := cfd_arr (cd := cd) (fg := fg) (n := n) (jo := jo) (pk := pk) (pv := pv) hnp (r := r) (fr := fr) (s := (s.1, s.2.1 + 1, s.2.2))
    show (if (1000000 : Int32) ≤ s.2.2.1 then (c, s) else cfl cd fg n jo np pk pv 1000000 fr rows (c + 1) (cfd cd fg n jo np pk pv r fr (s.1, s.2.1 + 1, s.2.2))) = _
    rw [if_neg (by rw [hA, show (1000000 : Int32) = nI 1000000 from rfl, nI_leI (by decide) (by omega)]; omega), ih (c + 1) _ (A + a) (by rw [h2]; show s.2.2.1 + nI a = _; rw [hA, nI_add]) (by omega), fdl_c]
    have : c + 1 + nI rows.length = c + nI (r :: rows).length := by
      show _ = c + nI (rows.length + 1)
      rw [Int32.add_assoc, ← nI_1, Int32.add_comm 1]
    rw [this]
/-- the rows that the join makes of one -/
def jrs (c : Int32) (pk : Nat → Int32) (r : Int32) : Nat → Nat → List Int32
  | 0, _ => []
  | d + 1, q => if cjn c pk r q = true then (r ||| (nI q <<< (20 &&& 31))) :: jrs c pk r d (q + 1) else jrs c pk r d (q + 1)
theorem cjl_fdl {j : Nat} {r : Int32} : ∀ (d q : Nat) (s : ST), cjl cd fg n j np pk pv r d q s = fdl cd fg n (some j) np pk pv (j + 1) (jrs (cd j) pk r d q) s := by
  intro d
  induction d with
  | zero => intro q s; rfl
  | succ d ih =>
    intro q s
    unfold cjl jrs
    by_cases h : cjn (cd j) pk r q = true
    · rw [if_pos h, if_pos h, ih, fdl_c, cfd_after (Nat.lt_succ_self j)]
    · rw [if_neg h, if_neg h, ih]
/-- what a place makes of a row, and keeps -/
def stp (cd fg : Nat → Int32) (jo : Option Nat) (np : Nat) (pk : Nat → Int32) (pl : Nat) (κ : List Int32) (r : Int32) : List Int32 × List Int32 :=
  if jo = some pl then (jrs (cd pl) pk r np 0, κ)
  else (if (ct (cd pl) (fg pl) (hkOf np pk (r >>> (20 &&& 31))) r κ).1 = -1 then [] else [(ct (cd pl) (fg pl) (hkOf np pk (r >>> (20 &&& 31))) r κ).1], (ct (cd pl) (fg pl) (hkOf np pk (r >>> (20 &&& 31))) r κ).2)
theorem cfd_stp {pl : Nat} {r : Int32} {s : ST} (hp : pl < n) (hjn : ∀ j, jo = some j → j < n) (hr : ¬ r = -1) : cfd cd fg n jo np pk pv r pl s = fdl cd fg n jo np pk pv (pl + 1) (stp cd fg jo np pk pl (s.1 pl) r).1 (upF s.1 pl (stp cd fg jo np pk pl (s.1 pl) r).2, s.2) := by
  unfold stp
  by_cases hj : jo = some pl
  · subst hj
    rw [if_pos rfl, cfd_join hr, cjl_fdl]
    show _ = fdl cd fg n (some pl) np pk pv (pl + 1) (jrs (cd pl) pk r np 0) (upF s.1 pl (s.1 pl), s.2)
    rw [upF_id]
  · rw [if_neg hj]
    by_cases h : (ct (cd pl) (fg pl) (hkOf np pk (r >>> (20 &&& 31))) r (s.1 pl)).1 = -1
    · rw [cfd_no (l' := (ct (cd pl) (fg pl) (hkOf np pk (r >>> (20 &&& 31))) r (s.1 pl)).2) hp hj hr (Prod.ext h rfl), if_pos h]
      rfl
    · rw [cfd_go (r' := (ct (cd pl) (fg pl) (hkOf np pk (r >>> (20 &&& 31))) r (s.1 pl)).1) (l' := (ct (cd pl) (fg pl) (hkOf np pk (r >>> (20 &&& 31))) r (s.1 pl)).2) hp hj hjn hr rfl h, if_neg h]
      rfl
/-- all rows at a place -/
def bch (cd fg : Nat → Int32) (jo : Option Nat) (np : Nat) (pk : Nat → Int32) (pl : Nat) : List Int32 → List Int32 → List Int32 × List Int32
  | [], κ => ([], κ)
  | r :: rs, κ => ((stp cd fg jo np pk pl κ r).1 ++ (bch cd fg jo np pk pl rs (stp cd fg jo np pk pl κ r).2).1, (bch cd fg jo np pk pl rs (stp cd fg jo np pk pl κ r).2).2)
theorem bch_eq {pl : Nat} (hp : pl < n) (hjn : ∀ j, jo = some j → j < n) : ∀ (rows : List Int32) (s : ST), (∀ r, r ∈ rows → ¬ r = -1) →
    fdl cd fg n jo np pk pv pl rows s = fdl cd fg n jo np pk pv (pl + 1) (bch cd fg jo np pk pl rows (s.1 pl)).1 (upF s.1 pl (bch cd fg jo np pk pl rows (s.1 pl)).2, s.2.1 + nI rows.length, s.2.2) := by
  intro rows
  induction rows with
  | nil =>
    intro s _
    show s = (upF s.1 pl (s.1 pl), s.2.1 + 0, s.2.2)
    rw [upF_id, Int32.add_zero]
  | cons r rows ih =>
    intro s hr
    rw [fdl_c, ih _ (fun x hx => hr x (List.mem_cons_of_mem _ hx)), cfd_stp hp hjn (hr r List.mem_cons_self)]
    have e1 : (fdl cd fg n jo np pk pv (pl + 1) (stp cd fg jo np pk pl (s.1 pl) r).1 (upF s.1 pl (stp cd fg jo np pk pl (s.1 pl) r).2, s.2.1 + 1, s.2.2)).1 pl = (stp cd fg jo np pk pl (s.1 pl) r).2 := by
      rw [fdl_kp (Nat.lt_succ_self pl)]; exact upF_s _ _ _
    show fdl cd fg n jo np pk pv (pl + 1) (bch cd fg jo np pk pl rows ((fdl cd fg n jo np pk pv (pl + 1) (stp cd fg jo np pk pl (s.1 pl) r).1 (upF s.1 pl (stp cd fg jo np pk pl (s.1 pl) r).2, s.2.1 + 1, s.2.2)).1 pl)).1 (bmp pl (bch cd fg jo np pk pl rows ((fdl cd fg n jo np pk pv (pl + 1) (stp cd fg jo np pk pl (s.1 pl) r).1 (upF s.1 pl (stp cd fg jo np pk pl (s.1 pl) r).2, s.2.1 + 1, s.2.2)).1 pl)).2 (nI rows.length) (fdl cd fg n jo np pk pv (pl + 1) (stp cd fg jo np pk pl (s.1 pl) r).1 (upF s.1 pl (stp cd fg jo np pk pl (s.1 pl) r).2, s.2.1 + 1, s.2.2))) = fdl cd fg n jo np pk pv (pl + 1) ((stp cd fg jo np pk pl (s.1 pl) r).1 ++ (bch cd fg jo np pk pl rows (stp cd fg jo np pk pl (s.1 pl) r).2).1) (upF s.1 pl (bch cd fg jo np pk pl rows (stp cd fg jo np pk pl (s.1 pl) r).2).2, s.2.1 + nI (rows.length + 1), s.2.2)
    rw [e1, ← fdl_comm (Nat.lt_succ_self pl), fdl_app]
    have e2 : bmp pl (bch cd fg jo np pk pl rows (stp cd fg jo np pk pl (s.1 pl) r).2).2 (nI rows.length) (upF s.1 pl (stp cd fg jo np pk pl (s.1 pl) r).2, s.2.1 + 1, s.2.2) = (upF s.1 pl (bch cd fg jo np pk pl rows (stp cd fg jo np pk pl (s.1 pl) r).2).2, s.2.1 + nI (rows.length + 1), s.2.2) := by
      show (upF (upF s.1 pl _) pl _, s.2.1 + 1 + nI rows.length, s.2.2) = _
      rw [upF_u, Int32.add_assoc, ← nI_1, Int32.add_comm 1]
    rw [e2]
/-- what a place hands on late -/
def fls (cd : Nat → Int32) (np : Nat) (pk pv : Nat → Int32) (pl : Nat) (κ : List Int32) : List Int32 := if cd pl = 4 then prow pk pv np else if cd pl = 6 then κ else []
theorem psi_s (hnp : np ≤ 10) {pl d : Nat} (hp : pl < n) (hjn : ∀ j, jo = some j → j < n) {rows : List Int32} {s : ST} (hr : ∀ r, r ∈ rows → ¬ r = -1) (hk : s.1 pl = []) (ha : s.2.2.1 = 0)
    (hb : ((bch cd fg jo np pk pl rows []).1 ++ fls cd np pk pv pl (bch cd fg jo np pk pl rows []).2).length < 1000) :
    chk cd fg n jo np pk pv 1000000 (d + 1) pl (fdl cd fg n jo np pk pv pl rows s) = chk cd fg n jo np pk pv 1000000 d (pl + 1) (fdl cd fg n jo np pk pv (pl + 1) ((bch cd fg jo np pk pl rows []).1 ++ fls cd np pk pv pl (bch cd fg jo np pk pl rows []).2) (upF s.1 pl (bch cd fg jo np pk pl rows []).2, s.2.1 + nI rows.length, s.2.2)) := by
  rw [bch_eq hp hjn rows s hr, hk, fdl_app]
  rw [List.length_append] at hb
  have hkp : (fdl cd fg n jo np pk pv (pl + 1) (bch cd fg jo np pk pl rows []).1 (upF s.1 pl (bch cd fg jo np pk pl rows []).2, s.2.1 + nI rows.length, s.2.2)).1 pl = (bch cd fg jo np pk pl rows []).2 := by
    rw [fdl_kp (Nat.lt_succ_self pl)]; exact upF_s _ _ _
  obtain ⟨a, h1, h2⟩ := fdl_arr (cd := cd) (fg := fg) (n := n) (jo := jo) (pk := pk) (pv := pv) hnp (fr := pl + 1) (bch cd fg jo np pk pl rows []).1 (upF s.1 pl (bch cd fg jo np pk pl rows []).2, s.2.1 + nI rows.length, s.2.2)
  have h2' : (fdl cd fg n jo np pk pv (pl + 1) (bch cd fg jo np pk pl rows []).1 (upF s.1 pl (bch cd fg jo np pk pl rows []).2, s.2.1 + nI rows.length, s.2.2)).2.2.1 = nI a := by rw [h2]; show s.2.2.1 + nI a = _; rw [ha, Int32.zero_add]
  show chk cd fg n jo np pk pv 1000000 d (pl + 1) (cpl cd fg n jo np pk pv 1000000 pl _) = _
  congr 1
  unfold cpl
  unfold fls at hb ⊢
  by_cases h4 : cd pl = 4
  · rw [if_pos h4] at hb ⊢
    rw [if_pos h4, cfl_fdl hnp _ _ _ a h2' (by omega)]
  · rw [if_neg h4] at hb ⊢
    rw [if_neg h4]
    by_cases h6 : cd pl = 6
    · rw [if_pos h6] at hb ⊢
      rw [if_pos h6, hkp, cfl_fdl hnp _ _ _ a h2' (by omega)]
    · rw [if_neg h6, if_neg h6]
      rfl
end CF
