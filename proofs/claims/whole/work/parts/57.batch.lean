-- ===== free: all rows at one place, class and reference =====
theorem hkOf_q {np : Nat} {f : Nat → Int32} {q : Nat} (hq : q < np) (hn : np ≤ 10) : hkOf np f (nI q) = f q := by
  unfold hkOf
  rw [if_neg (nI_pos (by omega)), if_neg (fun h => by rw [nI_leI (by omega) (by omega)] at h; omega), nI_clamp (by omega)]
theorem hkOf_V {np : Nat} {ps : List (Int32 × Int32)} {x : Int32} (hps : ∀ y, y ∈ ps → VK y.1) : VK (hkOf np (fs1 ps) x) := by
  unfold hkOf
  split
  · exact VK.m1
  · split
    · exact VK.m1
    · unfold fs1
      rw [List.getD_eq_getElem?_getD]
      cases h : ps[x.toNatClampNeg]? with
      | none => exact ⟨1, by omega, rfl⟩
      | some y => exact hps y (List.mem_of_getElem? h)
/-- the key of the pair matters only where a step speaks of it, and there the rows have pairs -/
def HK (c f : Int32) (ps : List (Int32 × Int32)) (rows : List T3) : Prop := ∀ y, y ∈ rows → f_Mo_stays c f y.1 y.2.1 (hkOf ps.length (fs1 ps) (nI (prn y.2.2))) = f_Mo_stays c f y.1 y.2.1 (hkT ps y.2.2)
theorem HK_f {c f : Int32} {ps : List (Int32 × Int32)} {rows : List T3} (h1 : ¬ c = 1) (h2 : ¬ c = 2) (h3 : ¬ c = 3) : HK c f ps rows := fun y _ => by
  rw [stays_eq, stays_eq, if_neg h1, if_neg h2, if_neg h3, if_neg h1, if_neg h2, if_neg h3]
theorem HK_t {c f : Int32} {ps : List (Int32 × Int32)} {rows : List T3} (hn : ps.length ≤ 10) (hV : VP ps.length rows) (hm : ∀ y, y ∈ rows → ¬ y.2.2 = -1) : HK c f ps rows := fun y hy => by
  obtain ⟨q, hq, e⟩ := (hV y hy).resolve_left (hm y hy)
  unfold hkT
  rw [if_neg (hm y hy), e]
  unfold prn
  rw [if_neg (nI_nm1 (by omega)), nI_clamp (by omega), hkOf_q hq hn]
section BT
variable {cd fg : Nat → Int32} {jo : Option Nat} {ps : List (Int32 × Int32)} {pl : Nat} {m : Bool} {B : Nat}
theorem bch_st (hj : ¬ jo = some pl) (h5 : ¬ cd pl = 5) (h6 : ¬ cd pl = 6) (hB : B < 4000) (hps : ∀ y, y ∈ ps → VK y.1) (κ : List Int32) : ∀ (rows out : List T3), (∀ y, y ∈ rows → V3 m B y) → HK (cd pl) (fg pl) ps rows →
    out.map pk3 ++ (bch cd fg jo ps.length (fs1 ps) pl (rows.map pk3) κ).1 = (rows.foldl (bs1 (cd pl) (fg pl) ps) out).map pk3 ∧ (bch cd fg jo ps.length (fs1 ps) pl (rows.map pk3) κ).2 = κ := by
  intro rows
  induction rows with
  | nil => intro out _ _; exact ⟨List.append_nil _, rfl⟩
  | cons y rows ih =>
    intro out hV hK
    obtain ⟨v1, v2, v3⟩ := hV y List.mem_cons_self
    have hq : prn y.2.2 < 16 := Nat.lt_trans v3.lt (by decide)
    have est : stp cd fg jo ps.length (fs1 ps) pl κ (pk3 y) = (if f_Mo_stays (cd pl) (fg pl) y.1 y.2.1 (hkT ps y.2.2) = -2 then [] else [pk3 (y.1, f_Mo_stays (cd pl) (fg pl) y.1 y.2.1 (hkT ps y.2.2), y.2.2)], κ) := by
      have e0 : pk3 y >>> (20 &&& 31) = nI (prn y.2.2) := p_shr v1 v2 hB hq
      unfold stp
      rw [if_neg hj, e0]
      have e1 : ct (cd pl) (fg pl) (hkOf ps.length (fs1 ps) (nI (prn y.2.2))) (pk3 y) κ = (if f_Mo_stays (cd pl) (fg pl) y.1 y.2.1 (hkOf ps.length (fs1 ps) (nI (prn y.2.2))) = -2 then -1 else pK y.1 (f_Mo_stays (cd pl) (fg pl) y.1 y.2.1 (hkOf ps.length (fs1 ps) (nI (prn y.2.2)))) (prn y.2.2), κ) := ct_st v1 v2 hB hq (hkOf_V hps) h5 h6
      rw [e1, hK y List.mem_cons_self]
      by_cases h2 : f_Mo_stays (cd pl) (fg pl) y.1 y.2.1 (hkT ps y.2.2) = -2
      · simp only [if_pos h2, if_true]
      · have hst := (stays_v (c := cd pl) (f := fg pl) (k := y.1) v2 (hkOf_V (np := ps.length) (x := nI (prn y.2.2)) hps))
        rw [hK y List.mem_cons_self] at hst
        obtain ⟨b, hb, e⟩ := hst.resolve_left h2
        have hne : ¬ pK y.1 (f_Mo_stays (cd pl) (fg pl) y.1 y.2.1 (hkT ps y.2.2)) (prn y.2.2) = -1 := by
          obtain ⟨a, ha, ea⟩ := v1
          rw [e, ea]
          show ¬ f_Run_packed _ _ _ = -1
          rw [packedN (by omega) (by omega) hq]
          exact nI_nm1 (Nat.lt_trans (pkN_lt (by omega) (by omega) hq) (by decide))
        simp only [if_neg h2, if_neg hne]
        rfl
    show out.map pk3 ++ ((stp cd fg jo ps.length (fs1 ps) pl κ (pk3 y)).1 ++ (bch cd fg jo ps.length (fs1 ps) pl (rows.map pk3) (stp cd fg jo ps.length (fs1 ps) pl κ (pk3 y)).2).1) = (rows.foldl (bs1 (cd pl) (fg pl) ps) (bs1 (cd pl) (fg pl) ps out y)).map pk3 ∧ (bch cd fg jo ps.length (fs1 ps) pl (rows.map pk3) (stp cd fg jo ps.length (fs1 ps) pl κ (pk3 y)).2).2 = κ
    obtain ⟨i1, i2⟩ := ih (bs1 (cd pl) (fg pl) ps out y) (fun z hz => hV z (List.mem_cons_of_mem _ hz)) (fun z hz => hK z (List.mem_cons_of_mem _ hz))
    rw [est]
    refine ⟨?_, i2⟩
    rw [← i1, ← List.append_assoc]
    congr 1
    unfold bs1
    by_cases h2 : f_Mo_stays (cd pl) (fg pl) y.1 y.2.1 (hkT ps y.2.2) = -2
    · rw [if_pos h2, if_pos h2, List.append_nil]
    · rw [if_neg h2, if_neg h2, if_neg h5, List.map_append]
      rfl
theorem bch_5 (hj : ¬ jo = some pl) (h5 : cd pl = 5) (hB : B < 4000) : ∀ (rows out : List T3), (∀ y, y ∈ rows → V3 m B y) → (∀ y, y ∈ out → V3 m B y) → out.length + rows.length ≤ 220 →
    out.map pk3 ++ (bch cd fg jo ps.length (fs1 ps) pl (rows.map pk3) (out.map pk3)).1 = (rows.foldl (bs1 (cd pl) (fg pl) ps) out).map pk3 := by
  intro rows
  induction rows with
  | nil => intro out _ _ _; exact List.append_nil _
  | cons y rows ih =>
    intro out hV hO hl
    have hl' : out.length + (rows.length + 1) ≤ 220 := hl
    have hy := hV y List.mem_cons_self
    have hq : prn y.2.2 < 16 := Nat.lt_trans hy.2.2.lt (by decide)
    have hne : ¬ pk3 y = -1 := p_ne hy.1 hy.2.1 hB hq
    have hmem := pk3_mem hy hO hB
    have ev : ∀ h, f_Mo_stays (cd pl) (fg pl) y.1 y.2.1 h = y.2.1 := fun h => by rw [stays_eq, h5, if_neg (by decide), if_neg (by decide), if_neg (by decide), if_neg (by decide)]
    have eb : bs1 (cd pl) (fg pl) ps out y = if y ∈ out then out else out ++ [y] := by
      unfold bs1
      rw [ev, if_neg (hy.2.1.n2 hB), if_pos h5]
    have est : stp cd fg jo ps.length (fs1 ps) pl (out.map pk3) (pk3 y) = if y ∈ out then ([], out.map pk3) else ([pk3 y], (out ++ [y]).map pk3) := by
      unfold stp ct
      rw [if_neg hj, h5]
      simp only [show ¬ (5 : Int32) = 1 by decide, show ¬ (5 : Int32) = 2 by decide, show ¬ (5 : Int32) = 3 by decide, show ¬ (5 : Int32) = 4 by decide, if_false, if_true]
      by_cases hm : y ∈ out
      · rw [if_pos (hmem.mpr hm), if_pos hm]
        rfl
      · rw [if_neg (fun q => hm (hmem.mp q)), if_neg hm, if_pos (show (out.map pk3).length < 220 by rw [List.length_map]; omega), List.map_append]
        simp only [if_neg hne]
        rfl
    show out.map pk3 ++ ((stp cd fg jo ps.length (fs1 ps) pl (out.map pk3) (pk3 y)).1 ++ (bch cd fg jo ps.length (fs1 ps) pl (rows.map pk3) (stp cd fg jo ps.length (fs1 ps) pl (out.map pk3) (pk3 y)).2).1) = (rows.foldl (bs1 (cd pl) (fg pl) ps) (bs1 (cd pl) (fg pl) ps out y)).map pk3
    rw [eb, est]
    by_cases hm : y ∈ out
    · rw [if_pos hm, if_pos hm]
      exact ih out (fun z hz => hV z (List.mem_cons_of_mem _ hz)) hO (by omega)
    · rw [if_neg hm, if_neg hm, ← ih (out ++ [y]) (fun z hz => hV z (List.mem_cons_of_mem _ hz)) (fun z hz => by
        rcases List.mem_append.mp hz with q | q
        · exact hO z q
        · rw [List.mem_singleton.mp q]; exact hy) (by rw [List.length_append]; show out.length + 1 + rows.length ≤ 220; omega), List.map_append, List.append_assoc]
      rfl
theorem bch_6 (hj : ¬ jo = some pl) (h6 : cd pl = 6) : ∀ (rows a : List T3) (Ba : Nat), (∀ y, y ∈ rows → V3 m 3000 y) → (∀ y, y ∈ a → V3 m Ba y) → 1 ≤ Ba → Ba + rows.length ≤ 3000 → a.length + rows.length ≤ 220 →
    bch cd fg jo ps.length (fs1 ps) pl (rows.map pk3) (a.map pk3) = ([], (rows.foldl addG a).map pk3) := by
  intro rows
  induction rows with
  | nil => intro a Ba _ _ _ _ _; rfl
  | cons y rows ih =>
    intro a Ba hV hO h1 hBl hl
    have hl' : a.length + (rows.length + 1) ≤ 220 := hl
    have hBl' : Ba + (rows.length + 1) ≤ 3000 := hBl
    have hy := hV y List.mem_cons_self
    have hq : prn y.2.2 < 16 := Nat.lt_trans hy.2.2.lt (by decide)
    have est : stp cd fg jo ps.length (fs1 ps) pl (a.map pk3) (pk3 y) = ([], (addG a y).map pk3) := by
      unfold stp ct
      rw [if_neg hj, h6]
      simp only [show ¬ (6 : Int32) = 1 by decide, show ¬ (6 : Int32) = 2 by decide, show ¬ (6 : Int32) = 3 by decide, show ¬ (6 : Int32) = 4 by decide, show ¬ (6 : Int32) = 5 by decide, if_false, if_true]
      have e1 : pk3 y &&& (-1048321) = pK y.1 (-1) (prn y.2.2) := p_msk hy.1 hy.2.1 (by decide) hq
      rw [e1, addP_addG hy (by decide) a 220 (fun z hz => (hO z hz).mono (by omega)) (by omega)]
    have hd := ih (addG a y) (Ba + 1) (fun z hz => hV z (List.mem_cons_of_mem _ hz)) (addG_V hy h1 a hO) (by omega) (by omega) (by have := addG_len a y; omega)
    show ((stp cd fg jo ps.length (fs1 ps) pl (a.map pk3) (pk3 y)).1 ++ (bch cd fg jo ps.length (fs1 ps) pl (rows.map pk3) (stp cd fg jo ps.length (fs1 ps) pl (a.map pk3) (pk3 y)).2).1, (bch cd fg jo ps.length (fs1 ps) pl (rows.map pk3) (stp cd fg jo ps.length (fs1 ps) pl (a.map pk3) (pk3 y)).2).2) = _
    rw [est, hd]
    rfl
end BT
theorem bsf_6 {f : Int32} {ps : List (Int32 × Int32)} {m : Bool} {B : Nat} (hB : B < 4000) : ∀ (rows out : List T3), (∀ y, y ∈ rows → V3 m B y) → rows.foldl (bs1 6 f ps) out = out ++ rows := by
  intro rows
  induction rows with
  | nil => intro out _; exact (List.append_nil _).symm
  | cons y rows ih =>
    intro out hV
    have hy := hV y List.mem_cons_self
    have eb : bs1 6 f ps out y = out ++ [y] := by
      have ev : ∀ h, f_Mo_stays 6 f y.1 y.2.1 h = y.2.1 := fun h => by rw [stays_eq, if_neg (show ¬ (6 : Int32) = 1 by decide), if_neg (show ¬ (6 : Int32) = 2 by decide), if_neg (show ¬ (6 : Int32) = 3 by decide), if_neg (show ¬ (6 : Int32) = 7 by decide)]
      unfold bs1
      rw [ev, if_neg (hy.2.1.n2 hB), if_neg (show ¬ (6 : Int32) = 5 by decide)]
    show rows.foldl _ (bs1 6 f ps out y) = _
    rw [eb, ih _ (fun z hz => hV z (List.mem_cons_of_mem _ hz)), List.append_assoc]
    rfl
theorem prn_nI {q : Nat} (h : q < 2 ^ 31) : prn (nI q) = q := by
  unfold prn
  rw [if_neg (nI_nm1 h), nI_clamp h]
theorem prow_g : ∀ (l : List (Int32 × Int32)) (i : Nat), i + l.length ≤ 100 → (List.range l.length).map (fun j => f_Run_packed (fs1 l j) (fs2 l j) (nI (i + j))) = (prT i l).map pk3 := by
  intro l
  induction l with
  | nil => intro i _; rfl
  | cons x l ih =>
    intro i hi
    have hi' : i + (l.length + 1) ≤ 100 := hi
    show (List.range (l.length + 1)).map _ = pk3 (x.1, x.2, nI i) :: (prT (i + 1) l).map pk3
    rw [List.range_succ_eq_map, List.map_cons, List.map_map, ← ih (i + 1) (by omega)]
    rw [List.cons.injEq]
    constructor
    · show f_Run_packed x.1 x.2 (nI (i + 0)) = f_Run_packed x.1 x.2 (nI (prn (nI i)))
      rw [prn_nI (by omega), Nat.add_zero]
    · apply List.map_congr_left
      intro j _
      show f_Run_packed (fs1 l j) (fs2 l j) (nI (i + (j + 1))) = f_Run_packed (fs1 l j) (fs2 l j) (nI (i + 1 + j))
      rw [show i + (j + 1) = i + 1 + j by omega]
theorem prow_eq {ps : List (Int32 × Int32)} (h : ps.length ≤ 10) : prow (fs1 ps) (fs2 ps) ps.length = (prT 0 ps).map pk3 := by
  rw [← prow_g ps 0 (by omega)]
  unfold prow
  apply List.map_congr_left
  intro j _
  rw [Nat.zero_add]
/-- what one place gives out, all in all -/
theorem out_st {cd fg : Nat → Int32} {jo : Option Nat} {ps : List (Int32 × Int32)} {pl : Nat} {m : Bool} {B : Nat} {rows : List T3} (hj : ¬ jo = some pl) (hB : B < 3000) (hn : ps.length ≤ 10) (hps : ∀ y, y ∈ ps → VK y.1) (hV : ∀ y, y ∈ rows → V3 m B y) (hK : HK (cd pl) (fg pl) ps rows) (hl : rows.length ≤ 220) :
    (bch cd fg jo ps.length (fs1 ps) pl (rows.map pk3) []).1 ++ fls cd ps.length (fs1 ps) (fs2 ps) pl (bch cd fg jo ps.length (fs1 ps) pl (rows.map pk3) []).2 = (bst (cd pl) (fg pl) ps rows).map pk3 := by
  unfold fls bst
  by_cases h6 : cd pl = 6
  · have e := bch_6 (cd := cd) (fg := fg) (ps := ps) hj h6 rows [] 1 (fun y hy => (hV y hy).mono (by omega)) (fun y hy => absurd hy List.not_mem_nil) (Nat.le_refl _) (by omega) (by show 0 + rows.length ≤ 220; omega)
    rw [show (([] : List T3).map pk3) = [] from rfl] at e
    rw [e, h6, if_neg (by decide), if_pos rfl, if_neg (by decide), if_pos rfl, bsf_6 (m := m) (B := B) (by omega) rows [] hV]
    rfl
  · by_cases h5 : cd pl = 5
    · have e := bch_5 (cd := cd) (fg := fg) (jo := jo) (ps := ps) (B := B) hj h5 (by omega) rows [] hV (fun y hy => absurd hy List.not_mem_nil) (by show 0 + rows.length ≤ 220; omega)
      rw [show (([] : List T3).map pk3) = [] from rfl, List.nil_append] at e
      rw [e]
      have n4 : ¬ cd pl = 4 := by rw [h5]; decide
      rw [if_neg n4, if_neg h6, if_neg n4, if_neg h6, List.append_nil]
    · obtain ⟨e1, e2⟩ := bch_st (cd := cd) (fg := fg) (jo := jo) (ps := ps) (B := B) hj h5 h6 (by omega) hps [] rows [] hV hK
      rw [show (([] : List T3).map pk3) = [] from rfl, List.nil_append] at e1
      rw [e1, if_neg h6, if_neg h6]
      by_cases h4 : cd pl = 4
      · rw [if_pos h4, if_pos h4, prow_eq hn, List.map_append]
      · rw [if_neg h4, if_neg h4, List.append_nil]
-- the join
theorem jrs_g {c h : Int32} {ps : List (Int32 × Int32)} {y : T3} {B : Nat} (hn : ps.length ≤ 10) (hy : V3 false B y) (hB : B < 4000) (hc : (c = 8 ∧ h = 0) ∨ (c = 9 ∧ h = 1)) : ∀ (l : List (Int32 × Int32)) (q : Nat), l = ps.drop q → q ≤ ps.length → jrs c (fs1 ps) (pk3 y) l.length q = (jnT h y q l).map pk3 := by
  have ey : pk3 y = pK y.1 y.2.1 0 := by unfold pk3; rw [PM.f.mp hy.2.2, prn_m1]
  intro l
  induction l with
  | nil => intro q _ _; rfl
  | cons x l ih =>
    intro q hl hq
    have hlen : l.length + 1 = ps.length - q := by rw [← List.length_drop, ← hl]; rfl
    have hx : fs1 ps q = x.1 := by
      unfold fs1
      have h0 : ps[q]? = some x := by
        have := congrArg (fun z : List (Int32 × Int32) => z[0]?) hl
        simp only [List.getElem?_drop, Nat.add_zero, List.getElem?_cons_zero] at this
        exact this.symm
      rw [List.getD_eq_getElem?_getD, h0]
      rfl
    have hl2 : l = ps.drop (q + 1) := by rw [← List.drop_drop, ← hl]; rfl
    have hI := ih (q + 1) hl2 (by omega)
    have eo : pk3 y ||| (nI q <<< (20 &&& 31)) = pk3 (y.1, y.2.1, nI q) := by
      rw [ey, p_or hy.1 hy.2.1 hB (by omega)]
      show _ = pK y.1 y.2.1 (prn (nI q))
      rw [prn_nI (by omega)]
    show (if cjn c (fs1 ps) (pk3 y) q = true then (pk3 y ||| (nI q <<< (20 &&& 31))) :: jrs c (fs1 ps) (pk3 y) l.length (q + 1) else jrs c (fs1 ps) (pk3 y) l.length (q + 1)) = (if h = 0 then (y.1, y.2.1, nI q) :: jnT h y (q + 1) l else if f_Mo_stays 1 0 y.1 0 x.1 = -2 then jnT h y (q + 1) l else (y.1, y.2.1, nI q) :: jnT h y (q + 1) l).map pk3
    rw [hI, eo]
    rcases hc with ⟨rfl, rfl⟩ | ⟨rfl, rfl⟩
    · have e1 : cjn 8 (fs1 ps) (pk3 y) q = true := by unfold cjn; rw [if_pos rfl]
      rw [if_pos e1, if_pos rfl]
      rfl
    · rw [if_neg (show ¬ (1 : Int32) = 0 by decide)]
      have e1 : cjn 9 (fs1 ps) (pk3 y) q = true ↔ ¬ f_Mo_stays 1 0 y.1 0 x.1 = -2 := by
        unfold cjn
        have ek : f_Run_keyOf (pk3 y) = y.1 := by rw [ey]; exact p_key hy.1 hy.2.1 hB (by decide)
        rw [if_neg (by decide), ek, stays_eq, if_pos rfl, hx]
        by_cases k1 : y.1 = -1
        · rw [if_pos k1, if_pos k1]; exact ⟨fun q => absurd q (by decide), fun q => absurd rfl q⟩
        · rw [if_neg k1, if_neg k1]
          by_cases k2 : y.1 = x.1
          · rw [if_neg (show ¬ x.1 = -1 by rw [← k2]; exact k1), if_pos k2, decide_eq_true k2]
            exact ⟨fun _ => by decide, fun _ => rfl⟩
          · rw [if_neg k2, decide_eq_false k2]
            refine ⟨fun q => absurd q (by decide), fun q => ?_⟩
            exact absurd (by split <;> rfl) q
      by_cases h2 : f_Mo_stays 1 0 y.1 0 x.1 = -2
      · rw [if_neg (fun q => e1.mp q h2), if_pos h2]
      · rw [if_pos (e1.mpr h2), if_neg h2]
        rfl
theorem bch_j {cd fg : Nat → Int32} {ps : List (Int32 × Int32)} {pl : Nat} {h : Int32} {B : Nat} (hn : ps.length ≤ 10) (hB : B < 4000) (hc : (cd pl = 8 ∧ h = 0) ∨ (cd pl = 9 ∧ h = 1)) (κ : List Int32) : ∀ (rows : List T3), (∀ y, y ∈ rows → V3 false B y) → bch cd fg (some pl) ps.length (fs1 ps) pl (rows.map pk3) κ = ((jnA h ps rows).map pk3, κ) := by
  intro rows
  induction rows with
  | nil => intro _; rfl
  | cons y rows ih =>
    intro hV
    have est : stp cd fg (some pl) ps.length (fs1 ps) pl κ (pk3 y) = ((jnT h y 0 ps).map pk3, κ) := by
      unfold stp
      rw [if_pos rfl, jrs_g hn (hV y List.mem_cons_self) hB hc ps 0 rfl (Nat.zero_le _)]
    show ((stp cd fg (some pl) ps.length (fs1 ps) pl κ (pk3 y)).1 ++ (bch cd fg (some pl) ps.length (fs1 ps) pl (rows.map pk3) (stp cd fg (some pl) ps.length (fs1 ps) pl κ (pk3 y)).2).1, (bch cd fg (some pl) ps.length (fs1 ps) pl (rows.map pk3) (stp cd fg (some pl) ps.length (fs1 ps) pl κ (pk3 y)).2).2) = _
    rw [est, ih (fun z hz => hV z (List.mem_cons_of_mem _ hz)), ← List.map_append]
    rfl
theorem out_j {cd fg : Nat → Int32} {ps : List (Int32 × Int32)} {pl : Nat} {h : Int32} {B : Nat} {rows : List T3} (hn : ps.length ≤ 10) (hB : B < 4000) (hc : (cd pl = 8 ∧ h = 0) ∨ (cd pl = 9 ∧ h = 1)) (hV : ∀ y, y ∈ rows → V3 false B y) :
    (bch cd fg (some pl) ps.length (fs1 ps) pl (rows.map pk3) []).1 ++ fls cd ps.length (fs1 ps) (fs2 ps) pl (bch cd fg (some pl) ps.length (fs1 ps) pl (rows.map pk3) []).2 = (jnA h ps rows).map pk3 := by
  rw [bch_j hn hB hc [] rows hV]
  have e : fls cd ps.length (fs1 ps) (fs2 ps) pl [] = [] := by
    unfold fls
    rcases hc with ⟨q, -⟩ | ⟨q, -⟩ <;> rw [q, if_neg (by decide), if_neg (by decide)]
  show (jnA h ps rows).map pk3 ++ fls cd ps.length (fs1 ps) (fs2 ps) pl [] = _
  rw [e, List.append_nil]
-- valid rows stay valid
theorem bs1_V {m : Bool} {B : Nat} {c f : Int32} {ps : List (Int32 × Int32)} {out : List T3} {y : T3} (hps : ∀ z, z ∈ ps → VK z.1) (hy : V3 m B y) (hO : ∀ z, z ∈ out → V3 m (B + 9) z) : ∀ z, z ∈ bs1 c f ps out y → V3 m (B + 9) z := by
  have hh : VK (hkT ps y.2.2) := by
    unfold hkT
    split
    · exact VK.m1
    · unfold fs1
      rw [List.getD_eq_getElem?_getD]
      cases h : ps[y.2.2.toNatClampNeg]? with
      | none => exact ⟨1, by omega, rfl⟩
      | some z => exact hps z (List.mem_of_getElem? h)
  have hst := stays_v (c := c) (f := f) (k := y.1) hy.2.1 hh
  have hs : ∀ z, z ∈ out ++ [(y.1, f_Mo_stays c f y.1 y.2.1 (hkT ps y.2.2), y.2.2)] → ¬ f_Mo_stays c f y.1 y.2.1 (hkT ps y.2.2) = -2 → V3 m (B + 9) z := fun z hz h2 => by
    rcases List.mem_append.mp hz with q | q
    · exact hO z q
    · rw [List.mem_singleton.mp q]
      exact ⟨hy.1, hst.resolve_left h2, hy.2.2⟩
  intro z hz
  unfold bs1 at hz
  by_cases h2 : f_Mo_stays c f y.1 y.2.1 (hkT ps y.2.2) = -2
  · rw [if_pos h2] at hz; exact hO z hz
  · rw [if_neg h2] at hz
    split at hz
    · split at hz
      · exact hO z hz
      · exact hs z hz h2
    · exact hs z hz h2
theorem bsf_V {m : Bool} {B : Nat} {c f : Int32} {ps : List (Int32 × Int32)} (hps : ∀ z, z ∈ ps → VK z.1) : ∀ (rows out : List T3), (∀ y, y ∈ rows → V3 m B y) → (∀ z, z ∈ out → V3 m (B + 9) z) → ∀ z, z ∈ rows.foldl (bs1 c f ps) out → V3 m (B + 9) z := by
  intro rows
  induction rows with
  | nil => intro out _ hO; exact hO
  | cons y rows ih => intro out hV hO; exact ih _ (fun z hz => hV z (List.mem_cons_of_mem _ hz)) (bs1_V hps (hV y List.mem_cons_self) hO)
theorem prT_V {B : Nat} (hB : 10 ≤ B) : ∀ (l : List (Int32 × Int32)) (i : Nat), i + l.length ≤ 10 → (∀ z, z ∈ l → VK z.1 ∧ VV 10 z.2) → ∀ y, y ∈ prT i l → V3 true B y := by
  intro l
  induction l with
  | nil => intro i _ _ y hy; exact absurd hy List.not_mem_nil
  | cons x l ih =>
    intro i hi hV y hy
    have hi' : i + (l.length + 1) ≤ 10 := hi
    rcases List.mem_cons.mp hy with q | q
    · rw [q]
      exact ⟨(hV x List.mem_cons_self).1, (hV x List.mem_cons_self).2.mono hB, PM.t.mpr ⟨i, by omega, rfl⟩⟩
    · exact ih (i + 1) (by omega) (fun z hz => hV z (List.mem_cons_of_mem _ hz)) y q
theorem bst_V {m : Bool} {B : Nat} {c f : Int32} {ps : List (Int32 × Int32)} {rows : List T3} (hn : ps.length ≤ 10) (hps : ∀ z, z ∈ ps → VK z.1 ∧ VV 10 z.2) (hB : 240 ≤ B) (hl : rows.length ≤ 220) (h4 : c = 4 → m = true) (hV : ∀ y, y ∈ rows → V3 m B y) : ∀ z, z ∈ bst c f ps rows → V3 m (B + 9) z := by
  have hb := bsf_V (c := c) (f := f) (fun z hz => (hps z hz).1) rows [] hV (fun z hz => absurd hz List.not_mem_nil)
  intro z hz
  unfold bst at hz
  by_cases c4 : c = 4
  · rw [if_pos c4] at hz
    rcases List.mem_append.mp hz with q | q
    · exact hb z q
    · rw [h4 c4]
      exact prT_V (by omega) ps 0 (by omega) hps z q
  · rw [if_neg c4] at hz
    by_cases c6 : c = 6
    · rw [if_pos c6] at hz
      have := grp_V hb z hz
      have hl2 := bsf_len (c := c) (f := f) (ps := ps) rows []
      rw [show ([] : List T3).length = 0 from rfl] at hl2
      exact this.mono (by omega)
    · rw [if_neg c6] at hz
      exact hb z hz
theorem jnT_V {h : Int32} {B : Nat} {y : T3} (hy : V3 false B y) : ∀ (l : List (Int32 × Int32)) (i : Nat), i + l.length ≤ 10 → ∀ z, z ∈ jnT h y i l → V3 true B z := by
  intro l
  induction l with
  | nil => intro i _ z hz; exact absurd hz List.not_mem_nil
  | cons x l ih =>
    intro i hi z hz
    have hi' : i + (l.length + 1) ≤ 10 := hi
    have hI := ih (i + 1) (by omega)
    have h1 : ∀ z, z ∈ (y.1, y.2.1, nI i) :: jnT h y (i + 1) l → V3 true B z := fun z hz => by
      rcases List.mem_cons.mp hz with q | q
      · rw [q]; exact ⟨hy.1, hy.2.1, PM.t.mpr ⟨i, by omega, rfl⟩⟩
      · exact hI z q
    have hz2 : z ∈ (if h = 0 then (y.1, y.2.1, nI i) :: jnT h y (i + 1) l else if f_Mo_stays 1 0 y.1 0 x.1 = -2 then jnT h y (i + 1) l else (y.1, y.2.1, nI i) :: jnT h y (i + 1) l) := hz
    split at hz2
    · exact h1 z hz2
    · split at hz2
      · exact hI z hz2
      · exact h1 z hz2
theorem jnA_V {h : Int32} {B : Nat} {ps : List (Int32 × Int32)} (hn : ps.length ≤ 10) {rows : List T3} (hV : ∀ y, y ∈ rows → V3 false B y) : ∀ z, z ∈ jnA h ps rows → V3 true B z := by
  intro z hz
  obtain ⟨y, hy, hz⟩ := List.mem_flatMap.mp hz
  exact jnT_V (hV y hy) ps 0 (by omega) z hz
