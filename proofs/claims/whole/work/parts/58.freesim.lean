-- ===== the free course, place by place =====
def pls (ja : Option Nat) : Nat → List (Int32 × Int32) → List (Int32 × Int32)
  | i, [] => if ja = some i then [(8, -1)] else []
  | i, x :: l => (if ja = some i then (if x.1 = 1 then [(9, -1)] else [(8, -1), x]) else [x]) ++ pls ja (i + 1) l
theorem pls_map {ja : Option Nat} : ∀ (l : List (Int32 × Int32)) (i : Nat), (pls ja i l).map Prod.fst = plL ja i l := by
  intro l
  induction l with
  | nil =>
    intro i
    unfold pls plL
    split <;> rfl
  | cons x l ih =>
    intro i
    unfold pls plL
    rw [List.map_append, ih]
    split
    · split <;> rfl
    · rfl
theorem some_ne {k i : Nat} (h : k ≠ i) : ¬ (some k : Option Nat) = some i := fun q => h (Option.some.inj q)
theorem lyf_after {en : Int32} {k : Nat} : ∀ (l : List (Int32 × Int32)) (i : Nat) (c : List (Int32 × Int32)) (j : Option Nat), k < i → lyf en (some k) i l c j = (c ++ l, j) ∧ pls (some k) i l = l := by
  intro l
  induction l with
  | nil =>
    intro i c j h
    refine ⟨?_, ?_⟩
    · show (if (some k : Option Nat) = none then _ else (c, j)) = _
      rw [if_neg (by intro q; cases q), List.append_nil]
    · show (if (some k : Option Nat) = some i then _ else _) = _
      rw [if_neg (some_ne (by omega))]
  | cons x l ih =>
    intro i c j h
    obtain ⟨h1, h2⟩ := ih (i + 1) (c ++ [x]) j (by omega)
    refine ⟨?_, ?_⟩
    · show (if (some k : Option Nat) = some i then _ else lyf en (some k) (i + 1) l (c ++ [x]) j) = _
      rw [if_neg (some_ne (by omega)), h1, List.append_assoc]
      rfl
    · show (if (some k : Option Nat) = some i then _ else [x]) ++ pls (some k) (i + 1) l = _
      rw [if_neg (some_ne (by omega)), h2]
      rfl
theorem lyf_before {en : Int32} {k : Nat} : ∀ (l : List (Int32 × Int32)) (i : Nat) (c : List (Int32 × Int32)), i ≤ k → k < i + l.length → c.length = i + 1 → lyf en (some k) i l c none = (c ++ pls (some k) i l, some (k + 1)) := by
  intro l
  induction l with
  | nil => intro i c h1 h2; exact absurd h2 (by show ¬ k < i + 0; omega)
  | cons x l ih =>
    intro i c h1 h2 hc
    have h2' : k < i + (l.length + 1) := h2
    show (if (some k : Option Nat) = some i then (if x.1 = 1 then lyf en (some k) (i + 1) l (c ++ [(9, -1)]) (some c.length) else lyf en (some k) (i + 1) l (c ++ [(8, -1)] ++ [x]) (some c.length)) else lyf en (some k) (i + 1) l (c ++ [x]) none) = (c ++ ((if (some k : Option Nat) = some i then (if x.1 = 1 then [(9, -1)] else [(8, -1), x]) else [x]) ++ pls (some k) (i + 1) l), some (k + 1))
    by_cases hk : k = i
    · subst hk
      rw [if_pos rfl, if_pos rfl, hc]
      by_cases hx : x.1 = 1
      · obtain ⟨a1, a2⟩ := lyf_after (en := en) (k := k) l (k + 1) (c ++ [(9, -1)]) (some (k + 1)) (by omega)
        rw [if_pos hx, if_pos hx, a1, a2, List.append_assoc]
      · obtain ⟨a1, a2⟩ := lyf_after (en := en) (k := k) l (k + 1) (c ++ [(8, -1)] ++ [x]) (some (k + 1)) (by omega)
        rw [if_neg hx, if_neg hx, a1, a2, List.append_assoc, List.append_assoc]
        rfl
    · rw [if_neg (some_ne hk), if_neg (some_ne hk), ih (i + 1) (c ++ [x]) (by omega) (by omega) (by rw [List.length_append, hc]; rfl), List.append_assoc]
theorem lyf_none {en : Int32} : ∀ (l : List (Int32 × Int32)) (i : Nat) (c : List (Int32 × Int32)), lyf en none i l c none = if f_U_endSpeaks en = 0 then (c ++ l, none) else (c ++ l ++ [(8, -1)], some (c.length + l.length)) := by
  intro l
  induction l with
  | nil =>
    intro i c
    show (if (none : Option Nat) = none then (if f_U_endSpeaks en = 0 then (c, none) else (c ++ [(8, -1)], some c.length)) else _) = _
    rw [if_pos rfl, List.append_nil]
    rfl
  | cons x l ih =>
    intro i c
    show (if (none : Option Nat) = some i then _ else lyf en none (i + 1) l (c ++ [x]) none) = _
    rw [if_neg (by intro q; cases q), ih (i + 1) (c ++ [x]), List.length_append, List.append_assoc]
    show (if f_U_endSpeaks en = 0 then (c ++ (x :: l), none) else (c ++ (x :: l) ++ [(8, -1)], some (c.length + 1 + l.length))) = (if f_U_endSpeaks en = 0 then (c ++ x :: l, none) else (c ++ x :: l ++ [(8, -1)], some (c.length + (l.length + 1))))
    rw [show c.length + 1 + l.length = c.length + (l.length + 1) by omega]
theorem pls_none : ∀ (l : List (Int32 × Int32)) (i : Nat), pls none i l = l := by
  intro l
  induction l with
  | nil => intro i; rfl
  | cons x l ih =>
    intro i
    show (if (none : Option Nat) = some i then _ else [x]) ++ pls none (i + 1) l = _
    rw [if_neg (by intro q; cases q), ih]
    rfl
theorem pls_end : ∀ (l : List (Int32 × Int32)) (i : Nat), pls (some (i + l.length)) i l = l ++ [(8, -1)] := by
  intro l
  induction l with
  | nil => intro i; show (if (some (i + 0) : Option Nat) = some i then _ else _) = _; rw [Nat.add_zero, if_pos rfl]; rfl
  | cons x l ih =>
    intro i
    show (if (some (i + (l.length + 1)) : Option Nat) = some i then _ else [x]) ++ pls (some (i + (l.length + 1))) (i + 1) l = _
    rw [if_neg (some_ne (by omega)), show i + (l.length + 1) = i + 1 + l.length by omega, ih]
    rfl
theorem fco_eq (en : Int32) (L : List (Int32 × Int32)) : fco en L = ((0, -1) :: pls (jat en L) 0 L, (jat en L).map (fun k => k + 1)) := by
  unfold fco jat
  cases h : fsp 0 L with
  | some k =>
    have := fsp_ge L 0 k h
    rw [lyf_before L 0 [(0, -1)] (Nat.zero_le _) this.2 rfl]
    rfl
  | none =>
    rw [lyf_none]
    by_cases he : f_U_endSpeaks en = 0
    · simp only [if_pos he, pls_none]
      rfl
    · have := pls_end L 0
      rw [Nat.zero_add] at this
      simp only [if_neg he, this]
      show ([(0, -1)] ++ L ++ [(8, -1)], some (1 + L.length)) = ((0, -1) :: (L ++ [(8, -1)]), some (L.length + 1))
      rw [Nat.add_comm 1]
      rfl
theorem pln_eq (en : Int32) (L : List (Int32 × Int32)) : pln en L = (fco en L).1.map Prod.fst := by
  rw [fco_eq]
  unfold pln
  rw [← pls_map]
  rfl
theorem dps_eq (en : Int32) (L lo : List (Int32 × Int32)) : fps en L lo = dps en L lo := by
  unfold fps dps
  rw [fco_eq]
  cases jat en L <;> rfl
theorem drop_at {co : List (Int32 × Int32)} {pl : Nat} {y : Int32 × Int32} {r : List (Int32 × Int32)} (h : co.drop pl = y :: r) : pl < co.length ∧ fs1 co pl = y.1 ∧ fs2 co pl = y.2 ∧ co.drop (pl + 1) = r := by
  have hl : co.length - pl = r.length + 1 := by rw [← List.length_drop, h]; rfl
  have h0 : co[pl]? = some y := by
    have := congrArg (fun z : List (Int32 × Int32) => z[0]?) h
    simp only [List.getElem?_drop, Nat.add_zero, List.getElem?_cons_zero] at this
    exact this
  refine ⟨by omega, ?_, ?_, ?_⟩
  · unfold fs1; rw [List.getD_eq_getElem?_getD, h0]; rfl
  · unfold fs2; rw [List.getD_eq_getElem?_getD, h0]; rfl
  · rw [← List.drop_drop, h]; rfl
def tkq (ps : List (Int32 × Int32)) (q : Nat) (t : Nat → Int32) (y : T3) : Nat → Int32 := if prn y.2.2 = q then tk (hkOf ps.length (fs2 ps) (nI q)) y.2.1 t else t
section FS
variable {ps co : List (Int32 × Int32)} {jo : Option Nat} {m : Bool} {B : Nat}
theorem fdl_end (hjn : ∀ j, jo = some j → j < co.length) (hB : B < 4000) : ∀ (rows : List T3) (s : ST), (∀ y, y ∈ rows → V3 m B y) →
    (fdl (fs1 co) (fs2 co) co.length jo ps.length (fs1 ps) (fs2 ps) co.length (rows.map pk3) s).2.1 = s.2.1 + nI rows.length ∧
    ∀ q, (fdl (fs1 co) (fs2 co) co.length jo ps.length (fs1 ps) (fs2 ps) co.length (rows.map pk3) s).2.2.2 q = rows.foldl (tkq ps q) (s.2.2.2 q) := by
  intro rows
  induction rows with
  | nil => intro s _; exact ⟨(Int32.add_zero _).symm, fun _ => rfl⟩
  | cons y rows ih =>
    intro s hV
    have hy := hV y List.mem_cons_self
    have hp := hy.2.2.lt
    have hq : prn y.2.2 < 16 := Nat.lt_trans hp (by decide)
    have ec : cfd (fs1 co) (fs2 co) co.length jo ps.length (fs1 ps) (fs2 ps) (pk3 y) co.length (s.1, s.2.1 + 1, s.2.2) = (s.1, s.2.1 + 1, s.2.2.1 + 1, fun p => if p = prn y.2.2 then tk (hkOf ps.length (fs2 ps) (nI (prn y.2.2))) y.2.1 (s.2.2.2 p) else s.2.2.2 p) := by
      rw [cfd_end hjn]
      unfold carr
      have e1 : ¬ pk3 y = -1 := p_ne hy.1 hy.2.1 hB hq
      have e2 : pk3 y >>> (20 &&& 31) = nI (prn y.2.2) := p_shr hy.1 hy.2.1 hB hq
      have e3 : f_Run_valueOf (pk3 y) = y.2.1 := p_val hy.1 hy.2.1 hB hq
      have e4 : ¬ f_U_within (nI (prn y.2.2)) 10 = 0 := by
        have := within_t (n := 10) hp (by decide)
        rw [show (10 : Int32) = nI 10 from rfl, this]
        decide
      rw [if_neg e1, e2, if_neg e4, e3, nI_clamp (by omega)]
    show (fdl _ _ _ _ _ _ _ _ (rows.map pk3) (cfd (fs1 co) (fs2 co) co.length jo ps.length (fs1 ps) (fs2 ps) (pk3 y) co.length (s.1, s.2.1 + 1, s.2.2))).2.1 = s.2.1 + nI (rows.length + 1) ∧ ∀ q, (fdl _ _ _ _ _ _ _ _ (rows.map pk3) (cfd (fs1 co) (fs2 co) co.length jo ps.length (fs1 ps) (fs2 ps) (pk3 y) co.length (s.1, s.2.1 + 1, s.2.2))).2.2.2 q = rows.foldl (tkq ps q) (tkq ps q (s.2.2.2 q) y)
    rw [ec]
    obtain ⟨i1, i2⟩ := ih (s.1, s.2.1 + 1, s.2.2.1 + 1, fun p => if p = prn y.2.2 then tk (hkOf ps.length (fs2 ps) (nI (prn y.2.2))) y.2.1 (s.2.2.2 p) else s.2.2.2 p) (fun z hz => hV z (List.mem_cons_of_mem _ hz))
    refine ⟨?_, fun q => ?_⟩
    · rw [i1]
      show s.2.1 + 1 + nI rows.length = _
      rw [Int32.add_assoc, ← nI_1, Int32.add_comm 1]
    · rw [i2 q]
      congr 1
      show (if q = prn y.2.2 then _ else _) = _
      unfold tkq
      by_cases h : prn y.2.2 = q
      · rw [if_pos h, if_pos h.symm, h]
      · rw [if_neg h, if_neg (fun e => h e.symm)]
theorem psiS {x : Int32 × Int32} {rest : List (Int32 × Int32)} {pl : Nat} {rows : List T3} {s : ST} (hd : co.drop pl = x :: rest) (hj : ¬ jo = some pl) (hjn : ∀ j, jo = some j → j < co.length) (hB : B < 3000) (hn : ps.length ≤ 10) (hps : ∀ y, y ∈ ps → VK y.1) (hV : ∀ y, y ∈ rows → V3 m B y) (hK : HK x.1 x.2 ps rows) (hl : rows.length ≤ 220) (hk : s.1 pl = []) (ha : s.2.2.1 = 0) :
    ∃ κ, chk (fs1 co) (fs2 co) co.length jo ps.length (fs1 ps) (fs2 ps) 1000000 (co.length - pl) pl (fdl (fs1 co) (fs2 co) co.length jo ps.length (fs1 ps) (fs2 ps) pl (rows.map pk3) s) =
      chk (fs1 co) (fs2 co) co.length jo ps.length (fs1 ps) (fs2 ps) 1000000 (co.length - (pl + 1)) (pl + 1) (fdl (fs1 co) (fs2 co) co.length jo ps.length (fs1 ps) (fs2 ps) (pl + 1) ((bst x.1 x.2 ps rows).map pk3) (upF s.1 pl κ, s.2.1 + nI rows.length, s.2.2)) := by
  obtain ⟨d1, d2, d3, d4⟩ := drop_at hd
  have ho := out_st (cd := fs1 co) (fg := fs2 co) (jo := jo) (ps := ps) (pl := pl) (m := m) (B := B) (rows := rows) hj hB hn hps hV (by rw [d2, d3]; exact hK) hl
  rw [d2, d3] at ho
  refine ⟨(bch (fs1 co) (fs2 co) jo ps.length (fs1 ps) pl (rows.map pk3) []).2, ?_⟩
  have hp := psi_s (cd := fs1 co) (fg := fs2 co) (n := co.length) (jo := jo) (pk := fs1 ps) (pv := fs2 ps) (d := co.length - (pl + 1)) hn d1 hjn (rows := rows.map pk3) (s := s) (fun r hr => by
    obtain ⟨y, hy, e⟩ := List.mem_map.mp hr
    rw [← e]
    exact p_ne (hV y hy).1 (hV y hy).2.1 (by omega) (Nat.lt_trans (hV y hy).2.2.lt (by decide))) hk ha (by
      rw [ho, List.length_map]
      have := (bst_len (c := x.1) (f := x.2) (ps := ps) (rows := rows)).1
      omega)
  rw [show co.length - pl = (co.length - (pl + 1)) + 1 by omega, hp, ho, List.length_map]
theorem psiJ {x : Int32 × Int32} {rest : List (Int32 × Int32)} {pl : Nat} {h : Int32} {rows : List T3} {s : ST} (hd : co.drop pl = x :: rest) (hj : jo = some pl) (hc : (x.1 = 8 ∧ h = 0) ∨ (x.1 = 9 ∧ h = 1)) (hB : B < 3000) (hn : ps.length ≤ 10) (hV : ∀ y, y ∈ rows → V3 false B y) (hl : rows.length ≤ 10) (hk : s.1 pl = []) (ha : s.2.2.1 = 0) :
    ∃ κ, chk (fs1 co) (fs2 co) co.length jo ps.length (fs1 ps) (fs2 ps) 1000000 (co.length - pl) pl (fdl (fs1 co) (fs2 co) co.length jo ps.length (fs1 ps) (fs2 ps) pl (rows.map pk3) s) =
      chk (fs1 co) (fs2 co) co.length jo ps.length (fs1 ps) (fs2 ps) 1000000 (co.length - (pl + 1)) (pl + 1) (fdl (fs1 co) (fs2 co) co.length jo ps.length (fs1 ps) (fs2 ps) (pl + 1) ((jnA h ps rows).map pk3) (upF s.1 pl κ, s.2.1 + nI rows.length, s.2.2)) := by
  obtain ⟨d1, d2, d3, d4⟩ := drop_at hd
  subst hj
  have ho := out_j (cd := fs1 co) (fg := fs2 co) (ps := ps) (pl := pl) (h := h) (B := B) (rows := rows) hn (by omega) (by rw [d2]; exact hc) hV
  refine ⟨(bch (fs1 co) (fs2 co) (some pl) ps.length (fs1 ps) pl (rows.map pk3) []).2, ?_⟩
  have hp := psi_s (cd := fs1 co) (fg := fs2 co) (n := co.length) (jo := some pl) (pk := fs1 ps) (pv := fs2 ps) (d := co.length - (pl + 1)) hn d1 (fun j e => by rw [← Option.some.inj e]; exact d1) (rows := rows.map pk3) (s := s) (fun r hr => by
    obtain ⟨y, hy, e⟩ := List.mem_map.mp hr
    rw [← e]
    exact p_ne (hV y hy).1 (hV y hy).2.1 (by omega) (Nat.lt_trans (hV y hy).2.2.lt (by decide))) hk ha (by
      rw [ho, List.length_map]
      have := jnA_len (h := h) hn rows
      omega)
  rw [show co.length - pl = (co.length - (pl + 1)) + 1 by omega, hp, ho, List.length_map]
end FS
theorem V3.t {B : Nat} {y : T3} (h : V3 true B y) : ¬ y.2.2 = -1 := by
  obtain ⟨q, hq, e⟩ := PM.t.mp h.2.2
  rw [e]
  exact nI_nm1 (by omega)
section FS
variable {ps co L : List (Int32 × Int32)} {ja : Option Nat}
theorem free_sim (hL : L.length ≤ 12) (hn : ps.length ≤ 10) (hps : ∀ z, z ∈ ps → VK z.1 ∧ VV 10 z.2) (hjn : ∀ j, ja.map (fun k => k + 1) = some j → j < co.length)
    (hpre : ∀ i x, L[i]? = some x → (∀ k, ja = some k → i < k) → ¬ x.1 = 1 ∧ ¬ x.1 = 2 ∧ ¬ x.1 = 3 ∧ ¬ x.1 = 4) (hja : ∀ k, ja = some k → k ≤ L.length) :
    ∀ (l : List (Int32 × Int32)) (i pl : Nat) (rows : List T3) (s : ST) (hd : Int32) (m : Bool), l = L.drop i → i ≤ L.length → co.drop pl = pls ja i l → pl ≤ co.length → (m = false → pl = i + 1 ∧ ∀ k, ja = some k → i ≤ k) → (m = true → ∃ k, ja = some k ∧ k < i ∧ k + 1 < pl) →
    (∀ y, y ∈ rows → V3 m (240 + 9 * i) y) → VP ps.length rows → rows.length ≤ 100 + 10 * i → (m = false → rows.length ≤ 10) → (∀ j, pl ≤ j → s.1 j = []) → s.2.2.1 = 0 → s.2.2.2 = (fun _ => tl0) → s.2.1 + nI rows.length = hd →
    (chk (fs1 co) (fs2 co) co.length (ja.map (fun k => k + 1)) ps.length (fs1 ps) (fs2 ps) 1000000 (co.length - pl) pl (fdl (fs1 co) (fs2 co) co.length (ja.map (fun k => k + 1)) ps.length (fs1 ps) (fs2 ps) pl (rows.map pk3) s)).2.1 = (frR ja ps i l rows hd).2 ∧
    (∀ q, (chk (fs1 co) (fs2 co) co.length (ja.map (fun k => k + 1)) ps.length (fs1 ps) (fs2 ps) 1000000 (co.length - pl) pl (fdl (fs1 co) (fs2 co) co.length (ja.map (fun k => k + 1)) ps.length (fs1 ps) (fs2 ps) pl (rows.map pk3) s)).2.2.2 q = (frR ja ps i l rows hd).1.foldl (tkq ps q) tl0) ∧
    (∃ m', (ja = none ↔ m' = false) ∧ ∀ y, y ∈ (frR ja ps i l rows hd).1 → V3 m' 400 y) ∧ (frR ja ps i l rows hd).1.length ≤ 240 := by
  have hend : ∀ {rows : List T3} {s : ST} {hd : Int32} {m : Bool} {pl B : Nat}, co.drop pl = [] → pl ≤ co.length → B ≤ 400 → (∀ y, y ∈ rows → V3 m B y) → s.2.2.2 = (fun _ => tl0) → s.2.1 + nI rows.length = hd →
      (chk (fs1 co) (fs2 co) co.length (ja.map (fun k => k + 1)) ps.length (fs1 ps) (fs2 ps) 1000000 (co.length - pl) pl (fdl (fs1 co) (fs2 co) co.length (ja.map (fun k => k + 1)) ps.length (fs1 ps) (fs2 ps) pl (rows.map pk3) s)).2.1 = hd ∧
      (∀ q, (chk (fs1 co) (fs2 co) co.length (ja.map (fun k => k + 1)) ps.length (fs1 ps) (fs2 ps) 1000000 (co.length - pl) pl (fdl (fs1 co) (fs2 co) co.length (ja.map (fun k => k + 1)) ps.length (fs1 ps) (fs2 ps) pl (rows.map pk3) s)).2.2.2 q = rows.foldl (tkq ps q) tl0) := by
    intro rows s hd m pl B h1 h2 hB hV ht hh
    have e : pl = co.length := by
      have := congrArg List.length h1
      rw [List.length_drop] at this
      have : co.length - pl = 0 := this
      omega
    subst e
    rw [Nat.sub_self]
    obtain ⟨f1, f2⟩ := fdl_end (ps := ps) hjn (show B < 4000 by omega) rows s hV
    exact ⟨by rw [← hh]; exact f1, fun q => by have := f2 q; rw [ht] at this; exact this⟩
  intro l
  induction l with
  | nil =>
    intro i pl rows s hd m hl hi hco hpl hm0 hm1 hV hVP hrl hrl0 hkp har htl hhd
    have eL : i = L.length := by
      have := congrArg List.length hl
      rw [List.length_drop] at this
      have : 0 = L.length - i := this
      omega
    by_cases hj : ja = some i
    · have ep : pls ja i [] = [(8, -1)] := by show (if ja = some i then _ else _) = _; rw [if_pos hj]
      have ef : frR ja ps i [] rows hd = (jnA 0 ps rows, hd + nI (jnA 0 ps rows).length) := by show (if ja = some i then _ else _) = _; rw [if_pos hj]
      rw [ep] at hco
      rw [ef]
      have hmf : m = false := by
        cases m with
        | false => rfl
        | true =>
          obtain ⟨k, k1, k2, k3⟩ := hm1 rfl
          rw [hj] at k1
          have := Option.some.inj k1
          omega
      subst hmf
      obtain ⟨p1, p2⟩ := hm0 rfl
      obtain ⟨κ, e⟩ := psiJ (ps := ps) (jo := ja.map (fun k => k + 1)) (h := 0) (B := 240 + 9 * i) (rows := rows) (s := s) hco (by rw [hj, p1]; rfl) (Or.inl ⟨rfl, rfl⟩) (by omega) hn hV (hrl0 rfl) (hkp pl (Nat.le_refl _)) har
      obtain ⟨d1, d2, d3, d4⟩ := drop_at hco
      have hVj := jnA_V (h := 0) hn hV
      have hjl := jnA_len (h := 0) hn rows
      have hE := hend (rows := jnA 0 ps rows) (s := (upF s.1 pl κ, s.2.1 + nI rows.length, s.2.2)) (hd := hd + nI (jnA 0 ps rows).length) (pl := pl + 1) d4 (by omega) (show 240 + 9 * i ≤ 400 by omega) hVj htl (by show s.2.1 + nI rows.length + _ = _; rw [hhd])
      rw [e]
      exact ⟨hE.1, hE.2, ⟨true, ⟨fun q => by rw [hj] at q; exact absurd q (by intro w; cases w), fun q => absurd q (by decide)⟩, fun y hy => (hVj y hy).mono (by omega)⟩, by have := hrl0 rfl; show (jnA 0 ps rows).length ≤ 240; omega⟩
    · have ep : pls ja i [] = [] := by show (if ja = some i then _ else _) = _; rw [if_neg hj]
      have ef : frR ja ps i [] rows hd = (rows, hd) := by show (if ja = some i then _ else _) = _; rw [if_neg hj]
      rw [ep] at hco
      rw [ef]
      have hE := hend hco hpl (show 240 + 9 * i ≤ 400 by omega) hV htl hhd
      refine ⟨hE.1, hE.2, ⟨m, ?_, fun y hy => (hV y hy).mono (by omega)⟩, by show rows.length ≤ 240; omega⟩
      cases m with
      | false =>
        refine ⟨fun _ => rfl, fun _ => ?_⟩
        cases hja2 : ja with
        | none => rfl
        | some k =>
          have h1 := (hm0 rfl).2 k hja2
          have h2 := hja k hja2
          have : k = i := by omega
          exact absurd (by rw [hja2, this]) hj
      | true =>
        obtain ⟨k, k1, -⟩ := hm1 rfl
        exact ⟨fun q => by rw [k1] at q; exact absurd q (by intro w; cases w), fun q => absurd q (by decide)⟩
  | cons x l ih =>
    intro i pl rows s hd m hl hi hco hpl hm0 hm1 hV hVP hrl hrl0 hkp har htl hhd
    have hlen : L.length - i = l.length + 1 := by rw [← List.length_drop, ← hl]; rfl
    have hLi : L[i]? = some x := by
      have := congrArg (fun z : List (Int32 × Int32) => z[0]?) hl
      simp only [List.getElem?_drop, Nat.add_zero, List.getElem?_cons_zero] at this
      exact this.symm
    have hl2 : l = L.drop (i + 1) := by rw [← List.drop_drop, ← hl]; rfl
    have hps1 : ∀ z, z ∈ ps → VK z.1 := fun z hz => (hps z hz).1
    by_cases hj : ja = some i
    · have hmf : m = false := by
        cases m with
        | false => rfl
        | true =>
          obtain ⟨k, k1, k2, k3⟩ := hm1 rfl
          rw [hj] at k1
          have := Option.some.inj k1
          omega
      subst hmf
      obtain ⟨p1, p2⟩ := hm0 rfl
      have hr10 := hrl0 rfl
      by_cases hx : x.1 = 1
      · have ep : pls ja i (x :: l) = (9, -1) :: pls ja (i + 1) l := by show (if ja = some i then (if x.1 = 1 then [(9, -1)] else [(8, -1), x]) else [x]) ++ pls ja (i + 1) l = _; rw [if_pos hj, if_pos hx]; rfl
        have ef : frR ja ps i (x :: l) rows hd = frR ja ps (i + 1) l (jnA 1 ps rows) (hd + nI (jnA 1 ps rows).length) := by show (if ja = some i then (if x.1 = 1 then _ else _) else _) = _; rw [if_pos hj, if_pos hx]
        rw [ep] at hco
        rw [ef]
        obtain ⟨κ, e⟩ := psiJ (ps := ps) (jo := ja.map (fun k => k + 1)) (h := 1) (B := 240 + 9 * i) (rows := rows) (s := s) hco (by rw [hj, p1]; rfl) (Or.inr ⟨rfl, rfl⟩) (by omega) hn hV hr10 (hkp pl (Nat.le_refl _)) har
        obtain ⟨d1, d2, d3, d4⟩ := drop_at hco
        have hVj := jnA_V (h := 1) hn hV
        have hjl := jnA_len (h := 1) hn rows
        rw [e]
        exact ih (i + 1) (pl + 1) (jnA 1 ps rows) _ _ true hl2 (by omega) d4 (by omega) (fun q => absurd q (by decide)) (fun _ => ⟨i, hj, by omega, by omega⟩) (fun y hy => (hVj y hy).mono (by omega)) VP_jnA (by omega) (fun q => absurd q (by decide)) (fun j hj2 => by show upF s.1 pl κ j = []; rw [upF_n _ _ (by omega)]; exact hkp j (by omega)) har htl (by show s.2.1 + nI rows.length + _ = _; rw [hhd])
      · have ep : pls ja i (x :: l) = (8, -1) :: x :: pls ja (i + 1) l := by show (if ja = some i then (if x.1 = 1 then [(9, -1)] else [(8, -1), x]) else [x]) ++ pls ja (i + 1) l = _; rw [if_pos hj, if_neg hx]; rfl
        have ef : frR ja ps i (x :: l) rows hd = frR ja ps (i + 1) l (bst x.1 x.2 ps (jnA 0 ps rows)) (hd + nI (jnA 0 ps rows).length + nI (bst x.1 x.2 ps (jnA 0 ps rows)).length) := by show (if ja = some i then (if x.1 = 1 then _ else _) else _) = _; rw [if_pos hj, if_neg hx]
        rw [ep] at hco
        rw [ef]
        obtain ⟨κ, e⟩ := psiJ (ps := ps) (jo := ja.map (fun k => k + 1)) (h := 0) (B := 240 + 9 * i) (rows := rows) (s := s) hco (by rw [hj, p1]; rfl) (Or.inl ⟨rfl, rfl⟩) (by omega) hn hV hr10 (hkp pl (Nat.le_refl _)) har
        obtain ⟨d1, d2, d3, d4⟩ := drop_at hco
        have hVj := jnA_V (h := 0) hn hV
        have hjl := jnA_len (h := 0) hn rows
        obtain ⟨κ2, e2⟩ := psiS (ps := ps) (jo := ja.map (fun k => k + 1)) (m := true) (B := 240 + 9 * i) (rows := jnA 0 ps rows) (s := (upF s.1 pl κ, s.2.1 + nI rows.length, s.2.2)) d4 (by rw [hj]; exact some_ne (show i + 1 ≠ pl + 1 by omega)) hjn (by omega) hn hps1 hVj (HK_t hn VP_jnA (fun y hy => (hVj y hy).t)) (by omega) (by show upF s.1 pl κ (pl + 1) = []; rw [upF_n _ _ (by omega)]; exact hkp _ (by omega)) har
        obtain ⟨c1, c2, c3, c4⟩ := drop_at d4
        have hbl := (bst_len (c := x.1) (f := x.2) (ps := ps) (rows := jnA 0 ps rows)).1
        rw [e, e2]
        exact ih (i + 1) (pl + 1 + 1) (bst x.1 x.2 ps (jnA 0 ps rows)) _ _ true hl2 (by omega) c4 (by omega) (fun q => absurd q (by decide)) (fun _ => ⟨i, hj, by omega, by omega⟩) (fun y hy => (bst_V hn hps (by omega) (by omega) (fun _ => rfl) hVj y hy).mono (by omega)) (VP_bst VP_jnA) (by omega) (fun q => absurd q (by decide)) (fun j hj2 => by show upF (upF s.1 pl κ) (pl + 1) κ2 j = []; rw [upF_n _ _ (by omega), upF_n _ _ (by omega)]; exact hkp j (by omega)) har htl (by show s.2.1 + nI rows.length + nI (jnA 0 ps rows).length + _ = _; rw [hhd])
    · have ep : pls ja i (x :: l) = x :: pls ja (i + 1) l := by show (if ja = some i then (if x.1 = 1 then [(9, -1)] else [(8, -1), x]) else [x]) ++ pls ja (i + 1) l = _; rw [if_neg hj]; rfl
      have ef : frR ja ps i (x :: l) rows hd = frR ja ps (i + 1) l (bst x.1 x.2 ps rows) (hd + nI (bst x.1 x.2 ps rows).length) := by show (if ja = some i then _ else _) = _; rw [if_neg hj]
      rw [ep] at hco
      rw [ef]
      have hbl := bst_len (c := x.1) (f := x.2) (ps := ps) (rows := rows)
      obtain ⟨d1, d2, d3, d4⟩ := drop_at hco
      cases m with
      | false =>
        obtain ⟨p1, p2⟩ := hm0 rfl
        have hr10 := hrl0 rfl
        have hik : ∀ k, ja = some k → i < k := fun k hk => by
          have := p2 k hk
          have : k ≠ i := fun q => hj (by rw [hk, q])
          omega
        obtain ⟨n1, n2, n3, n4⟩ := hpre i x hLi hik
        have hjo : ¬ ja.map (fun k => k + 1) = some pl := by
          cases hja2 : ja with
          | none => intro w; cases w
          | some k => have := hik k hja2; exact some_ne (show k + 1 ≠ pl by omega)
        obtain ⟨κ, e⟩ := psiS (ps := ps) (jo := ja.map (fun k => k + 1)) (m := false) (B := 240 + 9 * i) (rows := rows) (s := s) hco hjo hjn (by omega) hn hps1 hV (HK_f n1 n2 n3) (by omega) (hkp pl (Nat.le_refl _)) har
        have := hbl.2 n4
        rw [e]
        exact ih (i + 1) (pl + 1) (bst x.1 x.2 ps rows) _ _ false hl2 (by omega) d4 (by omega) (fun _ => ⟨by omega, fun k hk => hik k hk⟩) (fun q => absurd q (by decide)) (fun y hy => (bst_V hn hps (by omega) (by omega) (fun q => absurd q n4) hV y hy).mono (by omega)) (VP_bst hVP) (by omega) (fun _ => by omega) (fun j hj2 => by show upF s.1 pl κ j = []; rw [upF_n _ _ (by omega)]; exact hkp j (by omega)) har htl (by show s.2.1 + nI rows.length + _ = _; rw [hhd])
      | true =>
        obtain ⟨k, k1, k2, k3⟩ := hm1 rfl
        have hjo : ¬ ja.map (fun k => k + 1) = some pl := by rw [k1]; exact some_ne (show k + 1 ≠ pl by omega)
        obtain ⟨κ, e⟩ := psiS (ps := ps) (jo := ja.map (fun k => k + 1)) (m := true) (B := 240 + 9 * i) (rows := rows) (s := s) hco hjo hjn (by omega) hn hps1 hV (HK_t hn hVP (fun y hy => (hV y hy).t)) (by omega) (hkp pl (Nat.le_refl _)) har
        have := hbl.1
        rw [e]
        exact ih (i + 1) (pl + 1) (bst x.1 x.2 ps rows) _ _ true hl2 (by omega) d4 (by omega) (fun q => absurd q (by decide)) (fun _ => ⟨k, k1, by omega, by omega⟩) (fun y hy => (bst_V hn hps (by omega) (by omega) (fun _ => rfl) hV y hy).mono (by omega)) (VP_bst hVP) (by omega) (fun q => absurd q (by decide)) (fun j hj2 => by show upF s.1 pl κ j = []; rw [upF_n _ _ (by omega)]; exact hkp j (by omega)) har htl (by show s.2.1 + nI rows.length + _ = _; rw [hhd])
end FS
