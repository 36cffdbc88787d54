-- ===== row by row: all rows of a stretch, its unions, all stretches =====
theorem prn_m1 : prn (-1) = 0 := by unfold prn; rw [if_pos rfl]
def VR (fr : Nat) (rows : List T3) : Prop := ∀ y, y ∈ rows → VK y.1 ∧ VV (240 + 9 * fr) y.2.1 ∧ y.2.2 = -1
section RS
variable {L : List (Int32 × Int32)} {sk : Int32} {skn : Nat} {x : Int32 × Int32} {w wd : Int32} {fr to : Nat}
theorem rows_sim (hsk : ∀ j, j < L.length → (nI j = sk ↔ j = skn)) (hL : L.length ≤ 12) (hx : VK x.1) (hto : to ≤ L.length) (hft : fr ≤ to) (hg : to < L.length → fs1 L to = 6 ∧ to ≠ skn) (hw : ¬ w ≤ 0)
    (hwd1 : to < L.length → wd = -1) (hwd2 : ¬ to < L.length → ∀ m, m < 200 → ¬ w ≤ nI m → (nI (m + 1) = wd ↔ w ≤ nI (m + 1))) (hng : ∀ i, fr ≤ i → i < to → i ≠ skn → ¬ fs1 L i = 6) :
    ∀ (rows : List T3) (c rd : Int32) (s : ST) (g : GS) (N : Nat), VR fr rows → N + rows.length ≤ 100 → g.1.length ≤ N → (∀ i, fr ≤ i → (g.2.1 i).length ≤ N) → SimR L skn x.2 w fr to s g →
    SimR L skn x.2 w fr to (cfl (fs1 (rco sk L)) (fs2 (rco sk L)) (rco sk L).length none 1 (fs1 [x]) (fs2 [x]) w (plc skn fr) (rows.map pk3) c s).2 (gr (fs1 L) (fs2 L) sk x.1 wd fr (to - fr) rows rd g).2 ∧
    (fr = 0 → c = rd → (cfl (fs1 (rco sk L)) (fs2 (rco sk L)) (rco sk L).length none 1 (fs1 [x]) (fs2 [x]) w (plc skn fr) (rows.map pk3) c s).1 = (gr (fs1 L) (fs2 L) sk x.1 wd fr (to - fr) rows rd g).1) ∧
    (fr ≠ 0 → (gr (fs1 L) (fs2 L) sk x.1 wd fr (to - fr) rows rd g).1 = rd) ∧
    (gr (fs1 L) (fs2 L) sk x.1 wd fr (to - fr) rows rd g).2.1.length ≤ N + rows.length ∧
    ∀ i, fr ≤ i → ((gr (fs1 L) (fs2 L) sk x.1 wd fr (to - fr) rows rd g).2.2.1 i).length ≤ N + rows.length := by
  intro rows
  induction rows with
  | nil => intro c rd s g N _ _ h1 h2 h; exact ⟨h, fun _ e => e, fun _ => rfl, h1, h2⟩
  | cons y rows ih =>
    intro c rd s g N hv hN h1 h2 h
    have hN' : N + (rows.length + 1) ≤ 100 := hN
    have hov := h.2.2.2.2.2.2.2
    obtain ⟨v1, v2, v3⟩ := hv y List.mem_cons_self
    by_cases hs : w ≤ s.2.2.1
    · rw [if_pos hs] at hov
      have e1 : gr (fs1 L) (fs2 L) sk x.1 wd fr (to - fr) (y :: rows) rd g = (rd, g) := by
        show (if g.2.2.2 = 0 then _ else (rd, g)) = _
        rw [hov, if_neg (by decide)]
      rw [cfl_stop hs, e1]
      exact ⟨h, fun _ e => e, fun _ => rfl, by show g.1.length ≤ N + (rows.length + 1); omega, fun i hi => by have := h2 i hi; show (g.2.1 i).length ≤ N + (rows.length + 1); omega⟩
    · rw [if_neg hs] at hov
      have e1 : gr (fs1 L) (fs2 L) sk x.1 wd fr (to - fr) (y :: rows) rd g = gr (fs1 L) (fs2 L) sk x.1 wd fr (to - fr) rows (rd + if fr = 0 then 1 else 0) (gs (fs1 L) (fs2 L) sk x.1 wd y.1 (to - fr) fr y.2.1 (hd1 g)) := by
        show (if g.2.2.2 = 0 then _ else (rd, g)) = _
        rw [if_pos hov]
      have e2 : cfl (fs1 (rco sk L)) (fs2 (rco sk L)) (rco sk L).length none 1 (fs1 [x]) (fs2 [x]) w (plc skn fr) ((y :: rows).map pk3) c s = cfl (fs1 (rco sk L)) (fs2 (rco sk L)) (rco sk L).length none 1 (fs1 [x]) (fs2 [x]) w (plc skn fr) (rows.map pk3) (c + 1) (cfd (fs1 (rco sk L)) (fs2 (rco sk L)) (rco sk L).length none 1 (fs1 [x]) (fs2 [x]) (pK y.1 y.2.1 0) (plc skn fr) (s.1, s.2.1 + 1, s.2.2)) := by
        show (if w ≤ s.2.2.1 then (c, s) else cfl (fs1 (rco sk L)) (fs2 (rco sk L)) (rco sk L).length none 1 (fs1 [x]) (fs2 [x]) w (plc skn fr) (rows.map pk3) (c + 1) (cfd (fs1 (rco sk L)) (fs2 (rco sk L)) (rco sk L).length none 1 (fs1 [x]) (fs2 [x]) (pk3 y) (plc skn fr) (s.1, s.2.1 + 1, s.2.2))) = _
        rw [if_neg hs]
        unfold pk3
        rw [v3, prn_m1]
      have hr := row_sim (w := w) (wd := wd) (fr := fr) hsk hL hx hto hg hw hwd1 hwd2 v1 (to - fr) fr y.2.1 (s.1, s.2.1 + 1, s.2.2) (hd1 g) (by omega) (Nat.le_refl _) hng v2 (show g.1.length < 200 by omega) (fun i hi => by have := h2 i hi; show (g.2.1 i).length < 200; omega) h.hd hov
      have hb := gs_b (kd := fs1 L) (fg := fs2 L) (sk := sk) (hk := x.1) (wd := wd) (k := y.1) (to - fr) fr y.2.1 (hd1 g)
      have hI := ih (c + 1) (rd + if fr = 0 then 1 else 0) _ _ (N + 1) (fun z hz => hv z (List.mem_cons_of_mem _ hz)) (by omega) (Nat.le_trans hb.1 (show g.1.length + 1 ≤ N + 1 by omega)) (fun i hi => Nat.le_trans (hb.2.1 i) (by have := h2 i hi; show (g.2.1 i).length + 1 ≤ N + 1; omega)) hr
      rw [e1, e2]
      refine ⟨hI.1, fun hf e => hI.2.1 hf (by rw [if_pos hf, e]), fun hf => by rw [hI.2.2.1 hf, if_neg hf, Int32.add_zero], ?_, fun i hi => ?_⟩
      · have := hI.2.2.2.1; show _ ≤ N + (rows.length + 1); omega
      · have := hI.2.2.2.2 i hi; show _ ≤ N + (rows.length + 1); omega
theorem un_sim (hsk : ∀ j, j < L.length → (nI j = sk ↔ j = skn)) (hL : L.length ≤ 12) (hx : VK x.1) (hx2 : VV 10 x.2) (hto : to ≤ L.length) (hg : to < L.length → fs1 L to = 6 ∧ to ≠ skn) (hw : ¬ w ≤ 0)
    (hwd1 : to < L.length → wd = -1) (hwd2 : ¬ to < L.length → ∀ m, m < 200 → ¬ w ≤ nI m → (nI (m + 1) = wd ↔ w ≤ nI (m + 1))) (hng : ∀ i, fr ≤ i → i < to → i ≠ skn → ¬ fs1 L i = 6) :
    ∀ (d j : Nat) (s : ST) (g : GS) (N : Nat), d + j = to → fr ≤ j → N + d ≤ 150 → g.1.length ≤ N → (∀ i, fr ≤ i → (g.2.1 i).length ≤ N) → SimR L skn x.2 w fr to s g →
    SimR L skn x.2 w fr to (chk (fs1 (rco sk L)) (fs2 (rco sk L)) (rco sk L).length none 1 (fs1 [x]) (fs2 [x]) w (plc skn to - plc skn j) (plc skn j) s) (gu (fs1 L) (fs2 L) sk x.1 x.2 wd d j g) ∧
    (gu (fs1 L) (fs2 L) sk x.1 x.2 wd d j g).1.length ≤ N + d := by
  intro d
  induction d with
  | zero =>
    intro j s g N hj hfr hN h1 h2 h
    have e : j = to := by omega
    subst e
    rw [Nat.sub_self]
    exact ⟨h, h1⟩
  | succ d ih =>
    intro j s g N hj hfr hN h1 h2 h
    have hjl : j < L.length := by omega
    have hov := h.2.2.2.2.2.2.2
    have eg : gu (fs1 L) (fs2 L) sk x.1 x.2 wd (d + 1) j g = if g.2.2.2 = 0 then
      (if fs1 L j = 4 then (if nI j = sk then gu (fs1 L) (fs2 L) sk x.1 x.2 wd d (j + 1) g else gu (fs1 L) (fs2 L) sk x.1 x.2 wd d (j + 1) (gs (fs1 L) (fs2 L) sk x.1 wd x.1 d (j + 1) x.2 (hd1 g)))
       else gu (fs1 L) (fs2 L) sk x.1 x.2 wd d (j + 1) g) else g := rfl
    rw [eg]
    by_cases hs : w ≤ s.2.2.1
    · rw [if_pos hs] at hov
      rw [hov, if_neg (by decide), chk_stop _ _ _ hs]
      exact ⟨h, by omega⟩
    · rw [if_neg hs] at hov
      rw [if_pos hov]
      by_cases hjs : j = skn
      · have e2 : plc skn j = plc skn (j + 1) := by rw [hjs]; exact plc_e.symm
        have hI := ih (j + 1) s g N (by omega) (by omega) (by omega) h1 h2 h
        rw [e2, if_pos ((hsk j hjl).mpr hjs)]
        have e3 : (if fs1 L j = 4 then gu (fs1 L) (fs2 L) sk x.1 x.2 wd d (j + 1) g else gu (fs1 L) (fs2 L) sk x.1 x.2 wd d (j + 1) g) = gu (fs1 L) (fs2 L) sk x.1 x.2 wd d (j + 1) g := by split <;> rfl
        rw [e3]
        exact ⟨hI.1, by have := hI.2; omega⟩
      · have hns : ¬ nI j = sk := fun q => hjs ((hsk j hjl).mp q)
        rw [if_neg hns]
        obtain ⟨ec, ef⟩ := rco_at hsk hjl hjs
        have hlt : plc skn j < plc skn to := plc_lt hjs (by omega)
        have e1 : plc skn to - plc skn j = (plc skn to - plc skn (j + 1)) + 1 := by rw [plc_s hjs]; omega
        have e2 : chk (fs1 (rco sk L)) (fs2 (rco sk L)) (rco sk L).length none 1 (fs1 [x]) (fs2 [x]) w (plc skn to - plc skn j) (plc skn j) s = chk (fs1 (rco sk L)) (fs2 (rco sk L)) (rco sk L).length none 1 (fs1 [x]) (fs2 [x]) w (plc skn to - plc skn (j + 1)) (plc skn (j + 1)) (cpl (fs1 (rco sk L)) (fs2 (rco sk L)) (rco sk L).length none 1 (fs1 [x]) (fs2 [x]) w (plc skn j) s) := by
          rw [e1, plc_s hjs]
          rfl
        rw [e2]
        by_cases h4 : fs1 L j = 4
        · have ep : cpl (fs1 (rco sk L)) (fs2 (rco sk L)) (rco sk L).length none 1 (fs1 [x]) (fs2 [x]) w (plc skn j) s = cfd (fs1 (rco sk L)) (fs2 (rco sk L)) (rco sk L).length none 1 (fs1 [x]) (fs2 [x]) (pK x.1 x.2 0) (plc skn (j + 1)) (s.1, s.2.1 + 1, s.2.2) := by
            unfold cpl
            rw [ec, if_pos h4, plc_s hjs]
            show (if w ≤ s.2.2.1 then ((0 : Int32), s) else (0 + 1, cfd _ _ _ none 1 _ _ _ _ _)).2 = _
            rw [if_neg hs]
            rfl
          rw [if_pos h4, ep]
          have hr := row_sim (w := w) (wd := wd) (fr := fr) hsk hL hx hto hg hw hwd1 hwd2 hx d (j + 1) x.2 (s.1, s.2.1 + 1, s.2.2) (hd1 g) (by omega) (by omega) (fun i a b c => hng i (by omega) b c) (hx2.mono (by omega)) (show g.1.length < 200 by omega) (fun i hi => by have := h2 i (by omega); show (g.2.1 i).length < 200; omega) h.hd hov
          have hb := gs_b (kd := fs1 L) (fg := fs2 L) (sk := sk) (hk := x.1) (wd := wd) (k := x.1) d (j + 1) x.2 (hd1 g)
          have hI := ih (j + 1) _ _ (N + 1) (by omega) (by omega) (by omega) (Nat.le_trans hb.1 (show g.1.length + 1 ≤ N + 1 by omega)) (fun i hi => Nat.le_trans (hb.2.1 i) (by have := h2 i hi; show (g.2.1 i).length + 1 ≤ N + 1; omega)) hr
          exact ⟨hI.1, by have := hI.2; omega⟩
        · have ep : cpl (fs1 (rco sk L)) (fs2 (rco sk L)) (rco sk L).length none 1 (fs1 [x]) (fs2 [x]) w (plc skn j) s = s := by
            unfold cpl
            rw [ec, if_neg h4, if_neg (hng j hfr (by omega) hjs)]
          rw [if_neg h4, ep]
          have hI := ih (j + 1) s g N (by omega) (by omega) (by omega) h1 h2 h
          exact ⟨hI.1, by have := hI.2; omega⟩
theorem asl_next (hsk : ∀ j, j < L.length → (nI j = sk ↔ j = skn)) {en hk hv : Int32} : ∀ (d j : Nat), d + j = L.length → ∃ to, j ≤ to ∧ to ≤ L.length ∧ (∀ i, j ≤ i → i < to → i ≠ skn → ¬ fs1 L i = 6) ∧ (to < L.length → fs1 L to = 6 ∧ to ≠ skn) ∧
    ∀ (fr : Nat) (rows : List T3) (rd : Int32) (s : GS), asl (fs1 L) (fs2 L) sk hk hv en d j fr rows rd s = if to < L.length then asl (fs1 L) (fs2 L) sk hk hv en (L.length - (to + 1)) (to + 1) (to + 1) (grp (gtr (fs1 L) (fs2 L) sk hk hv (-1) fr to rows rd s).2.1) (gtr (fs1 L) (fs2 L) sk hk hv (-1) fr to rows rd s).1 ([], (gtr (fs1 L) (fs2 L) sk hk hv (-1) fr to rows rd s).2.2)
      else gtr (fs1 L) (fs2 L) sk hk hv (wdF en) fr L.length rows rd s := by
  intro d
  induction d with
  | zero =>
    intro j hj
    have e : j = L.length := by omega
    subst e
    exact ⟨L.length, Nat.le_refl _, Nat.le_refl _, fun i a b => by omega, fun q => absurd q (Nat.lt_irrefl _), fun fr rows rd s => by rw [if_neg (Nat.lt_irrefl _)]; rfl⟩
  | succ d ih =>
    intro j hj
    have hjl : j < L.length := by omega
    obtain ⟨to, a1, a2, a3, a4, a5⟩ := ih (j + 1) (by omega)
    by_cases h6 : fs1 L j = 6
    · by_cases hjs : j = skn
      · refine ⟨to, by omega, a2, fun i b1 b2 b3 => a3 i (by omega) b2 b3, a4, fun fr rows rd s => ?_⟩
        rw [← a5]
        show (if fs1 L j = 6 then (if nI j = sk then _ else _) else _) = _
        rw [if_pos h6, if_pos ((hsk j hjl).mpr hjs)]
      · refine ⟨j, Nat.le_refl _, by omega, fun i b1 b2 => by omega, fun _ => ⟨h6, hjs⟩, fun fr rows rd s => ?_⟩
        rw [if_pos hjl]
        show (if fs1 L j = 6 then (if nI j = sk then _ else asl (fs1 L) (fs2 L) sk hk hv en d (j + 1) (j + 1) _ _ _) else _) = _
        rw [if_pos h6, if_neg (fun q => hjs ((hsk j hjl).mp q)), show L.length - (j + 1) = d by omega]
    · refine ⟨to, by omega, a2, fun i b1 b2 b3 => ?_, a4, fun fr rows rd s => ?_⟩
      · by_cases hi : i = j
        · rw [hi]; exact h6
        · exact a3 i (by omega) b2 b3
      · rw [← a5]
        show (if fs1 L j = 6 then _ else _) = _
        rw [if_neg h6]
theorem wd_ok (en : Int32) : ¬ wnt en ≤ 0 ∧ ∀ m, m < 200 → ¬ wnt en ≤ nI m → (nI (m + 1) = wdF en ↔ wnt en ≤ nI (m + 1)) := by
  unfold wnt wdF
  by_cases h5 : en = 5
  · subst h5
    rw [if_pos rfl, if_neg (by decide), if_pos rfl]
    refine ⟨by decide, fun m hm h => ?_⟩
    rw [show (2 : Int32) = nI 2 from rfl, nI_leI (by decide) (by omega)] at h
    rw [show (2 : Int32) = nI 2 from rfl, nI_leI (by decide) (by omega), nI_eq (by omega) (by decide)]
    omega
  · rw [if_neg h5]
    by_cases h6 : en = 6
    · rw [if_pos h6, if_pos h6]
      refine ⟨by decide, fun m hm h => ?_⟩
      rw [show (1 : Int32) = nI 1 from rfl, nI_leI (by decide) (by omega)] at h
      rw [show (1 : Int32) = nI 1 from rfl, nI_leI (by decide) (by omega), nI_eq (by omega) (by decide)]
      omega
    · rw [if_neg h6, if_neg h6, if_neg h5]
      refine ⟨by decide, fun m hm h => ?_⟩
      rw [show (1000000 : Int32) = nI 1000000 from rfl, nI_leI (by decide) (by omega)]
      exact ⟨fun q => absurd q (nI_nm1 (by omega)), fun q => by omega⟩
theorem asl_sim (hsk : ∀ j, j < L.length → (nI j = sk ↔ j = skn)) (hL : L.length ≤ 12) (hx : VK x.1) (hx2 : VV 10 x.2) (en : Int32) :
    ∀ (m fr : Nat) (rows : List T3) (c rd hd : Int32) (had : HD) (s : ST), L.length - fr ≤ m → fr ≤ L.length → VR fr rows → rows.length ≤ 10 + fr → (∀ i, fr ≤ i → i < L.length → i ≠ skn → s.1 (plc skn i) = []) → s.2.1 = hd → s.2.2.1 = 0 → s.2.2.2 = (fun _ => tl0) → (∀ i, fr ≤ i → had i = []) →
    (chk (fs1 (rco sk L)) (fs2 (rco sk L)) (rco sk L).length none 1 (fs1 [x]) (fs2 [x]) (wnt en) ((rco sk L).length - plc skn fr) (plc skn fr) (cfl (fs1 (rco sk L)) (fs2 (rco sk L)) (rco sk L).length none 1 (fs1 [x]) (fs2 [x]) (wnt en) (plc skn fr) (rows.map pk3) c s).2).2.1 = (asl (fs1 L) (fs2 L) sk x.1 x.2 en (L.length - fr) fr fr rows rd ([], had, hd, 0)).2.2.2.1 ∧
    (chk (fs1 (rco sk L)) (fs2 (rco sk L)) (rco sk L).length none 1 (fs1 [x]) (fs2 [x]) (wnt en) ((rco sk L).length - plc skn fr) (plc skn fr) (cfl (fs1 (rco sk L)) (fs2 (rco sk L)) (rco sk L).length none 1 (fs1 [x]) (fs2 [x]) (wnt en) (plc skn fr) (rows.map pk3) c s).2).2.2.2 0 = (asl (fs1 L) (fs2 L) sk x.1 x.2 en (L.length - fr) fr fr rows rd ([], had, hd, 0)).2.1.foldl (fun t y => tk x.2 y.2.1 t) tl0 ∧
    (∀ y, y ∈ (asl (fs1 L) (fs2 L) sk x.1 x.2 en (L.length - fr) fr fr rows rd ([], had, hd, 0)).2.1 → V3 false 400 y) ∧
    (asl (fs1 L) (fs2 L) sk x.1 x.2 en (L.length - fr) fr fr rows rd ([], had, hd, 0)).2.1.length ≤ 40 ∧
    (fr = 0 → c = rd → (cfl (fs1 (rco sk L)) (fs2 (rco sk L)) (rco sk L).length none 1 (fs1 [x]) (fs2 [x]) (wnt en) (plc skn fr) (rows.map pk3) c s).1 = (asl (fs1 L) (fs2 L) sk x.1 x.2 en (L.length - fr) fr fr rows rd ([], had, hd, 0)).1) ∧
    (fr ≠ 0 → (asl (fs1 L) (fs2 L) sk x.1 x.2 en (L.length - fr) fr fr rows rd ([], had, hd, 0)).1 = rd) := by
  intro m
  induction m with
  | zero =>
    intro fr rows c rd hd had s hm hfl hVR hrl hkp hhd har htl hhad
    have e : fr = L.length := by omega
    subst e
    obtain ⟨hw, hwd⟩ := wd_ok en
    have hS : SimR L skn x.2 (wnt en) L.length L.length s ([], had, hd, 0) := ⟨fun i a b => by omega, hhd, fun y hy => absurd hy List.not_mem_nil, fun q => absurd q (Nat.lt_irrefl _), fun _ => ⟨har, by rw [htl]; rfl⟩, fun i a b => by omega, hhad, by rw [har, if_neg hw]⟩
    obtain ⟨r1, r2, r3, r4, r5⟩ := rows_sim (wd := wdF en) hsk hL hx (Nat.le_refl _) (Nat.le_refl _) (fun q => absurd q (Nat.lt_irrefl _)) hw (fun q => absurd q (Nat.lt_irrefl _)) (fun _ => hwd) (fun i a b => by omega) rows c rd s ([], had, hd, 0) 0 hVR (by omega) (Nat.le_refl _) (fun i hi => by show (had i).length ≤ 0; rw [hhad i hi]; exact Nat.le_refl _) hS
    have e1 : asl (fs1 L) (fs2 L) sk x.1 x.2 en (L.length - L.length) L.length L.length rows rd ([], had, hd, 0) = gr (fs1 L) (fs2 L) sk x.1 (wdF en) L.length (L.length - L.length) rows rd ([], had, hd, 0) := by
      rw [Nat.sub_self]
      show gtr _ _ _ _ _ _ _ _ _ _ _ = _
      unfold gtr
      rw [Nat.sub_self]
      rfl
    rw [e1, rco_len hsk, Nat.sub_self]
    rw [rco_len hsk] at r1 r2
    exact ⟨r1.2.1, (r1.2.2.2.2.1 (Nat.lt_irrefl _)).2, r1.2.2.1, by omega, r2, r3⟩
  | succ m ih =>
    intro fr rows c rd hd had s hm hfl hVR hrl hkp hhd har htl hhad
    obtain ⟨hw, hwd⟩ := wd_ok en
    obtain ⟨to, a1, a2, a3, a4, a5⟩ := asl_next (en := en) (hk := x.1) (hv := x.2) hsk (L.length - fr) fr (by omega)
    rw [a5]
    by_cases htl2 : to < L.length
    · rw [if_pos htl2]
      obtain ⟨g6, gns⟩ := a4 htl2
      have hS : SimR L skn x.2 (wnt en) fr to s ([], had, hd, 0) := by
        refine ⟨fun i b1 b2 b3 => ?_, hhd, fun y hy => absurd hy List.not_mem_nil, fun q => ⟨?_, har, htl⟩, fun q => absurd htl2 q, fun i b1 b2 b3 => hkp i (by omega) b2 b3, fun i hi => hhad i (by omega), by rw [har, if_neg hw]⟩
        · show _ = (had i).map pk2 ∧ ∀ y, y ∈ had i → _
          rw [hhad i b1, hkp i b1 (by omega) b3]
          exact ⟨rfl, fun y hy => absurd hy List.not_mem_nil⟩
        · rw [hkp to a1 htl2 gns]; rfl
      obtain ⟨r1, r2, r3, r4, r5⟩ := rows_sim (wd := -1) hsk hL hx a2 a1 a4 hw (fun _ => rfl) (fun q => absurd htl2 q) a3 rows c rd s ([], had, hd, 0) 0 hVR (by omega) (Nat.le_refl _) (fun i hi => by show (had i).length ≤ 0; rw [hhad i hi]; exact Nat.le_refl _) hS
      obtain ⟨u1, u2⟩ := un_sim (wd := -1) hsk hL hx hx2 a2 a4 hw (fun _ => rfl) (fun q => absurd htl2 q) a3 (to - fr) fr _ _ (0 + rows.length) (by omega) (Nat.le_refl _) (by omega) r4 r5 r1
      have hG : gtr (fs1 L) (fs2 L) sk x.1 x.2 (-1) fr to rows rd ([], had, hd, 0) = ((gr (fs1 L) (fs2 L) sk x.1 (-1) fr (to - fr) rows rd ([], had, hd, 0)).1, gu (fs1 L) (fs2 L) sk x.1 x.2 (-1) (to - fr) fr (gr (fs1 L) (fs2 L) sk x.1 (-1) fr (to - fr) rows rd ([], had, hd, 0)).2) := rfl
      rw [hG]
      generalize hgr : gr (fs1 L) (fs2 L) sk x.1 (-1) fr (to - fr) rows rd ([], had, hd, 0) = GR at *
      generalize hgu : gu (fs1 L) (fs2 L) sk x.1 x.2 (-1) (to - fr) fr GR.2 = GU at *
      generalize hcf : cfl (fs1 (rco sk L)) (fs2 (rco sk L)) (rco sk L).length none 1 (fs1 [x]) (fs2 [x]) (wnt en) (plc skn fr) (rows.map pk3) c s = CF at *
      have esp : (rco sk L).length - plc skn fr = (plc skn to - plc skn fr) + (((rco sk L).length - plc skn (to + 1)) + 1) := by
        have h1 := plc_mono (skn := skn) a1
        have h2 : plc skn (to + 1) ≤ plc skn L.length := plc_mono (by omega)
        have h3 := plc_s gns
        rw [rco_len hsk]
        omega
      have ech : chk (fs1 (rco sk L)) (fs2 (rco sk L)) (rco sk L).length none 1 (fs1 [x]) (fs2 [x]) (wnt en) ((rco sk L).length - plc skn fr) (plc skn fr) CF.2 =
          chk (fs1 (rco sk L)) (fs2 (rco sk L)) (rco sk L).length none 1 (fs1 [x]) (fs2 [x]) (wnt en) ((rco sk L).length - plc skn (to + 1)) (plc skn (to + 1)) (cpl (fs1 (rco sk L)) (fs2 (rco sk L)) (rco sk L).length none 1 (fs1 [x]) (fs2 [x]) (wnt en) (plc skn to) (chk (fs1 (rco sk L)) (fs2 (rco sk L)) (rco sk L).length none 1 (fs1 [x]) (fs2 [x]) (wnt en) (plc skn to - plc skn fr) (plc skn fr) CF.2)) := by
        rw [esp, chk_app, show plc skn fr + (plc skn to - plc skn fr) = plc skn to by have := plc_mono (skn := skn) a1; omega, plc_s gns]
        rfl
      generalize hst : chk (fs1 (rco sk L)) (fs2 (rco sk L)) (rco sk L).length none 1 (fs1 [x]) (fs2 [x]) (wnt en) (plc skn to - plc skn fr) (plc skn fr) CF.2 = S1 at *
      obtain ⟨q1, q2, q3⟩ := u1.2.2.2.1 htl2
      have ecp : cpl (fs1 (rco sk L)) (fs2 (rco sk L)) (rco sk L).length none 1 (fs1 [x]) (fs2 [x]) (wnt en) (plc skn to) S1 = (cfl (fs1 (rco sk L)) (fs2 (rco sk L)) (rco sk L).length none 1 (fs1 [x]) (fs2 [x]) (wnt en) (plc skn (to + 1)) ((grp GU.1).map pk3) 0 S1).2 := by
        unfold cpl
        rw [(rco_at hsk htl2 gns).1, g6, if_neg (by decide), if_pos rfl, q1, plc_s gns]
      have hov := u1.2.2.2.2.2.2.2
      rw [q2, if_neg hw] at hov
      have eGU : (([] : List T3), GU.2) = ([], GU.2.1, GU.2.2.1, 0) := by rw [← hov]
      have hI := ih (to + 1) (grp GU.1) 0 GR.1 GU.2.2.1 GU.2.1 S1 (by omega) (by omega) (fun y hy => by
          have := grp_V u1.2.2.1 y hy
          exact ⟨this.1, this.2.1.mono (by omega), PM.f.mp this.2.2⟩) (Nat.le_trans (grp_ln _) (by omega)) (fun i b1 b2 b3 => u1.2.2.2.2.2.1 i (by omega) b2 b3) u1.2.1 q2 q3 (fun i hi => u1.2.2.2.2.2.2.1 i (by omega))
      show (chk _ _ _ _ _ _ _ _ _ _ _).2.1 = (asl (fs1 L) (fs2 L) sk x.1 x.2 en (L.length - (to + 1)) (to + 1) (to + 1) (grp GU.1) GR.1 ([], GU.2)).2.2.2.1 ∧ _
      rw [ech, ecp]
      show _ ∧ _ = (asl (fs1 L) (fs2 L) sk x.1 x.2 en (L.length - (to + 1)) (to + 1) (to + 1) (grp GU.1) GR.1 ([], GU.2)).2.1.foldl _ _ ∧ (∀ y, y ∈ (asl (fs1 L) (fs2 L) sk x.1 x.2 en (L.length - (to + 1)) (to + 1) (to + 1) (grp GU.1) GR.1 ([], GU.2)).2.1 → V3 false 400 y) ∧ (asl (fs1 L) (fs2 L) sk x.1 x.2 en (L.length - (to + 1)) (to + 1) (to + 1) (grp GU.1) GR.1 ([], GU.2)).2.1.length ≤ 40 ∧ (_ → _ → _ = (asl (fs1 L) (fs2 L) sk x.1 x.2 en (L.length - (to + 1)) (to + 1) (to + 1) (grp GU.1) GR.1 ([], GU.2)).1) ∧ (_ → (asl (fs1 L) (fs2 L) sk x.1 x.2 en (L.length - (to + 1)) (to + 1) (to + 1) (grp GU.1) GR.1 ([], GU.2)).1 = rd)
      rw [eGU]
      exact ⟨hI.1, hI.2.1, hI.2.2.1, hI.2.2.2.1, fun hf he => by rw [hI.2.2.2.2.2 (by omega)]; exact r2 hf he, fun hf => by rw [hI.2.2.2.2.2 (by omega)]; exact r3 hf⟩
    · rw [if_neg htl2]
      have e : to = L.length := by omega
      subst e
      have hS : SimR L skn x.2 (wnt en) fr L.length s ([], had, hd, 0) := by
        refine ⟨fun i b1 b2 b3 => ?_, hhd, fun y hy => absurd hy List.not_mem_nil, fun q => absurd q (Nat.lt_irrefl _), fun _ => ⟨har, by rw [htl]; rfl⟩, fun i b1 b2 b3 => by omega, fun i hi => hhad i (by omega), by rw [har, if_neg hw]⟩
        show _ = (had i).map pk2 ∧ ∀ y, y ∈ had i → _
        rw [hhad i b1, hkp i b1 b2 b3]
        exact ⟨rfl, fun y hy => absurd hy List.not_mem_nil⟩
      obtain ⟨r1, r2, r3, r4, r5⟩ := rows_sim (wd := wdF en) hsk hL hx (Nat.le_refl _) hfl a4 hw (fun q => absurd q (Nat.lt_irrefl _)) (fun _ => hwd) a3 rows c rd s ([], had, hd, 0) 0 hVR (by omega) (Nat.le_refl _) (fun i hi => by show (had i).length ≤ 0; rw [hhad i hi]; exact Nat.le_refl _) hS
      obtain ⟨u1, u2⟩ := un_sim (wd := wdF en) hsk hL hx hx2 (Nat.le_refl _) a4 hw (fun q => absurd q (Nat.lt_irrefl _)) (fun _ => hwd) a3 (L.length - fr) fr _ _ (0 + rows.length) (by omega) (Nat.le_refl _) (by omega) r4 r5 r1
      rw [← rco_len hsk] at u1
      exact ⟨u1.2.1, (u1.2.2.2.2.1 (Nat.lt_irrefl _)).2, u1.2.2.1, Nat.le_trans u2 (by omega), r2, r3⟩
end RS
theorem inr_eq (li : List (Int32 × Int32)) : inr li = (inT li).map pk3 := by
  unfold inr inT
  rw [List.map_map]
  apply List.ext_getElem
  · rw [List.length_map, List.length_range, List.length_map]
  · intro i h1 h2
    rw [List.getElem_map, List.getElem_map, List.getElem_range]
    rw [List.length_map] at h2
    have e : li.getD i (0, 0) = li[i] := by rw [List.getD_eq_getElem?_getD, List.getElem?_eq_getElem h2]; rfl
    unfold fs1 fs2
    rw [e]
    show _ = pK (li[i]).1 (li[i]).2 (prn (-1))
    rw [prn_m1]
    rfl
/-- one outer row: class and reference read, hand on and tally alike -/
theorem crun_sim {L li : List (Int32 × Int32)} {sk : Int32} {skn : Nat} {x : Int32 × Int32} {en rd hd : Int32} (hsk : ∀ j, j < L.length → (nI j = sk ↔ j = skn)) (hL : L.length ≤ 12) (hx : VK x.1) (hx2 : VV 10 x.2) (hli : li.length ≤ 10) (hV : ∀ y, y ∈ li → VK y.1 ∧ VV 10 y.2) :
    (crun (rco sk L) none [x] (wnt en) li rd hd).1 = (ask1 L li sk en x rd hd).1 ∧ (crun (rco sk L) none [x] (wnt en) li rd hd).2.2.1 = (ask1 L li sk en x rd hd).2.2.2.1 ∧
    (crun (rco sk L) none [x] (wnt en) li rd hd).2.2.2.2 0 = (ask1 L li sk en x rd hd).2.1.foldl (fun t y => tk x.2 y.2.1 t) tl0 ∧ (∀ y, y ∈ (ask1 L li sk en x rd hd).2.1 → V3 false 400 y) ∧ (ask1 L li sk en x rd hd).2.1.length ≤ 40 := by
  have hI := asl_sim (x := x) hsk hL hx hx2 en L.length 0 (inT li) rd rd hd (fun _ => []) (fun _ => [], hd, 0, fun _ => tl0) (by omega) (by omega) (fun y hy => by
    obtain ⟨z, hz, e⟩ := List.mem_map.mp hy
    rw [← e]
    exact ⟨(hV z hz).1, (hV z hz).2.mono (by omega), rfl⟩) (by unfold inT; rw [List.length_map]; omega) (fun i _ _ _ => rfl) rfl rfl rfl (fun i _ => rfl)
  rw [show plc skn 0 = 1 by unfold plc; rw [if_neg (by omega)], ← inr_eq] at hI
  exact ⟨hI.2.2.2.2.1 rfl rfl, hI.1, hI.2.1, hI.2.2.1, hI.2.2.2.1⟩
