-- ===== rows with pairs, packed =====
def prn (p : Int32) : Nat := if p = -1 then 0 else p.toNatClampNeg
def PM (m : Bool) (p : Int32) : Prop := if m = true then ∃ q, q < 10 ∧ p = nI q else p = -1
theorem PM.lt {m : Bool} {p : Int32} (h : PM m p) : prn p < 10 := by
  unfold PM at h
  unfold prn
  cases m with
  | false => rw [if_neg (by decide)] at h; rw [if_pos h]; decide
  | true =>
    rw [if_pos rfl] at h
    obtain ⟨q, hq, rfl⟩ := h
    rw [if_neg (nI_nm1 (by omega)), nI_clamp (by omega)]
    exact hq
theorem PM.inj {m : Bool} {p p' : Int32} (h : PM m p) (h' : PM m p') : prn p = prn p' ↔ p = p' := by
  constructor
  · intro e
    unfold PM at h h'
    unfold prn at e
    cases m with
    | false => rw [if_neg (by decide)] at h h'; rw [h, h']
    | true =>
      rw [if_pos rfl] at h h'
      obtain ⟨q, hq, rfl⟩ := h
      obtain ⟨q', hq', rfl⟩ := h'
      rw [if_neg (nI_nm1 (by omega)), if_neg (nI_nm1 (by omega)), nI_clamp (by omega), nI_clamp (by omega)] at e
      rw [e]
  · intro e; rw [e]
theorem PM.f {p : Int32} : PM false p ↔ p = -1 := by unfold PM; rw [if_neg (by decide)]
theorem PM.t {p : Int32} : PM true p ↔ ∃ q, q < 10 ∧ p = nI q := by unfold PM; rw [if_pos rfl]
def V3 (m : Bool) (B : Nat) (y : T3) : Prop := VK y.1 ∧ VV B y.2.1 ∧ PM m y.2.2
theorem V3.mono {m : Bool} {B C : Nat} {y : T3} (h : V3 m B y) (hc : B ≤ C) : V3 m C y := ⟨h.1, h.2.1.mono hc, h.2.2⟩
def pk3 (y : T3) : Int32 := pK y.1 y.2.1 (prn y.2.2)
theorem pk3_inj {m : Bool} {B : Nat} {y z : T3} (hy : V3 m B y) (hz : V3 m B z) (hB : B < 4000) : pk3 y = pk3 z ↔ y = z := by
  unfold pk3
  rw [p_inj hy.1 hy.2.1 hz.1 hz.2.1 hB (Nat.lt_trans hy.2.2.lt (by decide)) (Nat.lt_trans hz.2.2.lt (by decide)), PM.inj hy.2.2 hz.2.2]
  constructor
  · rintro ⟨a, b, c⟩
    exact Prod.ext a (Prod.ext b c)
  · intro e; rw [e]; exact ⟨rfl, rfl, rfl⟩
theorem pk3_mem {m : Bool} {B : Nat} {y : T3} {l : List T3} (hy : V3 m B y) (hl : ∀ z, z ∈ l → V3 m B z) (hB : B < 4000) : pk3 y ∈ l.map pk3 ↔ y ∈ l := by
  rw [List.mem_map]
  constructor
  · rintro ⟨z, hz, e⟩
    rw [← (pk3_inj (hl z hz) hy hB).mp e]
    exact hz
  · intro h; exact ⟨y, h, rfl⟩
/-- groups, packed -/
theorem addP_addG {m : Bool} {B : Nat} {x : T3} (hx : V3 m B x) (hB : B < 4000) : ∀ (l : List T3) (room : Nat), (∀ y, y ∈ l → V3 m B y) → l.length < room → addP (l.map pk3) room (pK x.1 (-1) (prn x.2.2)) = (addG l x).map pk3 := by
  intro l
  induction l with
  | nil =>
    intro room _ hr
    show (if room = 0 then [] else [pK x.1 (-1) (prn x.2.2) + 512]) = [pk3 (x.1, 1, x.2.2)]
    have hr' : 0 < room := hr
    rw [if_neg (by omega), p_add2 hx.1 (Nat.lt_trans hx.2.2.lt (by decide))]
    rfl
  | cons y l ih =>
    intro room hl hr
    have hy := hl y List.mem_cons_self
    have hr' : l.length + 1 < room := hr
    show (if (pk3 y &&& (-1048321)) = pK x.1 (-1) (prn x.2.2) then (pk3 y + 256) :: l.map pk3 else pk3 y :: addP (l.map pk3) (room - 1) (pK x.1 (-1) (prn x.2.2))) = (if y.1 = x.1 ∧ y.2.2 = x.2.2 then (y.1, y.2.1 + 1, y.2.2) :: l else y :: addG l x).map pk3
    have e1 : (pk3 y &&& (-1048321)) = pK y.1 (-1) (prn y.2.2) := p_msk hy.1 hy.2.1 hB (Nat.lt_trans hy.2.2.lt (by decide))
    have e2 : pK y.1 (-1) (prn y.2.2) = pK x.1 (-1) (prn x.2.2) ↔ (y.1 = x.1 ∧ y.2.2 = x.2.2) := by
      rw [p_inj (B := 0) hy.1 VV.m1 hx.1 VV.m1 (by decide) (Nat.lt_trans hy.2.2.lt (by decide)) (Nat.lt_trans hx.2.2.lt (by decide)), PM.inj hy.2.2 hx.2.2]
      exact ⟨fun q => ⟨q.1, q.2.2⟩, fun q => ⟨q.1, rfl, q.2⟩⟩
    rw [e1]
    by_cases hc : y.1 = x.1 ∧ y.2.2 = x.2.2
    · rw [if_pos (e2.mpr hc), if_pos hc]
      have e3 : pk3 y + 256 = pk3 (y.1, y.2.1 + 1, y.2.2) := p_add hy.1 hy.2.1 hB (Nat.lt_trans hy.2.2.lt (by decide))
      rw [e3]
      rfl
    · rw [if_neg (fun q => hc (e2.mp q)), if_neg hc, ih (room - 1) (fun z hz => hl z (List.mem_cons_of_mem _ hz)) (by omega)]
      rfl
theorem addG_V {m : Bool} {B C : Nat} {x : T3} (hx : V3 m C x) (hB : 1 ≤ B) : ∀ (l : List T3), (∀ y, y ∈ l → V3 m B y) → ∀ y, y ∈ addG l x → V3 m (B + 1) y := by
  intro l
  induction l with
  | nil =>
    intro _ y hy
    have e : y = (x.1, 1, x.2.2) := List.mem_singleton.mp hy
    rw [e]
    exact ⟨hx.1, ⟨2, by omega, show (1 : Int32) = kI 2 by decide⟩, hx.2.2⟩
  | cons z l ih =>
    intro hl y hy
    have hy2 : y ∈ (if z.1 = x.1 ∧ z.2.2 = x.2.2 then (z.1, z.2.1 + 1, z.2.2) :: l else z :: addG l x) := hy
    have hz := hl z List.mem_cons_self
    by_cases hc : z.1 = x.1 ∧ z.2.2 = x.2.2
    · rw [if_pos hc] at hy2
      rcases List.mem_cons.mp hy2 with e | e
      · rw [e]; exact ⟨hz.1, hz.2.1.succ, hz.2.2⟩
      · exact (hl y (List.mem_cons_of_mem _ e)).mono (by omega)
    · rw [if_neg hc] at hy2
      rcases List.mem_cons.mp hy2 with e | e
      · rw [e]; exact hz.mono (by omega)
      · exact ih (fun u hu => hl u (List.mem_cons_of_mem _ hu)) y e
theorem grpF_V {m : Bool} {C : Nat} : ∀ (l a : List T3) (B : Nat), 1 ≤ B → (∀ y, y ∈ l → V3 m C y) → (∀ y, y ∈ a → V3 m B y) → ∀ y, y ∈ l.foldl addG a → V3 m (B + l.length) y := by
  intro l
  induction l with
  | nil => intro a B _ _ ha y hy; exact ha y hy
  | cons x l ih =>
    intro a B hB hl ha y hy
    have := ih (addG a x) (B + 1) (by omega) (fun z hz => hl z (List.mem_cons_of_mem _ hz)) (addG_V (hl x List.mem_cons_self) hB a ha) y hy
    exact this.mono (by show B + 1 + l.length ≤ B + (l.length + 1); omega)
theorem grp_V {m : Bool} {C : Nat} {l : List T3} (hl : ∀ y, y ∈ l → V3 m C y) : ∀ y, y ∈ grp l → V3 m (1 + l.length) y := grpF_V l [] 1 (Nat.le_refl _) hl (fun y hy => absurd hy List.not_mem_nil)
theorem grp_snoc (l : List T3) (x : T3) : grp (l ++ [x]) = addG (grp l) x := by
  unfold grp
  rw [List.foldl_append]
  rfl
theorem grp_ln (l : List T3) : (grp l).length ≤ l.length := by
  have := grp_len l []
  rw [show ([] : List T3).length = 0 from rfl, Nat.zero_add] at this
  exact this
-- ===== row by row: one row through a stretch of steps =====
def pk2 (y : Int32 × Int32) : Int32 := pK y.1 y.2 0
theorem pk2_mem {k v : Int32} {l : List (Int32 × Int32)} (hk : VK k) (hv : VV 400 v) (hl : ∀ y, y ∈ l → VK y.1 ∧ VV 400 y.2) : pK k v 0 ∈ l.map pk2 ↔ (k, v) ∈ l := by
  rw [List.mem_map]
  constructor
  · rintro ⟨z, hz, e⟩
    have := (p_inj (hl z hz).1 (hl z hz).2 hk hv (by decide) (by decide) (by decide)).mp e
    rw [← this.1, ← this.2.1]
    exact hz
  · intro h; exact ⟨(k, v), h, rfl⟩
def SimR (L : List (Int32 × Int32)) (skn : Nat) (hv w : Int32) (fr to : Nat) (s : ST) (g : GS) : Prop :=
  (∀ i, fr ≤ i → i < to → i ≠ skn → s.1 (plc skn i) = (g.2.1 i).map pk2 ∧ ∀ y, y ∈ g.2.1 i → VK y.1 ∧ VV 400 y.2) ∧
  s.2.1 = g.2.2.1 ∧ (∀ y, y ∈ g.1 → V3 false 400 y) ∧
  (to < L.length → s.1 (plc skn to) = (grp g.1).map pk3 ∧ s.2.2.1 = 0 ∧ s.2.2.2 = (fun _ => tl0)) ∧
  (¬ to < L.length → s.2.2.1 = nI g.1.length ∧ s.2.2.2 0 = g.1.foldl (fun t y => tk hv y.2.1 t) tl0) ∧
  (∀ i, to < i → i < L.length → i ≠ skn → s.1 (plc skn i) = []) ∧
  (∀ i, to ≤ i → g.2.1 i = []) ∧
  (g.2.2.2 = if w ≤ s.2.2.1 then 1 else 0)
theorem SimR.hd {L : List (Int32 × Int32)} {skn : Nat} {hv w : Int32} {fr to : Nat} {s : ST} {g : GS} (h : SimR L skn hv w fr to s g) : SimR L skn hv w fr to (s.1, s.2.1 + 1, s.2.2) (g.1, g.2.1, g.2.2.1 + 1, g.2.2.2) :=
  ⟨h.1, by show s.2.1 + 1 = g.2.2.1 + 1; rw [h.2.1], h.2.2.1, h.2.2.2.1, h.2.2.2.2.1, h.2.2.2.2.2.1, h.2.2.2.2.2.2.1, h.2.2.2.2.2.2.2⟩
theorem hk1 (x : Int32 × Int32) (f : List (Int32 × Int32) → Nat → Int32) : hkOf 1 (f [x]) (nI 0) = f [x] 0 := by
  unfold hkOf
  rw [if_neg (by decide), if_neg (by decide)]
  rfl
section RS
variable {L : List (Int32 × Int32)} {sk : Int32} {skn : Nat} {x : Int32 × Int32} {w wd : Int32} {fr to : Nat}
theorem row_sim (hsk : ∀ j, j < L.length → (nI j = sk ↔ j = skn)) (hL : L.length ≤ 12) (hx : VK x.1) (hto : to ≤ L.length) (hg : to < L.length → fs1 L to = 6 ∧ to ≠ skn) (hw : ¬ w ≤ 0)
    (hwd1 : to < L.length → wd = -1) (hwd2 : ¬ to < L.length → ∀ m, m < 200 → ¬ w ≤ nI m → (nI (m + 1) = wd ↔ w ≤ nI (m + 1))) {k : Int32} (hk : VK k) :
    ∀ (d j : Nat) (v : Int32) (s : ST) (g : GS), d + j = to → fr ≤ j → (∀ i, j ≤ i → i < to → i ≠ skn → ¬ fs1 L i = 6) → VV (240 + 9 * j) v → g.1.length < 200 → (∀ i, j ≤ i → (g.2.1 i).length < 200) → SimR L skn x.2 w fr to s g → g.2.2.2 = 0 →
    SimR L skn x.2 w fr to (cfd (fs1 (rco sk L)) (fs2 (rco sk L)) (rco sk L).length none 1 (fs1 [x]) (fs2 [x]) (pK k v 0) (plc skn j) s) (gs (fs1 L) (fs2 L) sk x.1 wd k d j v g) := by
  have hnj : ∀ j, (none : Option Nat) = some j → j < (rco sk L).length := fun j h => by cases h
  intro d
  induction d with
  | zero =>
    intro j v s g hj hfr hng hv hl1 hl2 h ho
    have e : j = to := by omega
    subst e
    have hv4 : VV 400 v := hv.mono (by omega)
    have hpn : ¬ pK k v 0 = -1 := p_ne hk hv4 (by decide) (by decide)
    have hV : V3 false 400 (k, v, -1) := ⟨hk, hv4, PM.f.mpr rfl⟩
    have hVs : ∀ y, y ∈ g.1 ++ [(k, v, -1)] → V3 false 400 y := fun y hy => by
      rcases List.mem_append.mp hy with q | q
      · exact h.2.2.1 y q
      · rw [List.mem_singleton.mp q]; exact hV
    have hlen : (g.1 ++ [(k, v, (-1 : Int32))]).length = g.1.length + 1 := List.length_append
    show SimR L skn x.2 w fr j _ (g.1 ++ [(k, v, -1)], g.2.1, g.2.2.1, if nI (g.1.length + 1) = wd then 1 else 0)
    by_cases hjl : j < L.length
    · obtain ⟨h6, hns⟩ := hg hjl
      have hpl : plc skn j < (rco sk L).length := by rw [rco_len hsk]; exact plc_lt hns hjl
      obtain ⟨e1, e2, e3⟩ := h.2.2.2.1 hjl
      have hrm : 400 < 4000 := by decide
      have hc : ct (fs1 (rco sk L) (plc skn j)) (fs2 (rco sk L) (plc skn j)) (hkOf 1 (fs1 [x]) (pK k v 0 >>> (20 &&& 31))) (pK k v 0) (s.1 (plc skn j)) = (-1, (grp (g.1 ++ [(k, v, -1)])).map pk3) := by
        rw [(rco_at hsk hjl hns).1, h6]
        unfold ct
        rw [if_neg (by decide), if_neg (by decide), if_neg (by decide), if_neg (by decide), if_neg (by decide), if_pos rfl, e1, p_msk hk hv4 (by decide) (by decide), grp_snoc]
        have := addP_addG (m := false) (B := 400) hV (by decide) (grp g.1) 220 (fun y hy => (grp_V h.2.2.1 y hy).mono (by omega)) (Nat.lt_of_le_of_lt (grp_ln g.1) (by omega))
        rw [← this]
        rfl
      rw [cfd_no hpl (by intro q; cases q) hpn hc]
      refine ⟨fun i h1 h2 h3 => ?_, h.2.1, hVs, fun _ => ⟨upF_s _ _ _, e2, e3⟩, fun q => absurd hjl q, fun i h1 h2 h3 => ?_, h.2.2.2.2.2.2.1, ?_⟩
      · have := h.1 i h1 h2 h3
        show upF s.1 (plc skn j) _ (plc skn i) = _ ∧ _
        rw [upF_n _ _ (plc_ne h3 hns (by omega))]
        exact this
      · show upF s.1 (plc skn j) _ (plc skn i) = _
        rw [upF_n _ _ (plc_ne h3 hns (by omega))]
        exact h.2.2.2.2.2.1 i h1 h2 h3
      · show (if nI (g.1.length + 1) = wd then (1 : Int32) else 0) = if w ≤ s.2.2.1 then 1 else 0
        rw [hwd1 hjl, if_neg (nI_nm1 (by omega)), e2, if_neg hw]
    · have ejl : j = L.length := by omega
      obtain ⟨e1, e2⟩ := h.2.2.2.2.1 hjl
      have ecf : cfd (fs1 (rco sk L)) (fs2 (rco sk L)) (rco sk L).length none 1 (fs1 [x]) (fs2 [x]) (pK k v 0) (plc skn j) s = (s.1, s.2.1, s.2.2.1 + 1, fun p => if p = 0 then tk x.2 v (s.2.2.2 p) else s.2.2.2 p) := by
        rw [ejl, ← rco_len hsk, cfd_end hnj]
        unfold carr
        rw [if_neg hpn, p_shr hk hv4 (by decide) (by decide), if_neg (by decide), p_val hk hv4 (by decide) (by decide), hk1 x fs2, show (nI 0).toNatClampNeg = 0 by decide]
        rfl
      rw [ecf]
      refine ⟨h.1, h.2.1, hVs, fun q => absurd q hjl, fun _ => ⟨?_, ?_⟩, h.2.2.2.2.2.1, h.2.2.2.2.2.2.1, ?_⟩
      · show s.2.2.1 + 1 = nI (g.1 ++ [(k, v, (-1 : Int32))]).length
        rw [hlen, e1, nI_1]
      · show (if (0 : Nat) = 0 then tk x.2 v (s.2.2.2 0) else s.2.2.2 0) = (g.1 ++ [(k, v, (-1 : Int32))]).foldl (fun t y => tk x.2 y.2.1 t) tl0
        rw [if_pos rfl, List.foldl_append, e2]
        rfl
      · show (if nI (g.1.length + 1) = wd then (1 : Int32) else 0) = if w ≤ s.2.2.1 + 1 then 1 else 0
        have hov := h.2.2.2.2.2.2.2
        rw [ho, e1] at hov
        have hnw : ¬ w ≤ nI g.1.length := fun q => by rw [if_pos q] at hov; exact absurd hov (by decide)
        rw [e1, nI_1]
        by_cases hc : w ≤ nI (g.1.length + 1)
        · rw [if_pos hc, if_pos ((hwd2 hjl _ hl1 hnw).mpr hc)]
        · rw [if_neg hc, if_neg (fun q => hc ((hwd2 hjl _ hl1 hnw).mp q))]
  | succ d ih =>
    intro j v s g hj hfr hng hv hl1 hl2 h ho
    have hjl : j < L.length := by omega
    have hv4 : VV 400 v := hv.mono (by omega)
    have hpn : ¬ pK k v 0 = -1 := p_ne hk hv4 (by decide) (by decide)
    by_cases hjs : j = skn
    · have e1 : gs (fs1 L) (fs2 L) sk x.1 wd k (d + 1) j v g = gs (fs1 L) (fs2 L) sk x.1 wd k d (j + 1) v g := by
        show (if nI j = sk then _ else _) = _
        rw [if_pos ((hsk j hjl).mpr hjs)]
      have e2 : plc skn j = plc skn (j + 1) := by rw [hjs]; exact plc_e.symm
      rw [e1, e2]
      exact ih (j + 1) v s g (by omega) (by omega) (fun i h1 h2 h3 => hng i (by omega) h2 h3) (hv.mono (by omega)) hl1 (fun i hi => hl2 i (by omega)) h ho
    · have hns : ¬ nI j = sk := fun q => hjs ((hsk j hjl).mp q)
      have hpl : plc skn j < (rco sk L).length := by rw [rco_len hsk]; exact plc_lt hjs hjl
      have h6 := hng j (Nat.le_refl _) (by omega) hjs
      obtain ⟨ec, ef⟩ := rco_at hsk hjl hjs
      obtain ⟨k1, k2⟩ := h.1 j hfr (by omega) hjs
      have hst := stays_v (c := fs1 L j) (f := fs2 L j) (k := k) hv hx
      have hkk : hkOf 1 (fs1 [x]) (pK k v 0 >>> (20 &&& 31)) = x.1 := by rw [p_shr hk hv4 (by decide) (by decide), hk1 x fs1]; rfl
      by_cases h5 : fs1 L j = 5
      · have ev : f_Mo_stays (fs1 L j) (fs2 L j) k v x.1 = v := by rw [stays_eq, h5, if_neg (by decide), if_neg (by decide), if_neg (by decide), if_neg (by decide)]
        have hmem := pk2_mem hk hv4 k2
        have hc : ct (fs1 (rco sk L) (plc skn j)) (fs2 (rco sk L) (plc skn j)) (hkOf 1 (fs1 [x]) (pK k v 0 >>> (20 &&& 31))) (pK k v 0) (s.1 (plc skn j)) = if (k, v) ∈ g.2.1 j then (-1, s.1 (plc skn j)) else (pK k v 0, (g.2.1 j ++ [(k, v)]).map pk2) := by
          rw [ec, h5]
          unfold ct
          rw [if_neg (by decide), if_neg (by decide), if_neg (by decide), if_neg (by decide), if_pos rfl, k1]
          by_cases hm : (k, v) ∈ g.2.1 j
          · rw [if_pos hm, if_pos (hmem.mpr hm)]
          · rw [if_neg hm, if_neg (fun q => hm (hmem.mp q)), if_pos (by rw [List.length_map]; have := hl2 j (Nat.le_refl _); omega), List.map_append]
            rfl
        have e1 : gs (fs1 L) (fs2 L) sk x.1 wd k (d + 1) j v g = if (k, v) ∈ g.2.1 j then g else gs (fs1 L) (fs2 L) sk x.1 wd k d (j + 1) v (g.1, upH g.2.1 j (g.2.1 j ++ [(k, v)]), g.2.2.1 + 1, g.2.2.2) := by
          show (if nI j = sk then _ else if f_Mo_stays (fs1 L j) (fs2 L j) k v x.1 = -2 then g else if fs1 L j = 5 then (if (k, f_Mo_stays (fs1 L j) (fs2 L j) k v x.1) ∈ g.2.1 j then g else gs (fs1 L) (fs2 L) sk x.1 wd k d (j + 1) (f_Mo_stays (fs1 L j) (fs2 L j) k v x.1) (g.1, upH g.2.1 j (g.2.1 j ++ [(k, f_Mo_stays (fs1 L j) (fs2 L j) k v x.1)]), g.2.2.1 + 1, g.2.2.2)) else _) = _
          rw [if_neg hns, ev, if_neg (hv4.n2 (by decide)), if_pos h5]
        rw [e1]
        by_cases hm : (k, v) ∈ g.2.1 j
        · rw [if_pos hm] at hc
          rw [if_pos hm, cfd_no hpl (by intro q; cases q) hpn hc, upF_id]
          exact h
        · rw [if_neg hm] at hc
          rw [if_neg hm, cfd_go hpl (by intro q; cases q) hnj hpn hc hpn, ← plc_s hjs]
          refine ih (j + 1) v _ _ (by omega) (by omega) (fun i h1 h2 h3 => hng i (by omega) h2 h3) (hv.mono (by omega)) hl1 (fun i hi => ?_) ?_ ho
          · show (upH g.2.1 j _ i).length < 200
            rw [upH_n _ _ (by omega)]
            exact hl2 i (by omega)
          · refine ⟨fun i h1 h2 h3 => ?_, by show s.2.1 + 1 = g.2.2.1 + 1; rw [h.2.1], h.2.2.1, fun q => ?_, fun q => h.2.2.2.2.1 q, fun i h1 h2 h3 => ?_, fun i hi => ?_, h.2.2.2.2.2.2.2⟩
            · show upF s.1 (plc skn j) _ (plc skn i) = (upH g.2.1 j _ i).map pk2 ∧ ∀ y, y ∈ upH g.2.1 j _ i → VK y.1 ∧ VV 400 y.2
              by_cases hij : i = j
              · subst hij
                rw [upF_s, upH_s]
                refine ⟨rfl, fun y hy => ?_⟩
                rcases List.mem_append.mp hy with q | q
                · exact k2 y q
                · rw [List.mem_singleton.mp q]; exact ⟨hk, hv4⟩
              · rw [upF_n _ _ (plc_ne h3 hjs hij), upH_n _ _ hij]
                exact h.1 i h1 h2 h3
            · obtain ⟨a1, a2, a3⟩ := h.2.2.2.1 q
              refine ⟨?_, a2, a3⟩
              show upF s.1 (plc skn j) _ (plc skn to) = _
              rw [upF_n _ _ (plc_ne (hg q).2 hjs (by omega))]
              exact a1
            · show upF s.1 (plc skn j) _ (plc skn i) = _
              rw [upF_n _ _ (plc_ne h3 hjs (by omega))]
              exact h.2.2.2.2.2.1 i h1 h2 h3
            · show upH g.2.1 j _ i = _
              rw [upH_n _ _ (by omega)]
              exact h.2.2.2.2.2.2.1 i hi
      · have hc : ct (fs1 (rco sk L) (plc skn j)) (fs2 (rco sk L) (plc skn j)) (hkOf 1 (fs1 [x]) (pK k v 0 >>> (20 &&& 31))) (pK k v 0) (s.1 (plc skn j)) = (if f_Mo_stays (fs1 L j) (fs2 L j) k v x.1 = -2 then -1 else pK k (f_Mo_stays (fs1 L j) (fs2 L j) k v x.1) 0, s.1 (plc skn j)) := by
          rw [hkk, ec, ef]
          exact ct_st hk hv4 (by decide) (by decide) hx h5 h6
        have e1 : gs (fs1 L) (fs2 L) sk x.1 wd k (d + 1) j v g = if f_Mo_stays (fs1 L j) (fs2 L j) k v x.1 = -2 then g else gs (fs1 L) (fs2 L) sk x.1 wd k d (j + 1) (f_Mo_stays (fs1 L j) (fs2 L j) k v x.1) (g.1, g.2.1, g.2.2.1 + 1, g.2.2.2) := by
          show (if nI j = sk then _ else if f_Mo_stays (fs1 L j) (fs2 L j) k v x.1 = -2 then g else if fs1 L j = 5 then _ else gs (fs1 L) (fs2 L) sk x.1 wd k d (j + 1) (f_Mo_stays (fs1 L j) (fs2 L j) k v x.1) (g.1, g.2.1, g.2.2.1 + 1, g.2.2.2)) = _
          rw [if_neg hns, if_neg h5]
        rw [e1]
        by_cases h2 : f_Mo_stays (fs1 L j) (fs2 L j) k v x.1 = -2
        · rw [if_pos h2] at hc
          rw [if_pos h2, cfd_no hpl (by intro q; cases q) hpn hc, upF_id]
          exact h
        · have hv' : VV (240 + 9 * (j + 1)) (f_Mo_stays (fs1 L j) (fs2 L j) k v x.1) := (hst.resolve_left h2).mono (by omega)
          rw [if_neg h2] at hc
          rw [if_neg h2, cfd_go hpl (by intro q; cases q) hnj hpn hc (p_ne hk (hv'.mono (by omega : _ ≤ 400)) (by decide) (by decide)), ← plc_s hjs, upF_id]
          exact ih (j + 1) _ _ _ (by omega) (by omega) (fun i h1 h2 h3 => hng i (by omega) h2 h3) hv' hl1 (fun i hi => hl2 i (by omega)) h.hd ho
end RS
