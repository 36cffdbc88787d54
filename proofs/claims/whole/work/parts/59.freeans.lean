-- ===== free: class and reference answer alike =====
theorem fold_c {α β : Type} {f g : β → α → β} : ∀ (l : List α) (a : β), (∀ y, y ∈ l → ∀ t, f t y = g t y) → l.foldl f a = l.foldl g a := by
  intro l
  induction l with
  | nil => intro a _; rfl
  | cons y l ih =>
    intro a h
    show l.foldl f (f a y) = l.foldl g (g a y)
    rw [h y List.mem_cons_self]
    exact ih _ (fun z hz => h z (List.mem_cons_of_mem _ hz))
theorem jat_pre2 {en : Int32} {L : List (Int32 × Int32)} : ∀ i x, L[i]? = some x → (∀ k, jat en L = some k → i < k) → ¬ x.1 = 1 ∧ ¬ x.1 = 2 ∧ ¬ x.1 = 3 ∧ ¬ x.1 = 4 := by
  intro i x h h2
  have h4 : 4 < x.1 := fsp_pre L 0 i x h (fun k hk => by
    rw [Nat.zero_add]
    apply h2
    unfold jat
    rw [hk])
  refine ⟨fun q => ?_, fun q => ?_, fun q => ?_, fun q => ?_⟩ <;> rw [q] at h4 <;> exact absurd h4 (by decide)
theorem gth_V {uv : Int32} {Q : Int32 × Int32 → Prop} : ∀ (l ps : List (Int32 × Int32)), (∀ y, y ∈ ps → Q y) → (∀ x, x ∈ l → Q (prOf uv x)) → ∀ y, y ∈ gth uv ps l → Q y := by
  intro l
  induction l with
  | nil => intro ps h _; exact h
  | cons x l ih =>
    intro ps h hl
    refine ih (plAd ps (prOf uv x)) (fun y hy => ?_) (fun z hz => hl z (List.mem_cons_of_mem _ hz))
    unfold plAd at hy
    split at hy
    · exact h y hy
    · rcases List.mem_append.mp hy with q | q
      · exact h y q
      · rw [List.mem_singleton.mp q]; exact hl x List.mem_cons_self
theorem gth_pre {uv : Int32} : ∀ (l ps : List (Int32 × Int32)), ∃ t, gth uv ps l = ps ++ t := by
  intro l
  induction l with
  | nil => intro ps; exact ⟨[], (List.append_nil _).symm⟩
  | cons x l ih =>
    intro ps
    obtain ⟨t, e⟩ := ih (plAd ps (prOf uv x))
    show ∃ t, gth uv (plAd ps (prOf uv x)) l = ps ++ t
    rw [e]
    unfold plAd
    split
    · exact ⟨t, rfl⟩
    · exact ⟨[prOf uv x] ++ t, List.append_assoc _ _ _⟩
theorem getD_app {l t : List (Int32 × Int32)} {j : Nat} (h : j < l.length) : (l ++ t).getD j (0, 0) = l.getD j (0, 0) := by
  rw [List.getD_eq_getElem?_getD, List.getD_eq_getElem?_getD, List.getElem?_append_left h]
theorem plAd_at (l : List (Int32 × Int32)) (x : Int32 × Int32) : (plAd l x).getD (plOf l x) (0, 0) = x := by
  unfold plAd
  split
  · rename_i h; exact (plOf_lt l x h).2
  · rename_i h
    rw [plOf_no l x h, List.getD_eq_getElem?_getD, List.getElem?_append_right (Nat.le_refl _), Nat.sub_self]
    rfl
theorem gpl_at {uv : Int32} : ∀ (l ps : List (Int32 × Int32)) (i : Nat), i < l.length → (gth uv ps l).getD ((gpl uv ps l).getD i 0) (0, 0) = prOf uv (l.getD i (0, 0)) := by
  intro l
  induction l with
  | nil => intro ps i h; exact absurd h (Nat.not_lt_zero i)
  | cons x l ih =>
    intro ps i hi
    cases i with
    | zero =>
      show (gth uv (plAd ps (prOf uv x)) l).getD (plOf ps (prOf uv x)) (0, 0) = prOf uv x
      obtain ⟨t, e⟩ := gth_pre (uv := uv) l (plAd ps (prOf uv x))
      rw [e, getD_app (plOf_ad _ _), plAd_at]
    | succ i => exact ih (plAd ps (prOf uv x)) i (Nat.lt_of_succ_lt_succ hi)
theorem erD_none {an : Nat → Int32} : ∀ (n : Nat) (e : Int32), (∀ j, j < n → ¬ an j = -2) → erD an n e = e := by
  intro n
  induction n with
  | zero => intro e _; rfl
  | succ n ih =>
    intro e h
    show erD an n (if an n = -2 then nI n else e) = e
    rw [if_neg (h n (Nat.lt_succ_self n)), ih e (fun j hj => h j (Nat.lt_succ_of_lt hj))]
theorem erD_some {an : Nat → Int32} {j : Nat} (hj2 : an j = -2) (hj : ∀ i, i < j → ¬ an i = -2) : ∀ (n : Nat) (e : Int32), j < n → erD an n e = nI j := by
  intro n
  induction n with
  | zero => intro e h; exact absurd h (Nat.not_lt_zero j)
  | succ n ih =>
    intro e h
    show erD an n (if an n = -2 then nI n else e) = nI j
    by_cases hn : j = n
    · subst hn
      rw [if_pos hj2, erD_none j _ hj]
    · exact ih _ (by omega)
/-- the answers of the class, free, in order -/
theorem frA_sim {e : Nat} {tl : Nat → Nat → Int32} {lo : List (Int32 × Int32)} {P : List Nat} {an : Nat → Int32} (hlo : lo.length ≤ 10)
    (H : ∀ i, i < lo.length → (f_Tally_isError 0 (tmM (tl (P.getD i 0))) (nI e) = 0 ∧ ∃ (r : Int32) (mn : UInt32), f_Tally_outcome 0 (tmM (tl (P.getD i 0))) (nI e) (fs2 lo i) = some r ∧ f_Tally_mean 0 (tmM (tl (P.getD i 0))) = some mn ∧ an i = r ∧ AnOk e (r, UInt32.toInt32 mn)) ∨
      (¬ f_Tally_isError 0 (tmM (tl (P.getD i 0))) (nI e) = 0 ∧ an i = -2)) :
    ∀ (l : List (Int32 × Int32)) (i : Nat) (acc : List (Int32 × Int32)), l = lo.drop i → i ≤ lo.length → acc.length = i → (∀ j, j < i → ¬ an j = -2 ∧ fs1 acc j = an j) → (∀ y, y ∈ acc → AnOk e y) →
    ∃ s', frA (nI e) tl l (P.drop i) (-1, acc) = some s' ∧ s'.1 = erD an lo.length (-1) ∧ (s'.1 = -1 → s'.2.length = lo.length ∧ (∀ j, j < lo.length → fs1 s'.2 j = an j) ∧ ∀ y, y ∈ s'.2 → AnOk e y) ∧ (s'.1 = -1 ∨ ∃ j, j < lo.length ∧ s'.1 = nI j) := by
  intro l
  induction l with
  | nil =>
    intro i acc hl hi hacc h1 h2
    have e1 : i = lo.length := by
      have := congrArg List.length hl
      rw [List.length_drop] at this
      have : 0 = lo.length - i := this
      omega
    subst e1
    exact ⟨(-1, acc), rfl, (erD_none _ _ (fun j hj => (h1 j hj).1)).symm, fun _ => ⟨hacc, fun j hj => (h1 j hj).2, h2⟩, Or.inl rfl⟩
  | cons x l ih =>
    intro i acc hl hi hacc h1 h2
    have hlen : lo.length - i = l.length + 1 := by rw [← List.length_drop, ← hl]; rfl
    obtain ⟨d1, d2, d3, d4⟩ := drop_at hl.symm
    have hp : (P.drop i).headD 0 = P.getD i 0 := by
      rw [List.headD_eq_head?_getD, List.head?_drop, List.getD_eq_getElem?_getD]
    have ht : (P.drop i).tail = P.drop (i + 1) := List.tail_drop
    show ∃ s', (if (-1 : Int32) = -1 then (stl (nI e) x.2 (tl ((P.drop i).headD 0)) (nI acc.length) (-1) acc).bind (frA (nI e) tl l (P.drop i).tail) else some (-1, acc)) = some s' ∧ _
    rw [if_pos rfl, hp, ht, hacc]
    rcases H i d1 with ⟨o1, r, mn, o2, o3, o4, o5⟩ | ⟨o1, o2⟩
    · have es : stl (nI e) x.2 (tl (P.getD i 0)) (nI i) (-1) acc = some (-1, acc ++ [(r, UInt32.toInt32 mn)]) := by
        unfold stl
        rw [if_pos o1, ← d3, o2, Option.bind_some, o3]
        rfl
      rw [es, Option.bind_some]
      refine ih (i + 1) (acc ++ [(r, UInt32.toInt32 mn)]) d4.symm (by omega) (by rw [List.length_append, hacc]; rfl) (fun j hj => ?_) (fun y hy => ?_)
      · by_cases hji : j = i
        · subst hji
          refine ⟨by rw [o4]; exact o5.1, ?_⟩
          rw [o4]
          unfold fs1
          rw [List.getD_eq_getElem?_getD, List.getElem?_append_right (by omega), hacc, Nat.sub_self]
          rfl
        · refine ⟨(h1 j (by omega)).1, ?_⟩
          have := (h1 j (by omega)).2
          unfold fs1 at this ⊢
          rw [getD_app (by omega)]
          exact this
      · rcases List.mem_append.mp hy with q | q
        · exact h2 y q
        · rw [List.mem_singleton.mp q]; exact o5
    · have es : stl (nI e) x.2 (tl (P.getD i 0)) (nI i) (-1) acc = some (nI i, acc) := by
        unfold stl
        rw [if_neg o1]
      rw [es, Option.bind_some]
      have hne : ¬ nI i = -1 := nI_nm1 (by omega)
      refine ⟨(nI i, acc), ?_, (erD_some o2 (fun j hj => (h1 j hj).1) lo.length (-1) d1).symm, fun q => absurd q hne, Or.inr ⟨i, d1, rfl⟩⟩
      cases l with
      | nil => rfl
      | cons y l => show (if nI i = -1 then _ else some (nI i, acc)) = _; rw [if_neg hne]
theorem plf_eq (en : Int32) (L : List (Int32 × Int32)) : plf en L = fs1 (fco en L).1 := by
  funext j
  unfold plf fs1
  rw [pln_eq, List.getD_eq_getElem?_getD, List.getElem?_map, List.getD_eq_getElem?_getD]
  cases (fco en L).1[j]? <;> rfl
def FF (e : Nat) (L lo li : List (Int32 × Int32)) (an : Nat → Int32) (s : RS) : Prop :=
  s.1 = erD an lo.length (-1) ∧ s.2.1 = nI li.length ∧ s.2.2.1 = (frF (nI e) L lo li).2 ∧ (s.1 = -1 → s.2.2.2.1.length = lo.length ∧ (∀ j, j < lo.length → fs1 s.2.2.2.1 j = an j) ∧ ∀ y, y ∈ s.2.2.2.1 → AnOk e y) ∧ (s.1 = -1 ∨ ∃ j, j < lo.length ∧ s.1 = nI j) ∧
  s.2.2.2.2.1 = tells (tells [] (cds (plf (nI e) L) (pln (nI e) L).length 0)) (cdx (plf (nI e) L) (pln (nI e) L).length) ∧ s.2.2.2.2.2.1 = (pln (nI e) L).length ∧ s.2.2.2.2.2.2 = (pln (nI e) L).length
set_option maxHeartbeats 4000000 in
theorem free_ok {e : Nat} {L lo li : List (Int32 × Int32)} (he : e < 9) (hL : L.length ≤ 12) (hlo : lo.length ≤ 10) (hli : li.length ≤ 10) (hVo : ∀ y, y ∈ lo → VK y.1 ∧ VV 10 y.2) (hV : ∀ y, y ∈ li → VK y.1 ∧ VV 10 y.2) :
    ∃ s an, frQ (nI e) L lo li = some s ∧ FF e L lo li an s ∧
      ∀ i, i < lo.length → afin (nI e) (frv (jat (nI e) L) (dps (nI e) L lo) (gpl (fuv (nI e) L) [] lo) i) ((frF (nI e) L lo li).1.foldl (af (frp (jat (nI e) L) (gpl (fuv (nI e) L) [] lo) i) (frv (jat (nI e) L) (dps (nI e) L lo) (gpl (fuv (nI e) L) [] lo) i)) af0) = some (an i) := by
  -- the pairs
  have hn : (dps (nI e) L lo).length ≤ 10 := by
    unfold dps
    split
    · exact Nat.zero_le _
    · have := gth_le (fuv (nI e) L) lo []
      have h2 : (gth (fuv (nI e) L) [] lo).length ≤ 0 + lo.length := this
      omega
  have hps : ∀ z, z ∈ dps (nI e) L lo → VK z.1 ∧ VV 10 z.2 := by
    unfold dps
    split
    · intro z hz; exact absurd hz List.not_mem_nil
    · refine gth_V lo [] (fun z hz => absurd hz List.not_mem_nil) (fun x hx => ?_)
      refine ⟨(hVo x hx).1, ?_⟩
      show VV 10 (if fuv (nI e) L = 0 then -1 else x.2)
      split
      · exact VV.m1
      · exact (hVo x hx).2
  have hja := jat_lt (en := nI e) (L := L)
  have hjn : ∀ j, (jat (nI e) L).map (fun k => k + 1) = some j → j < (fco (nI e) L).1.length := fun j hj => fco_j (nI e) L j (by rw [fco_eq]; exact hj)
  -- the run
  have hco : (fco (nI e) L).1 = (0, -1) :: pls (jat (nI e) L) 0 L := by rw [fco_eq]
  have hco1 : 1 ≤ (fco (nI e) L).1.length := fco_1 _ _
  have hTl : (inT li).length = li.length := by unfold inT; rw [List.length_map]
  have hF := free_sim (ps := dps (nI e) L lo) (co := (fco (nI e) L).1) (L := L) (ja := jat (nI e) L) hL hn hps hjn jat_pre2 hja L 0 1 (inT li) (fun _ => [], 0, 0, fun _ => tl0) (nI li.length) false rfl (Nat.zero_le _) (by rw [hco]; rfl) hco1 (fun _ => ⟨rfl, fun k _ => Nat.zero_le _⟩) (fun q => absurd q (by decide))
    (fun y hy => by
      obtain ⟨z, hz, e⟩ := List.mem_map.mp hy
      rw [← e]
      exact ⟨(hV z hz).1, (hV z hz).2.mono (by omega), PM.f.mpr rfl⟩)
    (fun y hy => by
      obtain ⟨z, hz, e⟩ := List.mem_map.mp hy
      rw [← e]
      exact Or.inl rfl) (by omega) (fun _ => by omega) (fun _ _ => rfl) rfl rfl (by show 0 + nI (inT li).length = _; rw [hTl, Int32.zero_add])
  have hcr : crun (fco (nI e) L).1 (fco (nI e) L).2 (fps (nI e) L lo) 1000000 li 0 0 = (nI li.length, chk (fs1 (fco (nI e) L).1) (fs2 (fco (nI e) L).1) (fco (nI e) L).1.length ((jat (nI e) L).map (fun k => k + 1)) (dps (nI e) L lo).length (fs1 (dps (nI e) L lo)) (fs2 (dps (nI e) L lo)) 1000000 ((fco (nI e) L).1.length - 1) 1 (fdl (fs1 (fco (nI e) L).1) (fs2 (fco (nI e) L).1) (fco (nI e) L).1.length ((jat (nI e) L).map (fun k => k + 1)) (dps (nI e) L lo).length (fs1 (dps (nI e) L lo)) (fs2 (dps (nI e) L lo)) 1 ((inT li).map pk3) (fun _ => [], 0, 0, fun _ => tl0))) := by
    have e2 : (fco (nI e) L).2 = (jat (nI e) L).map (fun k => k + 1) := by rw [fco_eq]
    unfold crun
    rw [dps_eq, e2, inr_eq, cfl_fdl hn _ _ _ 0 rfl (by rw [List.length_map, hTl]; omega), List.length_map, hTl, Int32.zero_add]
  change _ ∧ _ ∧ _ ∧ _ at hF
  obtain ⟨f1, f2, ⟨m', fm, f3⟩, f4⟩ := hF
  have f4' : (frF (nI e) L lo li).1.length ≤ 240 := f4
  -- every outer row
  have hP0 : ∀ i, i < lo.length → ((fpl (nI e) L lo).getD i 0 < 10) ∧ ∀ T : List T3, (∀ y, y ∈ T → V3 m' 400 y) → T.foldl (tkq (dps (nI e) L lo) ((fpl (nI e) L lo).getD i 0)) tl0 = T.foldl (tkp (frp (jat (nI e) L) (gpl (fuv (nI e) L) [] lo) i) (frv (jat (nI e) L) (dps (nI e) L lo) (gpl (fuv (nI e) L) [] lo) i)) tl0 := by
    intro i hi
    have e2 : (fco (nI e) L).2 = (jat (nI e) L).map (fun k => k + 1) := by rw [fco_eq]
    by_cases hj : jat (nI e) L = none
    · have hp : (fpl (nI e) L lo).getD i 0 = 0 := by
        unfold fpl
        rw [e2, hj]
        show (lo.map (fun _ => 0)).getD i 0 = 0
        rw [List.getD_eq_getElem?_getD, List.getElem?_map]
        cases lo[i]? <;> rfl
      rw [hp]
      refine ⟨by decide, fun T hT => fold_c T _ (fun y hy t => ?_)⟩
      have hm := fm.mp hj
      subst hm
      have hy2 := PM.f.mp (hT y hy).2.2
      have hd : dps (nI e) L lo = [] := by unfold dps; rw [if_pos hj]
      unfold tkq tkp frp frv
      rw [if_pos hj, if_pos hj, hd, hy2, if_pos prn_m1, if_pos rfl]
      rfl
    · have hp : (fpl (nI e) L lo).getD i 0 = (gpl (fuv (nI e) L) [] lo).getD i 0 := by
        unfold fpl
        rw [e2]
        cases hj2 : jat (nI e) L with
        | none => exact absurd hj2 hj
        | some k => rfl
      have hd : dps (nI e) L lo = gth (fuv (nI e) L) [] lo := by unfold dps; rw [if_neg hj]
      have hq : (gpl (fuv (nI e) L) [] lo).getD i 0 < (dps (nI e) L lo).length := by
        rw [hd]
        apply gpl_lt
        have hgl := gpl_len (fuv (nI e) L) lo []
        rw [List.getD_eq_getElem?_getD, List.getElem?_eq_getElem (by omega)]
        exact List.getElem_mem _
      rw [hp]
      refine ⟨by omega, fun T hT => fold_c T _ (fun y hy t => ?_)⟩
      have hm : m' = true := by
        cases m' with
        | true => rfl
        | false => exact absurd (fm.mpr rfl) hj
      subst hm
      unfold tkq tkp frp frv
      rw [if_neg hj, if_neg hj, hkOf_q hq hn]
      have hiff : prn y.2.2 = (gpl (fuv (nI e) L) [] lo).getD i 0 ↔ y.2.2 = nI ((gpl (fuv (nI e) L) [] lo).getD i 0) := by
        have := PM.inj (hT y hy).2.2 (PM.t.mpr ⟨(gpl (fuv (nI e) L) [] lo).getD i 0, by omega, rfl⟩)
        rw [prn_nI (by omega)] at this
        exact this
      by_cases hc : y.2.2 = nI ((gpl (fuv (nI e) L) [] lo).getD i 0)
      · rw [if_pos hc, if_pos (hiff.mpr hc)]
      · rw [if_neg hc, if_neg (fun w => hc (hiff.mp w))]
  have hH : ∀ i, i < lo.length → (f_Tally_isError 0 (tmM ((frF (nI e) L lo li).1.foldl (tkq (dps (nI e) L lo) ((fpl (nI e) L lo).getD i 0)) tl0)) (nI e) = 0 ∧ ∃ (r : Int32) (mn : UInt32), f_Tally_outcome 0 (tmM ((frF (nI e) L lo li).1.foldl (tkq (dps (nI e) L lo) ((fpl (nI e) L lo).getD i 0)) tl0)) (nI e) (fs2 lo i) = some r ∧ f_Tally_mean 0 (tmM ((frF (nI e) L lo li).1.foldl (tkq (dps (nI e) L lo) ((fpl (nI e) L lo).getD i 0)) tl0)) = some mn ∧ afin (nI e) (frv (jat (nI e) L) (dps (nI e) L lo) (gpl (fuv (nI e) L) [] lo) i) ((frF (nI e) L lo li).1.foldl (af (frp (jat (nI e) L) (gpl (fuv (nI e) L) [] lo) i) (frv (jat (nI e) L) (dps (nI e) L lo) (gpl (fuv (nI e) L) [] lo) i)) af0) = some r ∧ AnOk e (r, UInt32.toInt32 mn)) ∨
      (¬ f_Tally_isError 0 (tmM ((frF (nI e) L lo li).1.foldl (tkq (dps (nI e) L lo) ((fpl (nI e) L lo).getD i 0)) tl0)) (nI e) = 0 ∧ afin (nI e) (frv (jat (nI e) L) (dps (nI e) L lo) (gpl (fuv (nI e) L) [] lo) i) ((frF (nI e) L lo li).1.foldl (af (frp (jat (nI e) L) (gpl (fuv (nI e) L) [] lo) i) (frv (jat (nI e) L) (dps (nI e) L lo) (gpl (fuv (nI e) L) [] lo) i)) af0) = some (-2)) := by
    intro i hi
    rw [(hP0 i hi).2 (frF (nI e) L lo li).1 f3]
    obtain ⟨n', hn', hTA⟩ := TA_f (pr := frp (jat (nI e) L) (gpl (fuv (nI e) L) [] lo) i) (hv := frv (jat (nI e) L) (dps (nI e) L lo) (gpl (fuv (nI e) L) [] lo) i) (frF (nI e) L lo li).1 tl0 af0 0 (fun y hy => (f3 y hy).2.1) (by omega) TA_0
    have hhv : (e = 7 ∨ e = 8) → fs2 lo i = frv (jat (nI e) L) (dps (nI e) L lo) (gpl (fuv (nI e) L) [] lo) i := by
      intro h78
      have hes : ¬ f_U_endSpeaks (nI e) = 0 := by rcases h78 with q | q <;> rw [q] <;> decide
      have hj : ¬ jat (nI e) L = none := by
        unfold jat
        cases fsp 0 L with
        | some k => intro w; cases w
        | none => simp only [if_neg hes]; intro w; cases w
      have huv : fuv (nI e) L = 1 := by unfold fuv; rw [if_neg hes]
      unfold frv
      rw [if_neg hj]
      have := gpl_at (uv := fuv (nI e) L) lo [] i hi
      have hd : dps (nI e) L lo = gth (fuv (nI e) L) [] lo := by unfold dps; rw [if_neg hj]
      rw [hd]
      unfold fs2
      rw [this]
      unfold prOf
      rw [huv, if_neg (by decide)]
    rcases outc (e := e) (hv := fs2 lo i) hTA (by omega) he hhv with ⟨o1, r, mn, o2, o3, o4, o5, o6, o7⟩ | ⟨o1, o2⟩
    · exact Or.inl ⟨o1, r, mn, o2, o3, o4, o5, mn, o6, rfl, o7⟩
    · exact Or.inr ⟨o1, o2⟩
  have han : ∀ i, i < lo.length → (afin (nI e) (frv (jat (nI e) L) (dps (nI e) L lo) (gpl (fuv (nI e) L) [] lo) i) ((frF (nI e) L lo li).1.foldl (af (frp (jat (nI e) L) (gpl (fuv (nI e) L) [] lo) i) (frv (jat (nI e) L) (dps (nI e) L lo) (gpl (fuv (nI e) L) [] lo) i)) af0)) = some ((afin (nI e) (frv (jat (nI e) L) (dps (nI e) L lo) (gpl (fuv (nI e) L) [] lo) i) ((frF (nI e) L lo li).1.foldl (af (frp (jat (nI e) L) (gpl (fuv (nI e) L) [] lo) i) (frv (jat (nI e) L) (dps (nI e) L lo) (gpl (fuv (nI e) L) [] lo) i)) af0)).getD 0) := fun i hi => by
    rcases hH i hi with ⟨-, r, mn, -, -, o4, -⟩ | ⟨-, o2⟩
    · rw [o4]; rfl
    · rw [o2]; rfl
  obtain ⟨s', g1, g2, g3, g4⟩ := frA_sim (e := e) (tl := fun q => (frF (nI e) L lo li).1.foldl (tkq (dps (nI e) L lo) q) tl0) (lo := lo) (P := fpl (nI e) L lo) (an := fun i => (afin (nI e) (frv (jat (nI e) L) (dps (nI e) L lo) (gpl (fuv (nI e) L) [] lo) i) ((frF (nI e) L lo li).1.foldl (af (frp (jat (nI e) L) (gpl (fuv (nI e) L) [] lo) i) (frv (jat (nI e) L) (dps (nI e) L lo) (gpl (fuv (nI e) L) [] lo) i)) af0)).getD 0) hlo (fun i hi => by
    rcases hH i hi with ⟨o1, r, mn, o2, o3, o4, o5⟩ | ⟨o1, o2⟩
    · exact Or.inl ⟨o1, r, mn, o2, o3, by show (afin (nI e) (frv (jat (nI e) L) (dps (nI e) L lo) (gpl (fuv (nI e) L) [] lo) i) ((frF (nI e) L lo li).1.foldl (af (frp (jat (nI e) L) (gpl (fuv (nI e) L) [] lo) i) (frv (jat (nI e) L) (dps (nI e) L lo) (gpl (fuv (nI e) L) [] lo) i)) af0)).getD 0 = r; rw [o4]; rfl, o5⟩
    · exact Or.inr ⟨o1, by show (afin (nI e) (frv (jat (nI e) L) (dps (nI e) L lo) (gpl (fuv (nI e) L) [] lo) i) ((frF (nI e) L lo li).1.foldl (af (frp (jat (nI e) L) (gpl (fuv (nI e) L) [] lo) i) (frv (jat (nI e) L) (dps (nI e) L lo) (gpl (fuv (nI e) L) [] lo) i)) af0)).getD 0 = -2; rw [o2]; rfl⟩) lo 0 [] rfl (Nat.zero_le _) rfl (fun j hj => absurd hj (Nat.not_lt_zero j)) (fun y hy => absurd hy List.not_mem_nil)
  have htl : (crun (fco (nI e) L).1 (fco (nI e) L).2 (fps (nI e) L lo) 1000000 li 0 0).2.2.2.2 = fun q => (frF (nI e) L lo li).1.foldl (tkq (dps (nI e) L lo) q) tl0 := by
    rw [hcr]
    funext q
    exact f2 q
  refine ⟨(s'.1, nI li.length, (frF (nI e) L lo li).2, s'.2, tells (tells [] (cds (fs1 (fco (nI e) L).1) (fco (nI e) L).1.length 0)) (cdx (fs1 (fco (nI e) L).1) (fco (nI e) L).1.length), (fco (nI e) L).1.length, (fco (nI e) L).1.length), _, ?_, ?_, han⟩
  · have g1' : frA (nI e) (fun q => (frF (nI e) L lo li).1.foldl (tkq (dps (nI e) L lo) q) tl0) lo (fpl (nI e) L lo) (-1, []) = some s' := g1
    unfold frQ
    rw [htl, g1', Option.bind_some, hcr]
    show some (s'.1, nI li.length, _, _) = _
    rw [show (chk (fs1 (fco (nI e) L).1) (fs2 (fco (nI e) L).1) (fco (nI e) L).1.length ((jat (nI e) L).map (fun k => k + 1)) (dps (nI e) L lo).length (fs1 (dps (nI e) L lo)) (fs2 (dps (nI e) L lo)) 1000000 ((fco (nI e) L).1.length - 1) 1 (fdl (fs1 (fco (nI e) L).1) (fs2 (fco (nI e) L).1) (fco (nI e) L).1.length ((jat (nI e) L).map (fun k => k + 1)) (dps (nI e) L lo).length (fs1 (dps (nI e) L lo)) (fs2 (dps (nI e) L lo)) 1 ((inT li).map pk3) (fun _ => [], 0, 0, fun _ => tl0))).2.1 = (frF (nI e) L lo li).2 from f1]
  · have hlp : (pln (nI e) L).length = (fco (nI e) L).1.length := by rw [pln_eq, List.length_map]
    refine ⟨g2, rfl, rfl, g3, g4, ?_, hlp.symm, hlp.symm⟩
    rw [plf_eq, hlp]
