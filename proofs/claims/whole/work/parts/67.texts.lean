-- ===== calls that change texts =====
def rm (t : Nat) : Nat := if t = 2 then 12 else 29
def TbP (t c k : Nat) : Prop := (c = 0 ∧ k = 8) ∨ (t = 0 ∧ 4 ≤ c ∧ c ≤ 6) ∨ (t = 1 ∧ 7 ≤ c ∧ c ≤ 9) ∨ (t = 2 ∧ 10 ≤ c ∧ c ≤ 12)
theorem c_und {M1 : Mem} {t n' : Nat} (ht : t < 3) (hn : M1 (13 + 2 * t) 1 = nI n') (hle : n' ≤ rm t) : ∃ M2, f_U_understand M1 (nI t) = some M2 ∧ M2 0 8 = 1 ∧ (t = 0 → TabIs M2 4 (M1 14) n') ∧ (t = 1 → TabIs M2 7 (M1 16) n') ∧ (t = 2 → StpIs M2 (sfault (M1 18) n') (ssteps (M1 18) n')) ∧ Out (TbP t) M1 M2 := by
  have hT : ∀ {M : Mem} {o : Nat} {b : Nat → Int32} {n : Nat}, 0 < o → TabIs M o b n → TabIs (mset M 0 8 1) o b n := by
    intro M o b n ho h
    exact ⟨by rw [ms_c _ _ (by omega)]; exact h.1, by rw [ms_c _ _ (by omega)]; exact h.2.1, fun i hi => by rw [ms_c _ _ (by omega), ms_c _ _ (by omega)]; exact h.2.2 i hi⟩
  have hc : t = 0 ∨ t = 1 ∨ t = 2 := by omega
  rcases hc with rfl | rfl | rfl
  · obtain ⟨M2, a1, a2, a3⟩ := u_parse (M := M1) (o := 4) (a := 13) hn hle (show n' ≤ ln 14 from hle) (by decide) (by decide) (by decide) (by decide) (by decide)
    refine ⟨mset M2 0 8 1, ?_, ms_s _ _ _ _, fun _ => hT (by decide) a2, fun q => absurd q (by decide), fun q => absurd q (by decide), (a3.mono (fun c k q => by unfold TbP; omega)).trans (Out.set (Or.inl ⟨rfl, rfl⟩))⟩
    unfold f_U_understand f_U_understand_b38
    rw [if_neg (by decide), if_pos (gin_t (by decide) (by decide))]
    show (f_Table_parse 4 13 M1).bind _ = _
    rw [a1]
    rfl
  · obtain ⟨M2, a1, a2, a3⟩ := u_parse (M := M1) (o := 7) (a := 15) hn hle (show n' ≤ ln 16 from hle) (by decide) (by decide) (by decide) (by decide) (by decide)
    refine ⟨mset M2 0 8 1, ?_, ms_s _ _ _ _, fun q => absurd q (by decide), fun _ => hT (by decide) a2, fun q => absurd q (by decide), (a3.mono (fun c k q => by unfold TbP; omega)).trans (Out.set (Or.inl ⟨rfl, rfl⟩))⟩
    unfold f_U_understand f_U_understand_b38
    rw [if_neg (by decide), if_pos (gin_t (by decide) (by decide))]
    show (f_Table_parse 7 15 M1).bind _ = _
    rw [a1]
    rfl
  · obtain ⟨M2, a1, a2, a3⟩ := u_stepsParse (M := M1) (a := 17) (b := M1 18) (by decide) (by decide) hle (show n' ≤ ln 18 from hle) (by decide) hn (fun k _ => rfl)
    refine ⟨mset M2 0 8 1, ?_, ms_s _ _ _ _, fun q => absurd q (by decide), fun q => absurd q (by decide), fun _ => a2.out (Out.set (P := fun c k => c = 0) rfl) (fun c k q w => by omega), (a3.mono (fun c k q => by unfold SpP at q; unfold TbP; omega)).trans (Out.set (Or.inl ⟨rfl, rfl⟩))⟩
    unfold f_U_understand f_U_understand_b38
    rw [if_pos (show nI 2 = 2 from rfl), if_pos (gin_t (by decide) (by decide))]
    show (f_Steps_parse 17 M1).bind _ = _
    rw [a1]
    rfl
def upD (D : DT) (t n' : Nat) (b' : Nat → Int32) : DT := (fun i => if i = t then n' else D.1 i, fun i => if i = t then b' else D.2.1 i, D.2.2)
def TxP (t c k : Nat) : Prop := TbP t c k ∨ (c = 13 + 2 * t ∧ k = 1) ∨ c = 14 + 2 * t ∨ (c = 92 ∧ k = t) ∨ (c = 93 ∧ 30 * t ≤ k ∧ k < 30 * t + 30)
theorem MT.at {M M3 : Mem} {i t n : Nat} {b : Nat → Int32} (h : MT M i n b) (hi : i < 3) (ht : t < 3) (hne : i ≠ t) (hn : n ≤ 29) (o : Out (TxP t) M M3) : MT M3 i n b := ⟨by rw [o _ _ (fun q => by unfold TxP TbP at q; omega)]; exact h.1, fun k hk => by rw [o _ _ (fun q => by unfold TxP TbP at q; omega)]; exact h.2 k hk⟩
theorem IV_txt {D : DT} {M M3 : Mem} {t n' : Nat} (h : IV D M) (ht : t < 3) (hle : n' ≤ rm t) (x1 : M3 (13 + 2 * t) 1 = nI n') (x2 : M3 92 t = nI n') (xm : ∀ k, k < n' → M3 93 (30 * t + k) = M3 (14 + 2 * t) k)
    (p0 : t = 0 → TabIs M3 4 (M3 14) n') (p1 : t = 1 → TabIs M3 7 (M3 16) n') (p2 : t = 2 → StpIs M3 (sfault (M3 18) n') (ssteps (M3 18) n')) (h8 : M3 0 8 = 1) (o : Out (TxP t) M M3) : IV (upD D t n' (M3 (14 + 2 * t))) M3 := by
  obtain ⟨h1, h2, h3, h4, h5, h6, h7, hs⟩ := h
  obtain ⟨q1, q2, q3, q4, q5, q6, q7, q8⟩ := h2
  have h29 : D.1 0 ≤ 29 ∧ D.1 1 ≤ 29 ∧ D.1 2 ≤ 29 := ⟨h1.1, h1.2.1, by have := h1.2.2.1; omega⟩
  have h6' : M3 0 8 = 0 → CRan (upD D t n' (M3 (14 + 2 * t))) M3 := fun q => by rw [h8] at q; exact absurd q (by decide)
  have h7' : M3 0 7 = M3 91 43 := by rw [o _ _ (fun q => by unfold TxP TbP at q; omega), o _ _ (fun q => by unfold TxP TbP at q; omega)]; exact h7
  have hs' : ∀ s, s < 4 → SHs M3 s := fun s hs2 => (hs s hs2).out hs2 o (fun c k q w => by unfold TxP TbP at q; omega)
  have e6 : M3 0 6 = nI D.2.2 := by rw [o _ _ (fun q => by unfold TxP TbP at q; omega)]; exact q8
  have e9 : M3 91 9 = nI D.2.2 := by rw [o _ _ (fun q => by unfold TxP TbP at q; omega)]; exact h5.2.2.2
  have hEB : EB (upD D t n' (M3 (14 + 2 * t))) M3 := by
    intro i hi k hk
    by_cases c : i = t
    · subst c
      show M3 (14 + 2 * i) k = (if i = i then M3 (14 + 2 * i) else D.2.1 i) k
      rw [if_pos rfl]
    · have hk' : k < (if i = t then n' else D.1 i) := hk
      rw [if_neg c] at hk'
      show M3 (14 + 2 * i) k = (if i = t then M3 (14 + 2 * t) else D.2.1 i) k
      rw [if_neg c, o _ _ (fun q => by unfold TxP TbP at q; omega)]
      exact h4 i hi k hk'
  have tab : ∀ {o' : Nat} {b : Nat → Int32} {n : Nat}, TabIs M3 o' b n → M3 o' 2 = nI (trl b n).length ∧ SH (M3 (o' + 1)) (M3 (o' + 2)) (trl b n) ∧ M3 o' 3 = tfault b n := fun w => ⟨by rw [trl_len]; exact w.2.1, SH_trl w.2.2, w.1⟩
  have hc : t = 0 ∨ t = 1 ∨ t = 2 := by omega
  rcases hc with rfl | rfl | rfl
  · obtain ⟨w1, w2, w3⟩ := tab (p0 rfl)
    refine ⟨⟨hle, h1.2.1, h1.2.2.1, h1.2.2.2⟩, ⟨w1, w2, w3, ?_, q5.out (fun j => o _ _ (fun q => by unfold TxP TbP at q; omega)) (fun j => o _ _ (fun q => by unfold TxP TbP at q; omega)), ?_, q7.out o (fun c k q w => by unfold TxP TbP at q; omega), e6⟩, ⟨x1, ?_, ?_⟩, hEB, ⟨⟨x2, xm⟩, h5.2.1.at (by decide) (by decide) (by decide) h29.2.1 o, h5.2.2.1.at (by decide) (by decide) (by decide) h29.2.2 o, e9⟩, h6', h7', hs'⟩
    · rw [o _ _ (fun q => by unfold TxP TbP at q; omega)]; exact q4
    · rw [o _ _ (fun q => by unfold TxP TbP at q; omega)]; exact q6
    · rw [o _ _ (fun q => by unfold TxP TbP at q; omega)]; exact h3.2.1
    · rw [o _ _ (fun q => by unfold TxP TbP at q; omega)]; exact h3.2.2
  · obtain ⟨w1, w2, w3⟩ := tab (p1 rfl)
    refine ⟨⟨h1.1, hle, h1.2.2.1, h1.2.2.2⟩, ⟨?_, q2.out (fun j => o _ _ (fun q => by unfold TxP TbP at q; omega)) (fun j => o _ _ (fun q => by unfold TxP TbP at q; omega)), ?_, w1, w2, w3, q7.out o (fun c k q w => by unfold TxP TbP at q; omega), e6⟩, ⟨?_, x1, ?_⟩, hEB, ⟨h5.1.at (by decide) (by decide) (by decide) h29.1 o, ⟨x2, xm⟩, h5.2.2.1.at (by decide) (by decide) (by decide) h29.2.2 o, e9⟩, h6', h7', hs'⟩
    · rw [o _ _ (fun q => by unfold TxP TbP at q; omega)]; exact q1
    · rw [o _ _ (fun q => by unfold TxP TbP at q; omega)]; exact q3
    · rw [o _ _ (fun q => by unfold TxP TbP at q; omega)]; exact h3.1
    · rw [o _ _ (fun q => by unfold TxP TbP at q; omega)]; exact h3.2.2
  · refine ⟨⟨h1.1, h1.2.1, hle, h1.2.2.2⟩, ⟨?_, q2.out (fun j => o _ _ (fun q => by unfold TxP TbP at q; omega)) (fun j => o _ _ (fun q => by unfold TxP TbP at q; omega)), ?_, ?_, q5.out (fun j => o _ _ (fun q => by unfold TxP TbP at q; omega)) (fun j => o _ _ (fun q => by unfold TxP TbP at q; omega)), ?_, p2 rfl, e6⟩, ⟨?_, ?_, x1⟩, hEB, ⟨h5.1.at (by decide) (by decide) (by decide) h29.1 o, h5.2.1.at (by decide) (by decide) (by decide) h29.2.1 o, ⟨x2, xm⟩, e9⟩, h6', h7', hs'⟩
    · rw [o _ _ (fun q => by unfold TxP TbP at q; omega)]; exact q1
    · rw [o _ _ (fun q => by unfold TxP TbP at q; omega)]; exact q3
    · rw [o _ _ (fun q => by unfold TxP TbP at q; omega)]; exact q4
    · rw [o _ _ (fun q => by unfold TxP TbP at q; omega)]; exact q6
    · rw [o _ _ (fun q => by unfold TxP TbP at q; omega)]; exact h3.1
    · rw [o _ _ (fun q => by unfold TxP TbP at q; omega)]; exact h3.2.1
/-- the class's change of a text, understood, and then the reference's -/
theorem IV_chg {D : DT} {M M1 : Mem} {t n' : Nat} (h : IV D M) (ht : t < 3) (hle : n' ≤ rm t) (x1 : M1 (13 + 2 * t) 1 = nI n') (o1 : Out (fun c k => (c = 13 + 2 * t ∧ k = 1) ∨ c = 14 + 2 * t) M M1) :
    ∃ M2, f_U_understand M1 (nI t) = some M2 ∧ M2 (13 + 2 * t) 1 = nI n' ∧ (∀ c k, (c = 14 + 2 * t ∨ (13 ≤ c ∧ c ≤ 26) ∨ 91 ≤ c) → M2 c k = M1 c k) ∧ (∀ M3, Out (fun c k => (c = 92 ∧ k = t) ∨ (c = 93 ∧ 30 * t ≤ k ∧ k < 30 * t + 30)) M2 M3 → M3 92 t = nI n' → (∀ k, k < n' → M3 93 (30 * t + k) = M1 (14 + 2 * t) k) → ∃ D, IV D M3) := by
  obtain ⟨M2, a1, a2, a3, a4, a5, a6⟩ := c_und ht x1 hle
  have k2 : ∀ c k, (c = 14 + 2 * t ∨ (13 ≤ c ∧ c ≤ 26) ∨ 91 ≤ c) → M2 c k = M1 c k := fun c k hc => a6 _ _ (fun q => by unfold TbP at q; omega)
  refine ⟨M2, a1, by rw [k2 _ _ (by omega)]; exact x1, k2, fun M3 o3 y1 y2 => ⟨_, IV_txt (n' := n') h ht hle ?_ y1 ?_ (fun q => ?_) (fun q => ?_) (fun q => ?_) ?_ ?_⟩⟩
  · rw [o3 _ _ (fun q => by omega), k2 _ _ (by omega)]; exact x1
  · intro k hk
    rw [y2 k hk, o3 _ _ (fun q => by omega), k2 _ _ (by omega)]
  · subst q
    have e : M3 14 = M1 14 := by funext k; rw [o3 _ _ (fun q => by omega), k2 _ _ (by omega)]
    rw [e]
    obtain ⟨w1, w2, w3⟩ := a3 rfl
    exact ⟨by rw [o3 _ _ (fun q => by omega)]; exact w1, by rw [o3 _ _ (fun q => by omega)]; exact w2, fun i hi => by rw [o3 _ _ (fun q => by omega), o3 _ _ (fun q => by omega)]; exact w3 i hi⟩
  · subst q
    have e : M3 16 = M1 16 := by funext k; rw [o3 _ _ (fun q => by omega), k2 _ _ (by omega)]
    rw [e]
    obtain ⟨w1, w2, w3⟩ := a4 rfl
    exact ⟨by rw [o3 _ _ (fun q => by omega)]; exact w1, by rw [o3 _ _ (fun q => by omega)]; exact w2, fun i hi => by rw [o3 _ _ (fun q => by omega), o3 _ _ (fun q => by omega)]; exact w3 i hi⟩
  · subst q
    have e : M3 18 = M1 18 := by funext k; rw [o3 _ _ (fun q => by omega), k2 _ _ (by omega)]
    rw [e]
    exact (a5 rfl).out o3 (fun c k q w => by omega)
  · rw [o3 _ _ (fun q => by omega)]; exact a2
  · exact ((o1.mono (Q := TxP t) (fun c k q => by unfold TxP; omega)).trans (a6.mono (fun c k q => Or.inl q))).trans (o3.mono (fun c k q => by unfold TxP; omega))
section TX
variable {D : DT} {M : Mem}
theorem IV.sz (h : IV D M) {t : Nat} (ht : t < 3) : M (13 + 2 * t) 1 = nI (D.1 t) ∧ M 92 t = nI (D.1 t) ∧ D.1 t ≤ rm t ∧ ∀ k, k < D.1 t → M 93 (30 * t + k) = M (14 + 2 * t) k := by
  obtain ⟨h1, h2, h3, h4, h5, -⟩ := h
  have hc : t = 0 ∨ t = 1 ∨ t = 2 := by omega
  rcases hc with rfl | rfl | rfl
  · exact ⟨h3.1, h5.1.1, h1.1, fun k hk => by rw [h5.1.2 k hk, h4 0 (by decide) k hk]⟩
  · exact ⟨h3.2.1, h5.2.1.1, h1.2.1, fun k hk => by rw [h5.2.1.2 k hk, h4 1 (by decide) k hk]⟩
  · exact ⟨h3.2.2, h5.2.2.1.1, h1.2.2.1, fun k hk => by rw [h5.2.2.1.2 k hk, h4 2 (by decide) k hk]⟩
theorem rm_29 (t : Nat) : rm t ≤ 29 := by unfold rm; split <;> omega
theorem op_wipe (h : IV D M) (a : Int32) : OK2 (f_U_wipe M a) (fun M1 => f_Mo_wipe M1 a) := by
  rcases wi a (n := 3) (by decide) (by decide) with ⟨w1, w2⟩ | ⟨t, ht, rfl, w1, w2⟩
  · exact ⟨-2, M, M, by unfold f_U_wipe; rw [show f_U_within a 3 = 0 from w1, if_pos rfl], by show f_Mo_wipe M a = _; unfold f_Mo_wipe; rw [show f_Mo_isText a = 0 from w2, if_pos rfl], D, h⟩
  · have w1' : ¬ f_U_within (nI t) 3 = 0 := w1
    have w2' : ¬ f_Mo_isText (nI t) = 0 := w2
    obtain ⟨s1, s2, s3, s4⟩ := h.sz ht
    have hg : gin (nI t) 3 := gin_t ht (by decide)
    obtain ⟨M2, a1, a2, a3, a4⟩ := IV_chg (M1 := mset M (13 + 2 * t) 1 0) (n' := 0) h ht (Nat.zero_le _) (ms_s _ _ _ _) (Out.set (Or.inl ⟨rfl, rfl⟩))
    refine ⟨nI (D.1 t), M2, mset M2 92 t 0, ?_, ?_, a4 _ (Out.set (Or.inl ⟨rfl, rfl⟩)) (ms_s _ _ _ _) (fun k hk => absurd hk (Nat.not_lt_zero k))⟩
    · unfold f_U_wipe
      rw [if_neg w1', if_pos hg, bn, if_pos hg, bn, nI_clamp (by omega), s1, a1]
      rfl
    · show f_Mo_wipe M2 (nI t) = _
      unfold f_Mo_wipe
      rw [if_neg w2', if_pos hg, bn, if_pos hg, bn, nI_clamp (by omega), a3 92 t (by omega), ms_c _ _ (by omega), s2]
theorem op_undo (h : IV D M) (a : Int32) : OK2 (f_U_undo M a) (fun M1 => f_Mo_undo M1 a) := by
  rcases wi a (n := 3) (by decide) (by decide) with ⟨w1, w2⟩ | ⟨t, ht, rfl, w1, w2⟩
  · exact ⟨-2, M, M, by unfold f_U_undo; rw [show f_U_within a 3 = 0 from w1, if_pos rfl], by show f_Mo_undo M a = _; unfold f_Mo_undo; rw [show f_Mo_isText a = 0 from w2, if_pos rfl], D, h⟩
  · have w1' : ¬ f_U_within (nI t) 3 = 0 := w1
    have w2' : ¬ f_Mo_isText (nI t) = 0 := w2
    obtain ⟨s1, s2, s3, s4⟩ := h.sz ht
    have hr := rm_29 t
    have hg : gin (nI t) 3 := gin_t ht (by decide)
    by_cases h0 : D.1 t = 0
    · refine ⟨-3, M, M, ?_, ?_, D, h⟩
      · unfold f_U_undo
        rw [if_neg w1']; simp only [if_pos hg]; rw [nI_clamp (by omega), s1, h0, if_pos (show nI 0 = 0 from rfl)]
      · show f_Mo_undo M (nI t) = _
        unfold f_Mo_undo
        rw [if_neg w2']; simp only [if_pos hg]; rw [nI_clamp (by omega), s2, h0, if_pos (show nI 0 = 0 from rfl)]
    · have hn0 : ¬ nI (D.1 t) = 0 := nI_ne0 (by omega) (by omega)
      obtain ⟨M2, a1, a2, a3, a4⟩ := IV_chg (M1 := mset M (13 + 2 * t) 1 (nI (D.1 t - 1))) (n' := D.1 t - 1) h ht (by omega) (ms_s _ _ _ _) (Out.set (Or.inl ⟨rfl, rfl⟩))
      have e92 : M2 92 t = nI (D.1 t) := by rw [a3 92 t (by omega), ms_c _ _ (by omega), s2]
      refine ⟨nI (D.1 t - 1), M2, mset M2 92 t (nI (D.1 t - 1)), ?_, ?_, a4 _ (Out.set (Or.inl ⟨rfl, rfl⟩)) (ms_s _ _ _ _) (fun k hk => ?_)⟩
      · unfold f_U_undo
        rw [if_neg w1']; simp only [if_pos hg]; rw [nI_clamp (by omega), s1, if_neg hn0, bn, nI_sub1 (by omega), a1, Option.bind_some, a2]
      · show f_Mo_undo M2 (nI t) = _
        unfold f_Mo_undo
        rw [if_neg w2']; simp only [if_pos hg]; rw [nI_clamp (by omega), e92, if_neg hn0, bn, nI_sub1 (by omega), ms_s]
      · rw [ms_c _ _ (by decide), a3 93 _ (by omega), ms_c _ _ (by omega), ms_c _ _ (by omega)]
        exact s4 k (by omega)
theorem isByte_eq (b : Int32) : f_U_isByte b = f_Mo_in b 0 255 := by
  unfold f_U_isByte f_U_isByte_b15
  rw [inb]
  by_cases h1 : b < 0
  · rw [if_pos h1, if_pos (Or.inl h1)]
  · rw [if_neg h1]
    by_cases h2 : 255 < b
    · rw [if_pos h2, if_pos (Or.inr h2)]
    · rw [if_neg h2, if_neg (fun q => q.elim h1 h2)]
theorem ln_t {t : Nat} (ht : t < 3) : ln (13 + 2 * t + 1) = rm t := by
  have hc : t = 0 ∨ t = 1 ∨ t = 2 := by omega
  rcases hc with rfl | rfl | rfl <;> rfl
theorem room_t {t : Nat} (ht : t < 3) : f_Mo_roomOf (nI t) = nI (rm t) := by
  have hc : t = 0 ∨ t = 1 ∨ t = 2 := by omega
  rcases hc with rfl | rfl | rfl <;> rfl
/-- one byte more, if there is room: the class -/
theorem c_append {M : Mem} {t n : Nat} {b : Int32} (ht : t < 3) (hn : M (13 + 2 * t) 1 = nI n) (hle : n ≤ rm t) : f_Text_append (13 + 2 * t) M b = some (if n < rm t then (1, mset (mset M (14 + 2 * t) n b) (13 + 2 * t) 1 (nI (n + 1))) else (0, M)) := by
  have hr := rm_29 t
  unfold f_Text_append
  rw [hn, ln_t ht, ← nI_lit]
  by_cases c : n < rm t
  · rw [if_pos ((nI_ltI (by omega) (by omega)).mpr c), if_pos (gin_t c (by omega)), bn, bn, if_pos c, nI_clamp (by omega), ms_c _ _ (by omega), hn, nI_1]
    show some (1, mset (mset M (13 + 2 * t + 1) n b) (13 + 2 * t) 1 (nI (n + 1))) = _
    rw [show 13 + 2 * t + 1 = 14 + 2 * t by omega]
  · rw [if_neg (fun q => c ((nI_ltI (by omega) (by omega)).mp q)), if_neg c]
/-- one byte more: the reference -/
theorem m_type {M : Mem} {t n : Nat} {b : Int32} (ht : t < 3) (hn : M 92 t = nI n) (hle : n ≤ rm t) (hb : ¬ f_Mo_in b 0 255 = 0) : f_Mo_type M (nI t) b = some (if n < rm t then (nI (n + 1), mset (mset M 93 (30 * t + n) b) 92 t (nI (n + 1))) else (-4, M)) := by
  have hr := rm_29 t
  have hg : gin (nI t) 3 := gin_t ht (by decide)
  have w2' : ¬ f_Mo_isText (nI t) = 0 := by
    have : f_Mo_isText (nI t) = if nI t < 0 ∨ 2 < nI t then 0 else 1 := inb _ _ _
    rw [this, if_neg]
    · decide
    · rintro (q | q)
      · exact nI_pos (by omega) q
      · rw [show (2 : Int32) = nI 2 from rfl, nI_ltI (by decide) (by omega)] at q; omega
  unfold f_Mo_type
  rw [if_neg w2', if_neg hb]
  simp only [if_pos hg]
  have ec : (nI t).toNatClampNeg = t := nI_clamp (by omega)
  simp only [ec, hn, room_t ht, show (30 : Int32) = nI 30 from rfl, mul_add_nI]
  by_cases c : n < rm t
  · rw [if_neg (nI_ne (by omega) (by omega) (by omega)), if_pos (gin_t (by omega) (by decide)), bn, bn, if_pos c, nI_clamp (by omega), ms_c _ _ (show (92 : Nat) ≠ 93 by decide), hn, nI_1, ms_s]
  · have e : n = rm t := by omega
    rw [if_pos (by rw [e]), if_neg c]
theorem op_type (h : IV D M) (a b : Int32) : OK2 (f_U_type M a b) (fun M1 => f_Mo_type M1 a b) := by
  rcases wi a (n := 3) (by decide) (by decide) with ⟨w1, w2⟩ | ⟨t, ht, rfl, w1, w2⟩
  · exact ⟨-2, M, M, by unfold f_U_type; rw [show f_U_within a 3 = 0 from w1, if_pos rfl]; rfl, by show f_Mo_type M a b = _; unfold f_Mo_type; rw [show f_Mo_isText a = 0 from w2, if_pos rfl]; rfl, D, h⟩
  · have w1' : ¬ f_U_within (nI t) 3 = 0 := w1
    have w2' : ¬ f_Mo_isText (nI t) = 0 := w2
    by_cases hb : f_Mo_in b 0 255 = 0
    · exact ⟨-2, M, M, by unfold f_U_type; rw [if_neg w1', isByte_eq, hb, if_pos rfl]; rfl, by show f_Mo_type M (nI t) b = _; unfold f_Mo_type; rw [if_neg w2', hb, if_pos rfl]; rfl, D, h⟩
    · obtain ⟨s1, s2, s3, s4⟩ := h.sz ht
      have hr := rm_29 t
      have hg : gin (nI t) 3 := gin_t ht (by decide)
      have ha := c_append (b := b) ht s1 s3
      by_cases c : D.1 t < rm t
      · rw [if_pos c] at ha
        obtain ⟨M2, a1, a2, a3, a4⟩ := IV_chg (M1 := mset (mset M (14 + 2 * t) (D.1 t) b) (13 + 2 * t) 1 (nI (D.1 t + 1))) (n' := D.1 t + 1) h ht (by omega) (ms_s _ _ _ _) ((Out.set (P := fun c k => (c = 13 + 2 * t ∧ k = 1) ∨ c = 14 + 2 * t) (Or.inr rfl)).trans (Out.set (Or.inl ⟨rfl, rfl⟩)))
        have e92 : M2 92 t = nI (D.1 t) := by rw [a3 92 t (by omega), ms_c _ _ (by omega), ms_c _ _ (by omega), s2]
        have hm := m_type (b := b) ht e92 s3 hb
        rw [if_pos c] at hm
        refine ⟨nI (D.1 t + 1), M2, mset (mset M2 93 (30 * t + D.1 t) b) 92 t (nI (D.1 t + 1)), ?_, hm, a4 _ ((Out.set (P := fun c k => (c = 92 ∧ k = t) ∨ (c = 93 ∧ 30 * t ≤ k ∧ k < 30 * t + 30)) (Or.inr ⟨rfl, by omega, by omega⟩)).trans (Out.set (Or.inl ⟨rfl, rfl⟩))) (ms_s _ _ _ _) (fun k hk => ?_)⟩
        · unfold f_U_type
          rw [if_neg w1', isByte_eq, if_neg hb]; simp only [if_pos hg]; rw [nI_clamp (by omega), ha, Option.bind_some, if_neg (show ¬ (1 : Int32) = 0 by decide), a1, Option.bind_some, a2]
        · rw [ms_c _ _ (show (93 : Nat) ≠ 92 by decide), ms_c _ _ (show 14 + 2 * t ≠ 13 + 2 * t by omega)]
          by_cases e : k = D.1 t
          · rw [e, ms_s, ms_s]
          · rw [ms_k _ _ (by omega), ms_k _ _ e, a3 93 _ (by omega), ms_c _ _ (by omega), ms_c _ _ (by omega)]
            exact s4 k (by omega)
      · rw [if_neg c] at ha
        have hm := m_type (b := b) ht s2 s3 hb
        rw [if_neg c] at hm
        refine ⟨-4, M, M, ?_, hm, D, h⟩
        unfold f_U_type
        rw [if_neg w1', isByte_eq, if_neg hb]; simp only [if_pos hg]; rw [nI_clamp (by omega), ha, Option.bind_some, if_pos rfl]
-- read
def rdn (it : Nat → Int32) (r : Nat) : Nat → Nat → Nat → (Nat → Int32) → Nat × Nat × (Nat → Int32)
  | 0, i, n, b => (i, n, b)
  | d + 1, i, n, b => if f_Mo_in (it i) 0 255 = 0 then (i, n, b) else if n < r then rdn it r d (i + 1) (n + 1) (fun k => if k = n then it i else b k) else (i, n, b)
theorem rdn_le {it : Nat → Int32} {r : Nat} : ∀ (d i n : Nat) (b : Nat → Int32), n ≤ r → (rdn it r d i n b).2.1 ≤ r ∧ (rdn it r d i n b).1 ≤ i + d := by
  intro d
  induction d with
  | zero => intro i n b h; exact ⟨h, Nat.le_refl _⟩
  | succ d ih =>
    intro i n b h
    unfold rdn
    split
    · exact ⟨h, by show i ≤ i + (d + 1); omega⟩
    · split
      · have := ih (i + 1) (n + 1) (fun k => if k = n then it i else b k) (by omega)
        exact ⟨this.1, by have := this.2; omega⟩
      · exact ⟨h, by show i ≤ i + (d + 1); omega⟩
theorem c_readL {t s z : Nat} {it : Nat → Int32} (ht : t < 3) (hs : s < 4) (hz : z ≤ 60) : ∀ (d i fuel n : Nat) (M : Mem), d + i = z → d < fuel → M (19 + 2 * s) 2 = nI z → (∀ k, k < 60 → M (20 + 2 * s) k = it k) → M (13 + 2 * t) 1 = nI n → n ≤ rm t →
    ∃ M', f_Text_appendFrom_l2 (13 + 2 * t) (19 + 2 * s) fuel (nI i) M = some (nI (rdn it (rm t) d i n (M (14 + 2 * t))).1, M') ∧ M' (13 + 2 * t) 1 = nI (rdn it (rm t) d i n (M (14 + 2 * t))).2.1 ∧ M' (14 + 2 * t) = (rdn it (rm t) d i n (M (14 + 2 * t))).2.2 ∧ Out (fun c k => (c = 13 + 2 * t ∧ k = 1) ∨ c = 14 + 2 * t) M M' := by
  intro d
  induction d with
  | zero =>
    intro i fuel n M hi hf h1 h2 h3 h4
    obtain ⟨k, rfl⟩ : ∃ k, fuel = k + 1 := ⟨fuel - 1, by omega⟩
    have e : i = z := by omega
    refine ⟨M, ?_, h3, rfl, Out.rfl⟩
    show f_Text_appendFrom_l2B _ _ _ _ _ = _
    unfold f_Text_appendFrom_l2B
    rw [h1, e, if_pos (Int32.le_refl _)]
    rfl
  | succ d ih =>
    intro i fuel n M hi hf h1 h2 h3 h4
    obtain ⟨k, rfl⟩ : ∃ k, fuel = k + 1 := ⟨fuel - 1, by omega⟩
    have hit : M (19 + 2 * s + 1) i = it i := by rw [show 19 + 2 * s + 1 = 20 + 2 * s by omega]; exact h2 i (by omega)
    have hg : gin (nI i) 60 := gin_t (by omega) (by decide)
    have er : rdn it (rm t) (d + 1) i n (M (14 + 2 * t)) = if f_Mo_in (it i) 0 255 = 0 then (i, n, M (14 + 2 * t)) else if n < rm t then rdn it (rm t) d (i + 1) (n + 1) (fun k => if k = n then it i else M (14 + 2 * t) k) else (i, n, M (14 + 2 * t)) := rfl
    rw [er]
    show ∃ M', f_Text_appendFrom_l2B _ _ _ _ _ = _ ∧ _
    unfold f_Text_appendFrom_l2B f_Text_appendFrom_b35
    rw [h1, if_neg (nle (by omega) (by omega))]
    simp only [if_pos hg]
    rw [nI_clamp (by omega), hit, isByte_eq]
    by_cases c1 : f_Mo_in (it i) 0 255 = 0
    · rw [if_pos c1, if_pos c1]
      exact ⟨M, rfl, h3, rfl, Out.rfl⟩
    · rw [if_neg c1, if_neg c1, c_append ht h3 h4, Option.bind_some]
      by_cases c2 : n < rm t
      · rw [if_pos c2, if_pos c2, if_neg (show ¬ (1 : Int32) = 0 by decide), nI_1]
        have hO : Out (fun c k => (c = 13 + 2 * t ∧ k = 1) ∨ c = 14 + 2 * t) M (mset (mset M (14 + 2 * t) n (it i)) (13 + 2 * t) 1 (nI (n + 1))) := (Out.set (Or.inr rfl)).trans (Out.set (Or.inl ⟨rfl, rfl⟩))
        have e14 : mset (mset M (14 + 2 * t) n (it i)) (13 + 2 * t) 1 (nI (n + 1)) (14 + 2 * t) = fun k => if k = n then it i else M (14 + 2 * t) k := by
          funext q
          rw [ms_c _ _ (by omega), ms, if_pos rfl]
        obtain ⟨M', b1, b2, b3, b4⟩ := ih (i + 1) k (n + 1) (mset (mset M (14 + 2 * t) n (it i)) (13 + 2 * t) 1 (nI (n + 1))) (by omega) (by omega) (by rw [hO _ _ (by omega)]; exact h1) (fun q hq => by rw [hO _ _ (by omega)]; exact h2 q hq) (ms_s _ _ _ _) (by omega)
        rw [e14] at b1 b2 b3
        exact ⟨M', b1, b2, b3, hO.trans b4⟩
      · rw [if_neg c2, if_neg c2, if_pos rfl]
        exact ⟨M, rfl, h3, rfl, Out.rfl⟩
theorem m_readL {t s z : Nat} {it : Nat → Int32} (ht : t < 3) (hs : s < 4) (hz : z ≤ 60) : ∀ (d i fuel n : Nat) (b : Nat → Int32) (M : Mem), d + i = z → d < fuel → M 121 s = nI z → (∀ k, k < 60 → M 122 (60 * s + k) = it k) → M 92 t = nI n → n ≤ rm t → (∀ k, k < n → M 93 (30 * t + k) = b k) →
    ∃ M', f_Mo_read_l34 fuel (nI t) (nI s) (nI i) M = some (nI (rdn it (rm t) d i n b).1, M') ∧ M' 92 t = nI (rdn it (rm t) d i n b).2.1 ∧ (∀ k, k < (rdn it (rm t) d i n b).2.1 → M' 93 (30 * t + k) = (rdn it (rm t) d i n b).2.2 k) ∧ Out (fun c k => (c = 92 ∧ k = t) ∨ (c = 93 ∧ 30 * t ≤ k ∧ k < 30 * t + 30)) M M' := by
  have hr := rm_29 t
  have hgs : gin (nI s) 4 := gin_t hs (by decide)
  intro d
  induction d with
  | zero =>
    intro i fuel n b M hi hf h1 h2 h3 h4 h5
    obtain ⟨k, rfl⟩ : ∃ k, fuel = k + 1 := ⟨fuel - 1, by omega⟩
    have e : i = z := by omega
    refine ⟨M, ?_, h3, h5, Out.rfl⟩
    show f_Mo_read_l34B _ _ _ _ _ = _
    unfold f_Mo_read_l34B f_Mo_read_b69
    rw [if_pos hgs, nI_clamp (by omega), h1, e, if_pos (Int32.le_refl _)]
    rfl
  | succ d ih =>
    intro i fuel n b M hi hf h1 h2 h3 h4 h5
    obtain ⟨k, rfl⟩ : ∃ k, fuel = k + 1 := ⟨fuel - 1, by omega⟩
    have er : rdn it (rm t) (d + 1) i n b = if f_Mo_in (it i) 0 255 = 0 then (i, n, b) else if n < rm t then rdn it (rm t) d (i + 1) (n + 1) (fun k => if k = n then it i else b k) else (i, n, b) := rfl
    rw [er]
    show ∃ M', f_Mo_read_l34B _ _ _ _ _ = _ ∧ _
    unfold f_Mo_read_l34B f_Mo_read_b69
    rw [if_pos hgs, nI_clamp (n := s) (by omega), h1, if_neg (nle (by omega) (by omega)), show (60 : Int32) = nI 60 from rfl, mul_add_nI, if_pos (gin_t (by omega) (by decide)), nI_clamp (by omega), h2 i (by omega)]
    by_cases c1 : f_Mo_in (it i) 0 255 = 0
    · have hty : f_Mo_type M (nI t) (it i) = some (-2, M) := by
        unfold f_Mo_type f_Mo_type_b18
        by_cases q : f_Mo_isText (nI t) = 0
        · rw [if_pos q]
        · rw [if_neg q, if_pos c1]
      rw [if_pos c1, hty, Option.bind_some, if_pos (show (-2 : Int32) ≤ 0 by decide)]
      exact ⟨M, rfl, h3, h5, Out.rfl⟩
    · rw [if_neg c1, m_type ht h3 h4 c1, Option.bind_some]
      by_cases c2 : n < rm t
      · rw [if_pos c2, if_pos c2, if_neg (show ¬ nI (n + 1) ≤ 0 from nI_nle (by omega) (by omega)), nI_1]
        have hO : Out (fun c k => (c = 92 ∧ k = t) ∨ (c = 93 ∧ 30 * t ≤ k ∧ k < 30 * t + 30)) M (mset (mset M 93 (30 * t + n) (it i)) 92 t (nI (n + 1))) := (Out.set (P := fun c k => (c = 92 ∧ k = t) ∨ (c = 93 ∧ 30 * t ≤ k ∧ k < 30 * t + 30)) (Or.inr ⟨rfl, by omega, by omega⟩)).trans (Out.set (Or.inl ⟨rfl, rfl⟩))
        obtain ⟨M', b1, b2, b3, b4⟩ := ih (i + 1) k (n + 1) (fun k => if k = n then it i else b k) (mset (mset M 93 (30 * t + n) (it i)) 92 t (nI (n + 1))) (by omega) (by omega) (by rw [hO _ _ (by omega)]; exact h1) (fun q hq => by rw [hO _ _ (by omega)]; exact h2 q hq) (ms_s _ _ _ _) (by omega) (fun q hq => by
          rw [ms_c _ _ (show (93 : Nat) ≠ 92 by decide)]
          by_cases e : q = n
          · rw [e, ms_s, if_pos rfl]
          · rw [ms_k _ _ (by omega), if_neg e]; exact h5 q (by omega))
        exact ⟨M', b1, b2, b3, hO.trans b4⟩
      · rw [if_neg c2, if_neg c2, if_pos (show (-4 : Int32) ≤ 0 by decide)]
        exact ⟨M, rfl, h3, h5, Out.rfl⟩
end TX
