-- ===== the law's loop =====
theorem lw_ok {q : Option (Int32 × Mem)} {r : Mem → Option (Int32 × Mem)} {K : Mem → Option (Int32 × Mem)} (h : OK2 q r) (hK : ∀ M, (∃ D, IV D M) → ∃ M', K M = some (1, M')) : ∃ M', (q.bind fun a => (r a.2).bind fun b => if a.1 = b.1 then K b.2 else some (0, b.2)) = some (1, M') := by
  obtain ⟨v, M1, M2, e1, e2, hI⟩ := h
  obtain ⟨M', e3⟩ := hK M2 hI
  refine ⟨M', ?_⟩
  rw [e1, Option.bind_some]
  show (r M1).bind _ = _
  rw [e2, Option.bind_some]
  show (if v = v then K M2 else some (0, M2)) = _
  rw [if_pos rfl, e3]
theorem lw_v {q : Option Int32} {r : Option (Int32 × Mem)} {K : Mem → Option (Int32 × Mem)} (h : ∃ v M2, q = some v ∧ r = some (v, M2) ∧ ∃ D, IV D M2) (hK : ∀ M, (∃ D, IV D M) → ∃ M', K M = some (1, M')) : ∃ M', (q.bind fun a => r.bind fun b => if a = b.1 then K b.2 else some (0, b.2)) = some (1, M') := by
  obtain ⟨v, M2, e1, e2, hI⟩ := h
  obtain ⟨M', e3⟩ := hK M2 hI
  refine ⟨M', ?_⟩
  rw [e1, Option.bind_some, e2, Option.bind_some]
  show (if v = v then K M2 else some (0, M2)) = _
  rw [if_pos rfl, e3]
set_option maxHeartbeats 8000000 in
theorem lw_step {L : Nat} {xs : Nat → Int32} {i : Nat} {M : Mem} (hL : L ≤ 3072) (hi : i + 6 ≤ L) (hI : ∃ D, IV D M) (k18 : Int32 → Mem → Option (Int32 × Mem)) (hK : ∀ M, (∃ D, IV D M) → ∃ M', k18 (nI (i + 6)) M = some (1, M')) : ∃ M', f_L_l18B L xs k18 (nI i) M = some (1, M') := by
  obtain ⟨D, h⟩ := hI
  have hK2 : ∀ M, (∃ D, IV D M) → ∃ M', f_L_b911 L xs k18 (nI i) M = some (1, M') := fun M hM => by
    obtain ⟨M', e⟩ := hK M hM
    refine ⟨M', ?_⟩
    rw [← e]
    unfold f_L_b911
    rw [show (6 : Int32) = nI 6 from rfl, nI_add]
  have g0 : gin (nI i) L := gin_t (by omega) (by omega)
  have g1 : gin (nI i + 1) L := by rw [show (1 : Int32) = nI 1 from rfl, nI_add]; exact gin_t (by omega) (by omega)
  have g2 : gin (nI i + 2) L := by rw [show (2 : Int32) = nI 2 from rfl, nI_add]; exact gin_t (by omega) (by omega)
  have g3 : gin (nI i + 3) L := by rw [show (3 : Int32) = nI 3 from rfl, nI_add]; exact gin_t (by omega) (by omega)
  have g4 : gin (nI i + 4) L := by rw [show (4 : Int32) = nI 4 from rfl, nI_add]; exact gin_t (by omega) (by omega)
  have g5 : gin (nI i + 5) L := by rw [show (5 : Int32) = nI 5 from rfl, nI_add]; exact gin_t (by omega) (by omega)
  have hlen : ¬ (Int32.ofNat L) - 6 < nI i := by
    rw [← nI_lit, show (6 : Int32) = nI 6 from rfl, pk_sub (by omega), nI_ltI (by omega) (by omega)]
    omega
  unfold f_L_l18B
  rw [if_neg hlen]
  simp only [if_pos g0, if_pos g1, if_pos g2, if_pos g3, if_pos g4, if_pos g5]
  generalize (xs (nI i).toNatClampNeg &&& 31) = op
  generalize xs (nI i + 1).toNatClampNeg = x1
  generalize xs (nI i + 2).toNatClampNeg = x2
  generalize xs (nI i + 3).toNatClampNeg = x3
  generalize xs (nI i + 4).toNatClampNeg = x4
  generalize xs (nI i + 5).toNatClampNeg = x5
  by_cases c0 : op = 0
  · rw [if_pos c0]
    exact lw_ok (op_type h x1 x2) hK2
  rw [if_neg c0]
  by_cases c1 : op = 1
  · rw [if_pos c1]
    exact lw_ok (op_wipe h x1) hK2
  rw [if_neg c1]
  by_cases c2 : op = 2
  · rw [if_pos c2]
    exact lw_ok (op_undo h x1) hK2
  rw [if_neg c2]
  by_cases c3 : op = 3
  · rw [if_pos c3]
    obtain ⟨M2, e2, hJ⟩ := op_fault h x1
    obtain ⟨M', e3⟩ := hK2 M2 hJ
    refine ⟨M', ?_⟩
    rw [e2, Option.bind_some, if_pos rfl, e3]
  rw [if_neg c3]
  by_cases c4 : op = 4
  · rw [if_pos c4]
    exact lw_v (op_row h x1 x2 x3) hK2
  rw [if_neg c4]
  by_cases c5 : op = 5
  · rw [if_pos c5]
    exact lw_v (op_step h x1 x2) hK2
  rw [if_neg c5]
  by_cases c6 : op = 6
  · rw [if_pos c6]
    obtain ⟨e2, hJ⟩ := op_end h x1
    obtain ⟨M', e3⟩ := hK2 _ hJ
    refine ⟨M', ?_⟩
    rw [bn, bn, if_pos e2, e3]
  rw [if_neg c6]
  by_cases c7 : op = 7
  · rw [if_pos c7]
    exact lw_ok (op_error h x1) hK2
  rw [if_neg c7]
  by_cases c8 : op = 8
  · rw [if_pos c8]
    exact lw_ok (op_answer h x1 x2) hK2
  rw [if_neg c8]
  by_cases c9 : op = 9
  · rw [if_pos c9]
    exact lw_ok (op_same h ) hK2
  rw [if_neg c9]
  by_cases c10 : op = 10
  · rw [if_pos c10]
    exact lw_ok (op_total h ) hK2
  rw [if_neg c10]
  by_cases c11 : op = 11
  · rw [if_pos c11]
    exact lw_v (op_speaks h ) hK2
  rw [if_neg c11]
  by_cases c12 : op = 12
  · rw [if_pos c12]
    exact lw_ok (op_domain h x1 x2) hK2
  rw [if_neg c12]
  by_cases c13 : op = 13
  · rw [if_pos c13]
    exact lw_ok (op_plan h x1) hK2
  rw [if_neg c13]
  by_cases c14 : op = 14
  · rw [if_pos c14]
    exact lw_ok (op_cost h x1 x2) hK2
  rw [if_neg c14]
  by_cases c15 : op = 15
  · rw [if_pos c15]
    exact lw_ok (op_log h x1 x2) hK2
  rw [if_neg c15]
  by_cases c16 : op = 16
  · rw [if_pos c16]
    exact lw_ok (op_spare h ) hK2
  rw [if_neg c16]
  by_cases c17 : op = 17
  · rw [if_pos c17]
    exact lw_ok (op_sheet h x1 x2 x3) hK2
  rw [if_neg c17]
  by_cases c18 : op = 18
  · rw [if_pos c18]
    exact lw_ok (op_lose h x1) hK2
  rw [if_neg c18]
  by_cases c19 : op = 19
  · rw [if_pos c19]
    exact lw_ok (op_put h x1 x2 x3 x4) hK2
  rw [if_neg c19]
  by_cases c20 : op = 20
  · rw [if_pos c20]
    exact lw_ok (op_get h x1 x2 x3) hK2
  rw [if_neg c20]
  by_cases c21 : op = 21
  · rw [if_pos c21]
    exact lw_ok (op_copy h x1 x2 x3 x4 x5) hK2
  rw [if_neg c21]
  by_cases c22 : op = 22
  · rw [if_pos c22]
    exact lw_ok (op_write h x1 x2) hK2
  rw [if_neg c22]
  by_cases c23 : op = 23
  · rw [if_pos c23]
    exact lw_ok (op_read h x1 x2) hK2
  rw [if_neg c23]
  by_cases c24 : op = 24
  · rw [if_pos c24]
    exact lw_ok (op_count h x1) hK2
  rw [if_neg c24]
  by_cases c25 : op = 25
  · rw [if_pos c25]
    obtain ⟨v, M1, M2, e1, e2, hJ⟩ := op_digest h
    obtain ⟨M', e3⟩ := hK2 M2 hJ
    refine ⟨M', ?_⟩
    rw [e1, Option.bind_some]
    show (f_Mo_digest M1).bind _ = _
    rw [e2, Option.bind_some]
    show (if lg_cmp v v = 0 then f_L_b911 L xs k18 (nI i) M2 else some (0, M2)) = _
    rw [if_pos ((lg_cmp_eq v v).mpr rfl), e3]
  rw [if_neg c25]
  exact hK2 M ⟨D, h⟩
theorem lw_end {L : Nat} {xs : Nat → Int32} {i : Nat} {M : Mem} (hL : L ≤ 3072) (hi : L < i + 6) (hi2 : i ≤ 3072) (k18 : Int32 → Mem → Option (Int32 × Mem)) : f_L_l18B L xs k18 (nI i) M = some (1, M) := by
  unfold f_L_l18B
  rw [if_pos]
  rw [i_lt, ← nI_lit, sub_toInt (by rw [nI_toInt (by omega), show (6 : Int32).toInt = 6 by decide]; omega) (by rw [nI_toInt (by omega), show (6 : Int32).toInt = 6 by decide]; omega), nI_toInt (by omega), nI_toInt (by omega), show (6 : Int32).toInt = 6 by decide]
  omega
theorem lw_loop {L : Nat} {xs : Nat → Int32} (hL : L ≤ 3072) : ∀ (d i fuel : Nat) (M : Mem), L < d * 6 + i + 6 → i ≤ L → d < fuel → (∃ D, IV D M) → ∃ M', f_L_l18 L xs fuel (nI i) M = some (1, M') := by
  intro d
  induction d with
  | zero =>
    intro i fuel M h1 h2 hf hI
    obtain ⟨k, rfl⟩ : ∃ k, fuel = k + 1 := ⟨fuel - 1, by omega⟩
    exact ⟨M, lw_end hL (by omega) (by omega) _⟩
  | succ d ih =>
    intro i fuel M h1 h2 hf hI
    obtain ⟨k, rfl⟩ : ∃ k, fuel = k + 1 := ⟨fuel - 1, by omega⟩
    by_cases c : i + 6 ≤ L
    · exact lw_step hL c hI _ (fun M hM => ih (i + 6) k M (by omega) c (by omega) hM)
    · exact ⟨M, lw_end hL (by omega) (by omega) _⟩
def D0 : DT := (fun _ => 0, fun _ _ => 0, 0)
theorem IV0 : IV D0 M0 := by
  refine ⟨⟨by decide, by decide, by decide, by decide⟩, ⟨rfl, ⟨fun j hj => absurd hj (Nat.not_lt_zero j), fun j hj => absurd hj (Nat.not_lt_zero j)⟩, rfl, rfl, ⟨fun j hj => absurd hj (Nat.not_lt_zero j), fun j hj => absurd hj (Nat.not_lt_zero j)⟩, rfl, ⟨rfl, rfl, ⟨fun j hj => absurd hj (Nat.not_lt_zero j), fun j hj => absurd hj (Nat.not_lt_zero j)⟩⟩, rfl⟩, ⟨rfl, rfl, rfl⟩, fun t ht k hk => absurd hk (Nat.not_lt_zero k), ⟨⟨rfl, fun k hk => absurd hk (Nat.not_lt_zero k)⟩, ⟨rfl, fun k hk => absurd hk (Nat.not_lt_zero k)⟩, ⟨rfl, fun k hk => absurd hk (Nat.not_lt_zero k)⟩, rfl⟩, fun q => absurd q (by decide), rfl, fun s hs => Or.inl ?_⟩
  have hc : s = 0 ∨ s = 1 ∨ s = 2 ∨ s = 3 := by omega
  rcases hc with rfl | rfl | rfl | rfl <;> exact ⟨rfl, rfl⟩
theorem pure_law (L : Nat) (xs : Nat → Int32) (hL : L ≤ 3072) : ∃ M' : Mem, f_L_l18 L xs FU 0 M0 = some (1, M') :=
  lw_loop hL 512 0 FU M0 (by omega) (Nat.zero_le _) fu_lt ⟨D0, IV0⟩
