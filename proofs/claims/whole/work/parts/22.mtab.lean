-- ===== the reference's reading of a table =====
/-- text t of the reference has n bytes b -/
def MT (M : Mem) (t n : Nat) (b : Nat → Int32) : Prop := M 92 t = nI n ∧ ∀ k, k < n → M 93 (30 * t + k) = b k
theorem m_byteAt {M : Mem} {t n k : Nat} {b : Nat → Int32} (h : MT M t n b) (ht : t < 3) (hn : n ≤ 29) (hk : k < 60) : f_Mo_byteAt M (nI t) (nI k) = some (if n ≤ k then -1 else b k) := by
  have e : (30 : Int32) * nI t + nI k = nI (30 * t + k) := by rw [show (30 : Int32) = nI 30 from rfl, pk_mul, nI_add]
  unfold f_Mo_byteAt
  rw [if_pos (gin_t ht (by decide)), nI_clamp (by omega), h.1, e]
  have e2 : (nI n ≤ nI k) ↔ n ≤ k := nI_leI (by omega) (by omega)
  by_cases hc : n ≤ k
  · rw [if_pos (e2.mpr hc), if_pos hc]
  · rw [if_neg (fun q => hc (e2.mp q)), if_neg hc, if_pos (gin_t (by omega) (by decide)), nI_clamp (by omega), h.2 k (by omega)]
/-- a byte's value; -2: it is no value -/
def vat (n : Nat) (b : Nat → Int32) (k : Nat) : Int32 := if n ≤ k then -2 else if b k = 45 then -1 else if b k < 48 ∨ 57 < b k then -2 else b k - 48
theorem inb (x lo hi : Int32) : f_Mo_in x lo hi = if x < lo ∨ hi < x then 0 else 1 := by
  unfold f_Mo_in f_Mo_in_b14
  by_cases h1 : x < lo
  · rw [if_pos h1, if_pos (Or.inl h1)]
  · rw [if_neg h1]
    by_cases h2 : hi < x
    · rw [if_pos h2, if_pos (Or.inr h2)]
    · rw [if_neg h2, if_neg (fun q => q.elim h1 h2)]
theorem m_valueAt {M : Mem} {t n k : Nat} {b : Nat → Int32} (h : MT M t n b) (ht : t < 3) (hn : n ≤ 29) (hk : k < 60) : f_Mo_valueAt M (nI t) (nI k) = some (vat n b k) := by
  unfold f_Mo_valueAt vat
  rw [m_byteAt h ht hn hk, Option.bind_some]
  by_cases hc : n ≤ k
  · rw [if_pos hc, if_pos hc, if_neg (by decide), inb, if_pos (Or.inl (by decide)), if_pos rfl]
  · rw [if_neg hc, if_neg hc]
    by_cases h1 : b k = 45
    · rw [if_pos h1, if_pos h1]
    · rw [if_neg h1, if_neg h1, inb]
      by_cases h2 : b k < 48 ∨ 57 < b k
      · rw [if_pos h2, if_pos rfl, if_pos h2]
      · rw [if_neg h2, if_neg (by decide), if_neg h2]
theorem sub48 {c : Int32} (h1 : ¬ (c < 48 ∨ 57 < c)) : 0 ≤ (c - 48).toInt ∧ (c - 48).toInt ≤ 9 := by
  have a1 : ¬ c < 48 := fun q => h1 (Or.inl q)
  have a2 : ¬ 57 < c := fun q => h1 (Or.inr q)
  rw [i_lt] at a1 a2
  have e1 : (48 : Int32).toInt = 48 := by decide
  have e2 : (57 : Int32).toInt = 57 := by decide
  rw [sub_toInt (by omega) (by omega)]
  omega
theorem vat_bad {n : Nat} {b : Nat → Int32} {k : Nat} : vat n b k = -2 ↔ n ≤ k ∨ ((b k < 48 ∨ 57 < b k) ∧ ¬ b k = 45) := by
  unfold vat
  by_cases hc : n ≤ k
  · simp [hc]
  · by_cases h1 : b k = 45
    · rw [if_neg hc, if_pos h1]
      constructor
      · intro q; exact absurd q (by decide)
      · rintro (q | q)
        · exact absurd q hc
        · exact absurd h1 q.2
    · by_cases h2 : b k < 48 ∨ 57 < b k
      · rw [if_neg hc, if_neg h1, if_pos h2]
        exact ⟨fun _ => Or.inr ⟨h2, h1⟩, fun _ => rfl⟩
      · rw [if_neg hc, if_neg h1, if_neg h2]
        constructor
        · intro q
          have := (sub48 h2).1
          rw [q] at this
          exact absurd this (by decide)
        · rintro (q | q)
          · exact absurd q hc
          · exact absurd q.1 h2
theorem vat_val {n : Nat} {b : Nat → Int32} {k : Nat} (h : ¬ vat n b k = -2) : vat n b k = tval (b k) := by
  have h2 := fun q => h (vat_bad.mpr q)
  unfold vat tval
  rw [if_neg (fun q => h2 (Or.inl q))]
  by_cases h1 : b k = 45
  · rw [if_pos h1, if_pos h1]
  · rw [if_neg h1, if_neg h1, if_neg (fun q => h2 (Or.inr ⟨q, h1⟩))]

/-- what reading table t may change -/
def RdP (t c k : Nat) : Prop := (c = 95 ∧ k = t) ∨ ((c = 96 ∨ c = 97) ∧ 10 * t ≤ k ∧ k < 10 * t + 10)
theorem tfF_bad {b : Nat → Int32} {n f i : Nat} (h : tbad b i) : tfF b n (f + 1) i = nI i := by rw [tfF_s, if_pos h]
theorem tfF_ok {b : Nat → Int32} {n f i : Nat} (h : ¬ tbad b i) : tfF b n (f + 1) i = tfF b n f (i + 1) := by rw [tfF_s, if_neg h]
theorem m_table {t n : Nat} {b : Nat → Int32} (ht : t < 2) (hle : n ≤ 29) : ∀ (d r fuel : Nat) (M : Mem), n + 3 - 3 * r = d → 3 * r ≤ n → d < fuel → MT M t n b → tfault b n = tfF b n (n - 3 * r) (3 * r) → M 95 t = 0 → (∀ i, i < r → M 96 (10 * t + i) = tval (b (3 * i)) ∧ M 97 (10 * t + i) = tval (b (3 * i + 1))) →
    ∃ M', f_Mo_readsTable_l11 fuel (nI t) (nI r) (nI (3 * r)) M = some (tfault b n, M') ∧ M' 95 t = nI (trows b n) ∧ (∀ i, i < trows b n → M' 96 (10 * t + i) = tval (b (3 * i)) ∧ M' 97 (10 * t + i) = tval (b (3 * i + 1))) ∧ Out (RdP t) M M' := by
  intro d
  induction d using Nat.strongRecOn with
  | _ d ih =>
  intro r fuel M hd hr hf hM hfl h95 hrow
  obtain ⟨g, rfl⟩ : ∃ g, fuel = g + 1 := ⟨fuel - 1, by omega⟩
  have step : f_Mo_readsTable_l11 (g + 1) (nI t) (nI r) (nI (3 * r)) M = f_Mo_readsTable_l11B (f_Mo_readsTable_l11 g) (nI t) (nI r) (nI (3 * r)) M := rfl
  have bad0 : ∀ x : Int32, ¬ x = -1 → tfault b n = x → trows b n = 0 := fun x hx e => by unfold trows; rw [if_neg (by rw [e]; exact hx)]
  -- an end with a fault
  have endF : ∀ x : Nat, x < 100 → tfault b n = nI x → f_Mo_readsTable_l11 (g + 1) (nI t) (nI r) (nI (3 * r)) M = some (nI x, M) → ∃ M', f_Mo_readsTable_l11 (g + 1) (nI t) (nI r) (nI (3 * r)) M = some (tfault b n, M') ∧ M' 95 t = nI (trows b n) ∧ (∀ i, i < trows b n → M' 96 (10 * t + i) = tval (b (3 * i)) ∧ M' 97 (10 * t + i) = tval (b (3 * i + 1))) ∧ Out (RdP t) M M' := fun x hx e e2 => by
    have h0 := bad0 (nI x) (nI_nm1 (by omega)) e
    refine ⟨M, by rw [e2, e], by rw [h95, h0]; rfl, fun i hi => ?_, Out.rfl⟩
    rw [h0] at hi
    exact absurd hi (Nat.not_lt_zero i)
  have hbr : f_Mo_readsTable_l11 (g + 1) (nI t) (nI r) (nI (3 * r)) M = if n = 0 then some (-1, M) else f_Mo_readsTable_b25 (f_Mo_readsTable_l11 g) (nI t) (nI r) (nI (3 * r)) M := by
    rw [step]
    unfold f_Mo_readsTable_l11B
    rw [if_pos (gin_t (by omega) (by decide)), nI_clamp (by omega), hM.1]
    have e1 : (nI (3 * r) < nI n) ↔ 3 * r < n := nI_ltI (by omega) (by omega)
    have e2 : (nI (3 * r) ≤ 0) ↔ 3 * r ≤ 0 := nI_leI (b := 0) (by omega) (by decide)
    by_cases h0 : n = 0
    · rw [if_pos h0, if_neg (fun q => by have := e1.mp q; omega), if_pos (e2.mpr (by omega))]
    · rw [if_neg h0]
      by_cases h1 : 3 * r < n
      · rw [if_pos (e1.mpr h1)]
      · rw [if_neg (fun q => h1 (e1.mp q)), if_neg (fun q => by have := e2.mp q; omega)]
  by_cases h0 : n = 0
  · subst h0
    have hz : r = 0 := by omega
    subst hz
    refine ⟨M, by rw [hbr, if_pos rfl, hfl]; rfl, by rw [h95]; unfold trows; rw [hfl]; rfl, fun i hi => ?_, Out.rfl⟩
    exfalso
    unfold trows at hi
    split at hi <;> omega
  · rw [if_neg h0] at hbr
    have a1 : nI (3 * r) + 1 = nI (3 * r + 1) := nI_1 _
    have a2 : nI (3 * r) + 2 = nI (3 * r + 2) := nI_add _ 2
    unfold f_Mo_readsTable_b25 at hbr
    rw [m_valueAt hM (by omega) hle (by omega), Option.bind_some, a1, m_valueAt hM (by omega) hle (by omega), Option.bind_some, if_neg (show ¬ nI r = 10 from nI_ne (b := 10) (by omega) (by decide) (by omega))] at hbr
    by_cases hq4 : vat n b (3 * r) = -2
    · rw [if_pos hq4] at hbr
      refine endF (3 * r) (by omega) ?_ hbr
      rw [hfl]
      rcases vat_bad.mp hq4 with q | q
      · have e : n = 3 * r := by omega
        rw [show n - 3 * r = 0 by omega, tfF_0, if_neg (by omega), ← e]
      · by_cases hn3 : n = 3 * r
        · rw [show n - 3 * r = 0 by omega, tfF_0, if_neg (by omega), ← hn3]
        · rw [show n - 3 * r = (n - 3 * r - 1) + 1 by omega, tfF_bad]
          unfold tbad
          rw [if_neg (by omega)]
          exact q
    · rw [if_neg hq4] at hbr
      have g4 := fun q => hq4 (vat_bad.mpr q)
      have hn1 : 3 * r < n := Nat.not_le.mp fun q => g4 (Or.inl q)
      have ok0 : ¬ tbad b (3 * r) := by unfold tbad; rw [if_neg (by omega)]; exact fun q => g4 (Or.inr q)
      rw [show n - 3 * r = (n - 3 * r - 1) + 1 by omega, tfF_ok ok0] at hfl
      by_cases hq5 : vat n b (3 * r + 1) = -2
      · rw [if_pos hq5] at hbr
        refine endF (3 * r + 1) (by omega) ?_ hbr
        rw [hfl]
        rcases vat_bad.mp hq5 with q | q
        · have e : n = 3 * r + 1 := by omega
          rw [show n - 3 * r - 1 = 0 by omega, tfF_0, if_neg (by omega), ← e]
        · by_cases hn3 : n = 3 * r + 1
          · rw [show n - 3 * r - 1 = 0 by omega, tfF_0, if_neg (by omega), ← hn3]
          · rw [show n - 3 * r - 1 = (n - 3 * r - 2) + 1 by omega, tfF_bad]
            unfold tbad
            rw [if_neg (by omega)]
            exact q
      · rw [if_neg hq5] at hbr
        have g5 := fun q => hq5 (vat_bad.mpr q)
        have hn2 : 3 * r + 1 < n := Nat.not_le.mp fun q => g5 (Or.inl q)
        have ok1 : ¬ tbad b (3 * r + 1) := by unfold tbad; rw [if_neg (by omega)]; exact fun q => g5 (Or.inr q)
        rw [show n - 3 * r - 1 = (n - 3 * r - 2) + 1 by omega, tfF_ok ok1] at hfl
        have a3 : (10 : Int32) * nI t + nI r = nI (10 * t + r) := by rw [show (10 : Int32) = nI 10 from rfl, pk_mul, nI_add]
        rw [a3, if_pos (gin_t (by omega) (by decide)), bn, if_pos (gin_t (by omega) (by decide)), bn, if_pos (gin_t (by omega) (by decide)), a2, vat_val hq4, vat_val hq5, nI_clamp (n := 10 * t + r) (by omega)] at hbr
        have hct : (nI t).toNatClampNeg = t := nI_clamp (by omega)
        simp only [hct] at hbr
        generalize hM2 : mset (mset M 96 (10 * t + r) (tval (b (3 * r)))) 97 (10 * t + r) (tval (b (3 * r + 1))) = M2 at hbr
        have o2 : Out (RdP t) M M2 := by
          rw [← hM2]
          exact (Out.set (Or.inr ⟨Or.inl rfl, by omega, by omega⟩)).trans (Out.set (Or.inr ⟨Or.inr rfl, by omega, by omega⟩))
        have hMT : MT M2 t n b := by
          refine ⟨?_, fun k hk => ?_⟩
          · rw [o2 92 t (by unfold RdP; omega)]; exact hM.1
          · rw [o2 93 _ (by unfold RdP; omega)]; exact hM.2 k hk
        have hrow2 : ∀ i, i < r + 1 → M2 96 (10 * t + i) = tval (b (3 * i)) ∧ M2 97 (10 * t + i) = tval (b (3 * i + 1)) := fun i hi => by
          rw [← hM2, ms_c _ _ (show (96 : Nat) ≠ 97 by decide)]
          by_cases hir : i = r
          · subst hir
            rw [ms_s, ms_s]
            exact ⟨rfl, rfl⟩
          · rw [ms_k _ _ (by omega), ms_k _ _ (by omega), ms_c _ _ (show (97 : Nat) ≠ 96 by decide)]
            exact hrow i (by omega)
        have h952 : M2 95 t = 0 := by rw [← hM2, ms_c _ _ (by decide), ms_c _ _ (by decide)]; exact h95
        rw [hMT.1] at hbr
        by_cases hn4 : 3 * r + 2 = n
        · have hb1 : nI r + 1 = nI (r + 1) := nI_1 r
          rw [if_pos (by rw [hn4]), if_pos (gin_t ht (by decide)), bn, hb1] at hbr
          have hfl2 : tfault b n = -1 := by rw [hfl, show n - 3 * r - 2 = 0 by omega, tfF_0, if_pos (by omega)]
          have hrw : trows b n = r + 1 := by unfold trows; rw [if_pos hfl2]; omega
          refine ⟨_, by rw [hbr, hfl2], by rw [ms_s, hrw], fun i hi => ?_, o2.trans (Out.set (Or.inl ⟨rfl, rfl⟩))⟩
          rw [ms_c _ _ (by decide), ms_c _ _ (by decide)]
          exact hrow2 i (by omega)
        · rw [if_neg (nI_ne (by omega) (by omega) hn4), m_byteAt hMT (by omega) hle (by omega), Option.bind_some, if_neg (show ¬ n ≤ 3 * r + 2 by omega)] at hbr
          by_cases h59 : b (3 * r + 2) = 59
          · have ok2 : ¬ tbad b (3 * r + 2) := by unfold tbad; rw [if_pos (by omega)]; exact fun q => q h59
            rw [show n - 3 * r - 2 = (n - 3 * (r + 1)) + 1 by omega, tfF_ok ok2] at hfl
            obtain ⟨M', e, h1, h2, h3⟩ := ih (n + 3 - 3 * (r + 1)) (by omega) (r + 1) g M2 rfl (by omega) (by omega) hMT hfl h952 hrow2
            refine ⟨M', ?_, h1, h2, o2.trans h3⟩
            rw [hbr, if_pos h59, nI_1, nI_1]
            exact e
          · rw [if_neg h59] at hbr
            have hx : f_Mo_readsTable_l11 (g + 1) (nI t) (nI r) (nI (3 * r)) M = some (nI (3 * r + 2), M2) := hbr
            have e : tfault b n = nI (3 * r + 2) := by
              rw [hfl, show n - 3 * r - 2 = (n - 3 * r - 3) + 1 by omega, tfF_bad]
              unfold tbad
              rw [if_pos (by omega)]
              exact h59
            have hz := bad0 _ (nI_nm1 (by omega)) e
            refine ⟨M2, by rw [hx, e], by rw [h952, hz]; rfl, fun i hi => ?_, o2⟩
            rw [hz] at hi
            exact absurd hi (Nat.not_lt_zero i)
/-- the reference's reading of table t -/
theorem m_readsTable {M : Mem} {t n : Nat} {b : Nat → Int32} (ht : t < 2) (hle : n ≤ 29) (hM : MT M t n b) : ∃ M', f_Mo_readsTable M (nI t) = some (tfault b n, M') ∧ M' 95 t = nI (trows b n) ∧ (∀ i, i < trows b n → M' 96 (10 * t + i) = tval (b (3 * i)) ∧ M' 97 (10 * t + i) = tval (b (3 * i + 1))) ∧ Out (RdP t) M M' := by
  have o1 : Out (RdP t) M (mset M 95 t 0) := Out.set (Or.inl ⟨rfl, rfl⟩)
  have hMT : MT (mset M 95 t 0) t n b := ⟨by rw [ms_c _ _ (by decide)]; exact hM.1, fun k hk => by rw [ms_c _ _ (by decide)]; exact hM.2 k hk⟩
  obtain ⟨M', e, h1, h2, h3⟩ := m_table ht hle (n + 3) 0 FU (mset M 95 t 0) rfl (by omega) (Nat.lt_trans (by omega) fu_lt) hMT rfl (ms_s _ _ _ _) (fun i hi => absurd hi (Nat.not_lt_zero i))
  refine ⟨M', ?_, h1, h2, o1.trans h3⟩
  unfold f_Mo_readsTable
  rw [if_pos (gin_t ht (by decide)), bn, nI_clamp (by omega)]
  exact e
