-- ===== memory, static world =====
/-- memory: cell number, slot: an int (a float's bits, a boolean's 0 or 1) -/
abbrev Mem : Type := Nat → Nat → Int32
def mset (M : Mem) (c k : Nat) (v : Int32) : Mem := fun i => if i = c then upd (M c) k v else M i
/-- what stands fixed: the tables' numbers, the address of each cell, the classes of arrays -/
abbrev SE : Type := va_G × (Nat → Nat) × (Nat → ClassId)
abbrev NC : Nat := 124
def kdL : List Nat := [11, 23, 24, 3, 8, 20, 20, 8, 20, 20, 7, 20, 20, 10, 20, 10, 20, 10, 20, 6, 20, 6, 20, 6, 20, 6, 20, 1, 26, 20, 20, 20, 20, 20, 20, 20, 20, 20, 20, 20, 20, 20, 20, 20, 25, 9, 9, 9, 9, 9, 9, 9, 9, 9, 9, 5, 0, 20, 20, 2, 20, 20, 20, 4, 20, 21, 20, 5, 0, 20, 20, 2, 20, 20, 20, 4, 20, 21, 20, 5, 0, 20, 20, 2, 20, 20, 20, 4, 20, 21, 20, 12, 20, 20, 20, 20, 20, 20, 20, 20, 20, 20, 20, 20, 20, 20, 20, 20, 20, 20, 20, 20, 20, 20, 20, 20, 20, 20, 20, 22, 20, 20, 20, 20]
def lnL : List Nat := [0, 3, 4, 0, 0, 10, 10, 0, 10, 10, 0, 12, 12, 0, 29, 0, 29, 0, 12, 0, 60, 0, 60, 0, 60, 0, 60, 0, 14, 220, 220, 220, 220, 220, 220, 220, 220, 220, 220, 220, 220, 220, 220, 14, 10, 0, 0, 0, 0, 0, 0, 0, 0, 0, 0, 0, 0, 14, 14, 0, 10, 10, 10, 0, 10, 10, 200, 0, 0, 14, 14, 0, 10, 10, 10, 0, 10, 10, 200, 0, 0, 14, 14, 0, 10, 10, 10, 0, 10, 10, 200, 0, 3, 90, 3, 2, 20, 20, 12, 12, 2, 20, 10, 2, 400, 300, 300, 300, 300, 300, 300, 12, 480, 480, 10, 10, 10, 20, 10, 4, 4, 4, 240, 60]
/-- what a cell is: 0 to 12 an object of that class of vwCl, 20 on an array -/
def kd (i : Nat) : Nat := kdL.getD i 99
def ln (i : Nat) : Nat := lnL.getD i 0
theorem kd_lt {i : Nat} (h : kd i ≠ 99) : i < NC := by
  rcases Nat.lt_or_ge i NC with q | q
  · exact q
  · refine absurd ?_ h
    unfold kd
    rw [List.getD_eq_getElem?_getD, List.getElem?_eq_none (by show kdL.length ≤ i; exact q)]
    rfl
def ent (ad : Nat → Nat) (cA : Nat → ClassId) (M : Mem) (i : Nat) : va_E := match kd i with
  | 0 => .inr (0, [.ref (ad (i + 1)), .ref (ad (i + 2)), .int (M i 2), .int (M i 3)])
  | 1 => .inr (1, [.ref (ad (i + 1)), .ref (ad (i + 16)), .ref (ad (i + 17))])
  | 2 => .inr (2, [.ref (ad (i + 1)), .ref (ad (i + 2)), .ref (ad (i + 3)), .int (M i 3)])
  | 3 => .inr (3, [.ref (ad (i + 1)), .ref (ad (i + 4)), .ref (ad (i + 7))])
  | 4 => .inr (4, [.ref (ad (i + 1)), .ref (ad (i + 2)), .ref (ad (i + 3)), .int (M i 3), .int (M i 4), .int (M i 5), .int (M i 6), .int (M i 7), .int (M i 8), .int (M i 9)])
  | 5 => .inr (5, [.ref (ad (i + 1)), .ref (ad (i + 4)), .ref (ad (i + 8)), .ref (ad 27), .int (M i 4), .int (M i 5)])
  | 6 => .inr (6, [.ref (ad (i + 1)), .int (M i 1), .int (M i 2)])
  | 7 => .inr (7, [.ref (ad (i + 1)), .ref (ad (i + 2)), .int (M i 2), .int (M i 3)])
  | 8 => .inr (8, [.ref (ad (i + 1)), .ref (ad (i + 2)), .int (M i 2), .int (M i 3)])
  | 9 => .inr (9, [.int (M i 0), .int (M i 1), .int (M i 2), .int (M i 3), .int (M i 4), .int (M i 5)])
  | 10 => .inr (10, [.ref (ad (i + 1)), .int (M i 1)])
  | 11 => .inr (11, [.ref (ad 1), .ref (ad 2), .ref (ad 3), .ref (ad 55), .ref (ad 67), .ref (ad 79), .int (M i 6), .int (M i 7), .int (M i 8)])
  | 12 => .inr (12, [.ref (ad (i + 1)), .ref (ad (i + 2)), .ref (ad (i + 3)), .ref (ad (i + 4)), .ref (ad (i + 5)), .ref (ad (i + 6)), .int (M i 6), .ref (ad (i + 7)), .ref (ad (i + 8)), .int (M i 9), .int (M i 10), .int (M i 11), .ref (ad (i + 9)), .ref (ad (i + 10)), .ref (ad (i + 11)), .ref (ad (i + 12)), .ref (ad (i + 13)), .int (M i 17), .ref (ad (i + 14)), .ref (ad (i + 15)), .ref (ad (i + 16)), .int (M i 21), .ref (ad (i + 17)), .ref (ad (i + 18)), .ref (ad (i + 19)), .ref (ad (i + 20)), .ref (ad (i + 21)), .ref (ad (i + 22)), .int (M i 28), .int (M i 29), .int (M i 30), .int (M i 31), .ref (ad (i + 23)), .ref (ad (i + 24)), .ref (ad (i + 25)), .int (M i 35), .ref (ad (i + 26)), .ref (ad (i + 27)), .ref (ad (i + 28)), .ref (ad (i + 29)), .ref (ad (i + 30)), .ref (ad (i + 31)), .ref (ad (i + 32)), .int (M i 43)])
  | 20 => .inl (cA 0, ln i, .inl (M i))
  | 21 => .inl (cA 1, ln i, .inr (.inr (.inl (fun j => (M i j).toUInt32))))
  | 22 => .inl (cA 2, ln i, .inl (M i))
  | 23 => .inl (cA 3, 3, .inr (.inr (.inr (.inr (fun j => some (ad (13 + 2 * j)))))))
  | 24 => .inl (cA 4, 4, .inr (.inr (.inr (.inr (fun j => some (ad (19 + 2 * j)))))))
  | 25 => .inl (cA 5, 10, .inr (.inr (.inr (.inr (fun j => some (ad (45 + j)))))))
  | 26 => .inl (cA 6, 14, .inr (.inr (.inr (.inr (fun j => some (ad (29 + j)))))))
  | _ => .inr (0, [])
theorem ent_0 {ad : Nat → Nat} {cA : Nat → ClassId} {M : Mem} {i : Nat} (h : kd i = 0) : ent ad cA M i = .inr (0, [.ref (ad (i + 1)), .ref (ad (i + 2)), .int (M i 2), .int (M i 3)]) := by unfold ent; simp only [h]
theorem ent_1 {ad : Nat → Nat} {cA : Nat → ClassId} {M : Mem} {i : Nat} (h : kd i = 1) : ent ad cA M i = .inr (1, [.ref (ad (i + 1)), .ref (ad (i + 16)), .ref (ad (i + 17))]) := by unfold ent; simp only [h]
theorem ent_2 {ad : Nat → Nat} {cA : Nat → ClassId} {M : Mem} {i : Nat} (h : kd i = 2) : ent ad cA M i = .inr (2, [.ref (ad (i + 1)), .ref (ad (i + 2)), .ref (ad (i + 3)), .int (M i 3)]) := by unfold ent; simp only [h]
theorem ent_3 {ad : Nat → Nat} {cA : Nat → ClassId} {M : Mem} {i : Nat} (h : kd i = 3) : ent ad cA M i = .inr (3, [.ref (ad (i + 1)), .ref (ad (i + 4)), .ref (ad (i + 7))]) := by unfold ent; simp only [h]
theorem ent_4 {ad : Nat → Nat} {cA : Nat → ClassId} {M : Mem} {i : Nat} (h : kd i = 4) : ent ad cA M i = .inr (4, [.ref (ad (i + 1)), .ref (ad (i + 2)), .ref (ad (i + 3)), .int (M i 3), .int (M i 4), .int (M i 5), .int (M i 6), .int (M i 7), .int (M i 8), .int (M i 9)]) := by unfold ent; simp only [h]
theorem ent_5 {ad : Nat → Nat} {cA : Nat → ClassId} {M : Mem} {i : Nat} (h : kd i = 5) : ent ad cA M i = .inr (5, [.ref (ad (i + 1)), .ref (ad (i + 4)), .ref (ad (i + 8)), .ref (ad 27), .int (M i 4), .int (M i 5)]) := by unfold ent; simp only [h]
theorem ent_6 {ad : Nat → Nat} {cA : Nat → ClassId} {M : Mem} {i : Nat} (h : kd i = 6) : ent ad cA M i = .inr (6, [.ref (ad (i + 1)), .int (M i 1), .int (M i 2)]) := by unfold ent; simp only [h]
theorem ent_7 {ad : Nat → Nat} {cA : Nat → ClassId} {M : Mem} {i : Nat} (h : kd i = 7) : ent ad cA M i = .inr (7, [.ref (ad (i + 1)), .ref (ad (i + 2)), .int (M i 2), .int (M i 3)]) := by unfold ent; simp only [h]
theorem ent_8 {ad : Nat → Nat} {cA : Nat → ClassId} {M : Mem} {i : Nat} (h : kd i = 8) : ent ad cA M i = .inr (8, [.ref (ad (i + 1)), .ref (ad (i + 2)), .int (M i 2), .int (M i 3)]) := by unfold ent; simp only [h]
theorem ent_9 {ad : Nat → Nat} {cA : Nat → ClassId} {M : Mem} {i : Nat} (h : kd i = 9) : ent ad cA M i = .inr (9, [.int (M i 0), .int (M i 1), .int (M i 2), .int (M i 3), .int (M i 4), .int (M i 5)]) := by unfold ent; simp only [h]
theorem ent_10 {ad : Nat → Nat} {cA : Nat → ClassId} {M : Mem} {i : Nat} (h : kd i = 10) : ent ad cA M i = .inr (10, [.ref (ad (i + 1)), .int (M i 1)]) := by unfold ent; simp only [h]
theorem ent_11 {ad : Nat → Nat} {cA : Nat → ClassId} {M : Mem} {i : Nat} (h : kd i = 11) : ent ad cA M i = .inr (11, [.ref (ad 1), .ref (ad 2), .ref (ad 3), .ref (ad 55), .ref (ad 67), .ref (ad 79), .int (M i 6), .int (M i 7), .int (M i 8)]) := by unfold ent; simp only [h]
theorem ent_12 {ad : Nat → Nat} {cA : Nat → ClassId} {M : Mem} {i : Nat} (h : kd i = 12) : ent ad cA M i = .inr (12, [.ref (ad (i + 1)), .ref (ad (i + 2)), .ref (ad (i + 3)), .ref (ad (i + 4)), .ref (ad (i + 5)), .ref (ad (i + 6)), .int (M i 6), .ref (ad (i + 7)), .ref (ad (i + 8)), .int (M i 9), .int (M i 10), .int (M i 11), .ref (ad (i + 9)), .ref (ad (i + 10)), .ref (ad (i + 11)), .ref (ad (i + 12)), .ref (ad (i + 13)), .int (M i 17), .ref (ad (i + 14)), .ref (ad (i + 15)), .ref (ad (i + 16)), .int (M i 21), .ref (ad (i + 17)), .ref (ad (i + 18)), .ref (ad (i + 19)), .ref (ad (i + 20)), .ref (ad (i + 21)), .ref (ad (i + 22)), .int (M i 28), .int (M i 29), .int (M i 30), .int (M i 31), .ref (ad (i + 23)), .ref (ad (i + 24)), .ref (ad (i + 25)), .int (M i 35), .ref (ad (i + 26)), .ref (ad (i + 27)), .ref (ad (i + 28)), .ref (ad (i + 29)), .ref (ad (i + 30)), .ref (ad (i + 31)), .ref (ad (i + 32)), .int (M i 43)]) := by unfold ent; simp only [h]
theorem ent_20 {ad : Nat → Nat} {cA : Nat → ClassId} {M : Mem} {i : Nat} (h : kd i = 20) : ent ad cA M i = .inl (cA 0, ln i, .inl (M i)) := by unfold ent; simp only [h]
theorem ent_21 {ad : Nat → Nat} {cA : Nat → ClassId} {M : Mem} {i : Nat} (h : kd i = 21) : ent ad cA M i = .inl (cA 1, ln i, .inr (.inr (.inl (fun j => (M i j).toUInt32)))) := by unfold ent; simp only [h]
theorem ent_22 {ad : Nat → Nat} {cA : Nat → ClassId} {M : Mem} {i : Nat} (h : kd i = 22) : ent ad cA M i = .inl (cA 2, ln i, .inl (M i)) := by unfold ent; simp only [h]
theorem ent_23 {ad : Nat → Nat} {cA : Nat → ClassId} {M : Mem} {i : Nat} (h : kd i = 23) : ent ad cA M i = .inl (cA 3, 3, .inr (.inr (.inr (.inr (fun j => some (ad (13 + 2 * j))))))) := by unfold ent; simp only [h]
theorem ent_24 {ad : Nat → Nat} {cA : Nat → ClassId} {M : Mem} {i : Nat} (h : kd i = 24) : ent ad cA M i = .inl (cA 4, 4, .inr (.inr (.inr (.inr (fun j => some (ad (19 + 2 * j))))))) := by unfold ent; simp only [h]
theorem ent_25 {ad : Nat → Nat} {cA : Nat → ClassId} {M : Mem} {i : Nat} (h : kd i = 25) : ent ad cA M i = .inl (cA 5, 10, .inr (.inr (.inr (.inr (fun j => some (ad (45 + j))))))) := by unfold ent; simp only [h]
theorem ent_26 {ad : Nat → Nat} {cA : Nat → ClassId} {M : Mem} {i : Nat} (h : kd i = 26) : ent ad cA M i = .inl (cA 6, 14, .inr (.inr (.inr (.inr (fun j => some (ad (29 + j))))))) := by unfold ent; simp only [h]
theorem kd_st (c k t : Nat) (hc : (List.range NC).all (fun i => !(kd i == c) || kd (i + k) == t) = true) (h9 : c ≠ 99) {o : Nat} (h : kd o = c) : kd (o + k) = t := by
  have hl : o < NC := kd_lt (by rw [h]; exact h9)
  have h1 := List.all_eq_true.mp hc o (List.mem_range.mpr hl)
  simp only [h, beq_self_eq_true, Bool.not_true, Bool.false_or, beq_iff_eq] at h1
  exact h1
theorem ln_st (c k t : Nat) (hc : (List.range NC).all (fun i => !(kd i == c) || ln (i + k) == t) = true) (h9 : c ≠ 99) {o : Nat} (h : kd o = c) : ln (o + k) = t := by
  have hl : o < NC := kd_lt (by rw [h]; exact h9)
  have h1 := List.all_eq_true.mp hc o (List.mem_range.mpr hl)
  simp only [h, beq_self_eq_true, Bool.not_true, Bool.false_or, beq_iff_eq] at h1
  exact h1
theorem kd_Run_course {o : Nat} (h : kd o = 5) : kd (o + 1) = 0 := kd_st 5 1 0 (by decide +kernel) (by decide) h
theorem kd_Run_pairs {o : Nat} (h : kd o = 5) : kd (o + 4) = 2 := kd_st 5 4 2 (by decide +kernel) (by decide) h
theorem kd_Run_report {o : Nat} (h : kd o = 5) : kd (o + 8) = 4 := kd_st 5 8 4 (by decide +kernel) (by decide) h
theorem kd_Course_codes {o : Nat} (h : kd o = 0) : kd (o + 1) = 20 := kd_st 0 1 20 (by decide +kernel) (by decide) h
theorem ln_Course_codes {o : Nat} (h : kd o = 0) : ln (o + 1) = 14 := ln_st 0 1 14 (by decide +kernel) (by decide) h
theorem kd_Course_figures {o : Nat} (h : kd o = 0) : kd (o + 2) = 20 := kd_st 0 2 20 (by decide +kernel) (by decide) h
theorem ln_Course_figures {o : Nat} (h : kd o = 0) : ln (o + 2) = 14 := ln_st 0 2 14 (by decide +kernel) (by decide) h
theorem kd_Pairs_keys {o : Nat} (h : kd o = 2) : kd (o + 1) = 20 := kd_st 2 1 20 (by decide +kernel) (by decide) h
theorem ln_Pairs_keys {o : Nat} (h : kd o = 2) : ln (o + 1) = 10 := ln_st 2 1 10 (by decide +kernel) (by decide) h
theorem kd_Pairs_values {o : Nat} (h : kd o = 2) : kd (o + 2) = 20 := kd_st 2 2 20 (by decide +kernel) (by decide) h
theorem ln_Pairs_values {o : Nat} (h : kd o = 2) : ln (o + 2) = 10 := ln_st 2 2 10 (by decide +kernel) (by decide) h
theorem kd_Pairs_places {o : Nat} (h : kd o = 2) : kd (o + 3) = 20 := kd_st 2 3 20 (by decide +kernel) (by decide) h
theorem ln_Pairs_places {o : Nat} (h : kd o = 2) : ln (o + 3) = 10 := ln_st 2 3 10 (by decide +kernel) (by decide) h
theorem kd_Report_answers {o : Nat} (h : kd o = 4) : kd (o + 1) = 20 := kd_st 4 1 20 (by decide +kernel) (by decide) h
theorem ln_Report_answers {o : Nat} (h : kd o = 4) : ln (o + 1) = 10 := ln_st 4 1 10 (by decide +kernel) (by decide) h
theorem kd_Report_means {o : Nat} (h : kd o = 4) : kd (o + 2) = 21 := kd_st 4 2 21 (by decide +kernel) (by decide) h
theorem ln_Report_means {o : Nat} (h : kd o = 4) : ln (o + 2) = 10 := ln_st 4 2 10 (by decide +kernel) (by decide) h
theorem kd_Report_logged {o : Nat} (h : kd o = 4) : kd (o + 3) = 20 := kd_st 4 3 20 (by decide +kernel) (by decide) h
theorem ln_Report_logged {o : Nat} (h : kd o = 4) : ln (o + 3) = 200 := ln_st 4 3 200 (by decide +kernel) (by decide) h
theorem kd_Table_keys {o : Nat} (h : kd o = 8) : kd (o + 1) = 20 := kd_st 8 1 20 (by decide +kernel) (by decide) h
theorem ln_Table_keys {o : Nat} (h : kd o = 8) : ln (o + 1) = 10 := ln_st 8 1 10 (by decide +kernel) (by decide) h
theorem kd_Table_values {o : Nat} (h : kd o = 8) : kd (o + 2) = 20 := kd_st 8 2 20 (by decide +kernel) (by decide) h
theorem ln_Table_values {o : Nat} (h : kd o = 8) : ln (o + 2) = 10 := ln_st 8 2 10 (by decide +kernel) (by decide) h
theorem kd_Text_bytes {o : Nat} (h : kd o = 10) : kd (o + 1) = 20 := kd_st 10 1 20 (by decide +kernel) (by decide) h
theorem kd_Sheet_items {o : Nat} (h : kd o = 6) : kd (o + 1) = 20 := kd_st 6 1 20 (by decide +kernel) (by decide) h
theorem ln_Sheet_items {o : Nat} (h : kd o = 6) : ln (o + 1) = 60 := ln_st 6 1 60 (by decide +kernel) (by decide) h
def wd (S : SE) (M : Mem) : va_W := (List.range NC).map fun i => (S.2.1 i, ent S.2.1 S.2.2 M i)
def AA (S : SE) : Nat → Prop := fun q => ∃ i, i < NC ∧ S.2.1 i = q
def Inj (S : SE) : Prop := ∀ i j : Nat, i < NC → j < NC → S.2.1 i = S.2.1 j → i = j
abbrev tysL (cA : Nat → ClassId) : List (ClassId × FieldType) := [(cA 0, .int), (cA 1, .float), (cA 2, .boolean), (cA 3, .object "UnnestPlans$Text"), (cA 4, .object "UnnestPlans$Sheet"), (cA 5, .object "UnnestPlans$Tally"), (cA 6, .array .int)]
theorem wd_at {S : SE} {M : Mem} {i : Nat} (h : i < NC) : (wd S M)[i]? = some (S.2.1 i, ent S.2.1 S.2.2 M i) := by
  unfold wd
  rw [List.getElem?_map, List.getElem?_range h]
  rfl
theorem wd_len {S : SE} {M : Mem} {i : Nat} {q : Nat × va_E} (h : (wd S M)[i]? = some q) : i < NC ∧ q = (S.2.1 i, ent S.2.1 S.2.2 M i) := by
  have h1 : i < (wd S M).length := (List.getElem?_eq_some_iff.mp h).1
  have h2 : (wd S M).length = NC := by unfold wd; rw [List.length_map, List.length_range]
  have h3 : i < NC := by omega
  rw [wd_at h3] at h
  exact ⟨h3, (Option.some.inj h).symm⟩
theorem wd_D {S : SE} {M : Mem} (hI : Inj S) : va_D (AA S) (wd S M) := by
  refine ⟨fun i j p q hp hq e => ?_, fun k q hq => ?_⟩
  · obtain ⟨h1, rfl⟩ := wd_len hp
    obtain ⟨h2, rfl⟩ := wd_len hq
    exact hI i j h1 h2 e
  · obtain ⟨h1, rfl⟩ := wd_len hq
    exact ⟨k, h1, rfl⟩
/-- a cell changed: the world of the new memory -/
theorem wd_set {S : SE} {M M' : Mem} {o : Nat} {e : va_E} (ho : o < NC) (he : ent S.2.1 S.2.2 M' o = e) (hne : ∀ i, i ≠ o → ent S.2.1 S.2.2 M' i = ent S.2.1 S.2.2 M i) : (wd S M).set o (S.2.1 o, e) = wd S M' := by
  apply List.ext_getElem?
  intro i
  by_cases hi : i < NC
  · rw [List.getElem?_set]
    by_cases h : o = i
    · subst h
      have hl : o < (wd S M).length := by unfold wd; rw [List.length_map, List.length_range]; exact ho
      rw [if_pos rfl, if_pos hl, wd_at hi, he]
    · rw [if_neg h, wd_at hi, wd_at hi, hne i (fun q => h q.symm)]
  · have h1 : ∀ M : Mem, (wd S M).length = NC := fun M => by unfold wd; rw [List.length_map, List.length_range]
    rw [List.getElem?_eq_none (by rw [List.length_set, h1]; omega), List.getElem?_eq_none (by rw [h1]; omega)]
theorem ent_congr {S : SE} {M M' : Mem} {i : Nat} (h : M' i = M i) : ent S.2.1 S.2.2 M' i = ent S.2.1 S.2.2 M i := by
  unfold ent
  rw [h]
theorem mset_self (M : Mem) (c k : Nat) (v : Int32) : mset M c k v c = upd (M c) k v := by unfold mset; rw [if_pos rfl]
theorem mset_ne (M : Mem) {c i : Nat} (k : Nat) (v : Int32) (h : i ≠ c) : mset M c k v i = M i := by unfold mset; rw [if_neg h]
-- ===== the words =====
def tw : List Cond := lw_tbl.filter goodWord
theorem tw_in {w : Cond} (i : Nat) (h : lw_tbl[i]? = some w) (hg : goodWord w = true) : w ∈ tw := List.mem_filter.mpr ⟨List.mem_of_getElem? h, hg⟩
theorem tw_good {w : Cond} (h : w ∈ tw) : (w.onTables && w.keeps) = true ∨ ∃ ty, w = .arrayClass ty := good_of_word (List.mem_filter.mp h).2
theorem tw_pay {args : Array Value} {s : State} (hts : ∀ w ∈ tw, w.before args s = true) : ∀ w ∈ tw, ∀ (a' : Array Value) (U : State), s.WarmedH U.vm → w.before a' U = true := fun w hw a' U hW => word_at hW (tw_good hw) (hts w hw)
-- the links to private members of nest mates: they are no steady words, and go from start to start by themselves
def nwL : List (String × Nat × MethodName) := [(RX11, 23, yX3_init), (RX3, 9, yX8_init), (RX3, 21, yX7_init), (RX11, 42, yX6_init), (RX1, 26, yX9_init), (RX5, 11, yX0_init), (RX5, 20, yX2_init), (RX5, 27, yX4_init), (RX7, 39, yX11_isFigure), (RX8, 39, yX11_isFigure), (RX5, 198, yX11_within), (RX9, 35, yX11_bitsOf), (RX0, 45, yX11_endSpeaks), (RX5, 116, yX11_endSpeaks), (RX4, 79, yX11_bitsOf), (RX0, 49, yX11_within), (RX4, 75, yX11_within), (RX6, 32, yX11_within), (RX10, 23, yX11_isByte)]
def NWs (U : State) : Prop := ∀ q ∈ nwL, va_Nw (.methodLinkNest q.1 q.2.1 q.2.2 "UnnestPlans") U
theorem NWs.warm {s U : State} (h : NWs s) (hW : s.WarmedH U.vm) : NWs U := fun q hq => va_Nw.warmM hW (h q hq)
theorem NWs.same {s U : State} (h : NWs s) (e : s.vm = U.vm) : NWs U := fun q hq => va_Nw.same rfl e (h q hq)
-- ===== the judgement =====
abbrev MX : Type := Program × Launch × Env × Room × State × MethodId × Array Value × List Frame × Method × Code × Nat × Nat × (State → Prop)
def V (S : SE) (X : MX) (nL : Nat) (M : Mem) (pc : Nat) (lv : List (Nat × Value)) (st : List Value) : Prop :=
  ∀ (H : Heap) (locs : List Loc) (ls : Array Slot), va_P S.1 vwCl (wd S M) H → va_S (AA S) X.2.2.2.2.1.heap H locs → lv_has ls nL lv → W X.1 X.2.1 X.2.2.1 X.2.2.2.1 X.2.2.2.2.1 X.2.2.2.2.2.1 X.2.2.2.2.2.2.1 X.2.2.2.2.2.2.2.1 X.2.2.2.2.2.2.2.2.1 X.2.2.2.2.2.2.2.2.2.1 H locs X.2.2.2.2.2.2.2.2.2.2.1 X.2.2.2.2.2.2.2.2.2.2.2.1 X.2.2.2.2.2.2.2.2.2.2.2.2 (F0 X.2.2.2.2.2.1 pc ls st)
/-- what holds all through a method's walk: its code cc, locals nL, class own; d: the calls that may yet stand open -/
def CX (S : SE) (X : MX) (cc : ByteArray) (nL : Nat) (own : String) (d : Nat) : Prop :=
  X.1.tables.exec = Jvm.exec ∧ X.2.2.2.2.2.2.2.2.2.1.code = cc ∧ X.2.2.2.2.2.2.2.2.2.1.maxLocals = nL ∧ X.2.2.2.2.1.vm.findClass own = some X.2.2.2.2.2.1.cls ∧ (∀ w ∈ tw, w.before X.2.2.2.2.2.2.1 X.2.2.2.2.1 = true) ∧ va_K S.1 vwCl (tysL S.2.2) X.2.2.2.2.1 ∧ Inj S ∧ d ≤ X.2.2.2.1.frames ∧ 40 * d ≤ X.2.2.2.1.locals ∧ X.2.2.2.2.2.2.2.2.2.2.1 ≤ X.2.2.2.1.cells ∧ X.2.2.2.2.2.2.2.2.2.2.2.1 ≤ X.2.2.2.1.slots ∧ NWs X.2.2.2.2.1
def QC (S : SE) (r : Option Value) (M' : Mem) : Array Value → State → Outcome → State → Prop := fun _ st o t => o = .returned r ∧ va_P S.1 vwCl (wd S M') t.heap ∧ va_K S.1 vwCl (tysL S.2.2) t ∧ va_F (AA S) st t
/-- how the method ends: with r, the memory M' -/
def RT (S : SE) (X : MX) (rt : Option FieldType) (r : Option Value) (M' : Mem) : Prop :=
  X.2.2.2.2.2.2.2.2.1.sig.returnType = rt ∧ X.2.2.2.2.2.2.2.2.1.locks = false ∧ X.2.2.2.2.2.2.2.2.2.2.1 = 0 ∧ X.2.2.2.2.2.2.2.2.2.2.2.1 = 0 ∧ X.2.2.2.2.2.2.2.2.2.2.2.2 = MQ X.2.2.2.2.2.2.2.1 (QC S r M') X.2.2.2.2.2.2.1 X.2.2.2.2.1 0 0 (AA S)
def PC (S : SE) (args : List Value) (M : Mem) : Array Value → State → Prop := va_Pc args (fun U => va_P S.1 vwCl (wd S M) U.heap ∧ va_K S.1 vwCl (tysL S.2.2) U ∧ NWs U)
abbrev rmD (d : Nat) : Room := { frames := d, cells := 0, slots := 0, locals := 40 * d }
/-- a contract: called with args at the memory M, y returns r and leaves M' -/
def CM (S : SE) (y : MethodName) (cc : ByteArray) (nL : Nat) (rt : Option FieldType) (d : Nat) (args : List Value) (M : Mem) (r : Option Value) (M' : Mem) : Prop :=
  ∀ l : Launch, Met l y (.code y cc nL rt :: tw) (rmD d) (PC S args M) (QC S r M') 0 0 (AA S)
theorem CM.of {S : SE} {y : MethodName} {cc : ByteArray} {nL : Nat} {rt : Option FieldType} {d : Nat} {args : List Value} {M : Mem} {r : Option Value} {M' : Mem} (lv : List (Nat × Value)) (hI : Inj S) (hy : plainName y.cls = true) (hlv : lv_args 0 args = lv) (hn : (lg_sl args).length ≤ nL)
    (body : ∀ X : MX, CX S X cc nL y.cls d → RT S X rt r M' → V S X nL M 0 lv []) : CM S y cc nL rt d args M r M' := by
  intro l
  refine Met.ofW (cc := cc) (maxL := nL) (ret := rt) hy rfl ?_
  intro p e s m av below meth c s₁ B hml hv
  obtain ⟨rfl, hP, hK, hN⟩ := hv
  have hts := atoms_spec (ws := .code y cc nL rt :: tw) B.pre
  have hl := lv_entry args (n := nL) hn
  rw [lg_entry_eq]
  rw [hlv] at hl
  exact body (p, l, e, (headSpec (.code y cc nL rt :: tw) (rmD d)).room, s, m, args.toArray, below, meth, c, 0, 0, MQ below (QC S r M') args.toArray s 0 0 (AA S)) ⟨B.exec, B.bytes, hml, findClass_of_methodNamed B.named, fun w h => hts w (List.mem_cons_of_mem _ h), hK, hI, Nat.le_refl _, Nat.le_refl _, Nat.zero_le _, Nat.zero_le _, hN⟩ ⟨B.returns, B.notSynchronized, rfl, rfl, rfl⟩ s.heap [] _ hP va_S.rf hl
-- ===== rows =====
section VR
variable {S : SE} {X : MX} {cc : ByteArray} {nL : Nat} {own : String} {d : Nat} {M : Mem} {pc : Nat} {lv : List (Nat × Value)} {st : List Value}
/-- fewer locals, by their places -/
theorem v_sub (ks : List Nat) {lv' : List (Nat × Value)} (h : lv_pick lv ks = lv') (k : V S X nL M pc lv' st) : V S X nL M pc lv st := fun H locs ls hP hS hl => k H locs ls hP hS (lv_sub hl ks h)
theorem v_iconst (C : CX S X cc nL own d) {n : Int} (v : Int32) (dd : decode cc pc = .ok (.iconst n, 1)) (hv : Int32.ofInt n = v) (k : V S X nL M (pc + 1) lv (.int v :: st)) : V S X nL M pc lv st := fun H locs ls hP hS hl => lv_iconst C.1 C.2.1 dd hv (k H locs ls hP hS hl)
theorem v_bipush (C : CX S X cc nL own d) {n : Int} (v : Int32) (dd : decode cc pc = .ok (.bipush n, 2)) (hv : (Int8.ofInt n).toInt32 = v) (k : V S X nL M (pc + 2) lv (.int v :: st)) : V S X nL M pc lv st := fun H locs ls hP hS hl => lv_bipush C.1 C.2.1 dd hv (k H locs ls hP hS hl)
theorem v_sipush (C : CX S X cc nL own d) {n : Int} (v : Int32) (dd : decode cc pc = .ok (.sipush n, 3)) (hv : (Int16.ofInt n).toInt32 = v) (k : V S X nL M (pc + 3) lv (.int v :: st)) : V S X nL M pc lv st := fun H locs ls hP hS hl => lv_sipush C.1 C.2.1 dd hv (k H locs ls hP hS hl)
theorem v_lconst (C : CX S X cc nL own d) {n : Fin 2} (v : Int64) (dd : decode cc pc = .ok (.lconst n, 1)) (hv : Int64.ofNat (n : Nat) = v) (k : V S X nL M (pc + 1) lv (.long v :: st)) : V S X nL M pc lv st := fun H locs ls hP hS hl => lv_lconst C.1 C.2.1 dd hv (k H locs ls hP hS hl)
theorem v_fconst0 (C : CX S X cc nL own d) (dd : decode cc pc = .ok (.fconst 0, 1)) (k : V S X nL M (pc + 1) lv (.float FP.fconst0 :: st)) : V S X nL M pc lv st := fun H locs ls hP hS hl => lv_fconst0 C.1 C.2.1 dd (k H locs ls hP hS hl)
theorem v_fconst1 (C : CX S X cc nL own d) (dd : decode cc pc = .ok (.fconst 1, 1)) (k : V S X nL M (pc + 1) lv (.float FP.fconst1 :: st)) : V S X nL M pc lv st := fun H locs ls hP hS hl => lv_fconst1 C.1 C.2.1 dd (k H locs ls hP hS hl)
theorem v_fconst2 (C : CX S X cc nL own d) (dd : decode cc pc = .ok (.fconst 2, 1)) (k : V S X nL M (pc + 1) lv (.float FP.fconst2 :: st)) : V S X nL M pc lv st := fun H locs ls hP hS hl => lv_fconst2 C.1 C.2.1 dd (k H locs ls hP hS hl)
theorem v_ldc (C : CX S X cc nL own d) {i : Nat} {v : Int32} (hw : Cond.constant own i v ∈ tw) (dd : decode cc pc = .ok (.ldc i, 2)) (k : V S X nL M (pc + 2) lv (.int v :: st)) : V S X nL M pc lv st := fun H locs ls hP hS hl => W.ldc C.1 C.2.1 C.2.2.2.1 (C.2.2.2.2.1 _ hw) rfl dd (k H locs ls hP hS hl)
theorem v_ldcw (C : CX S X cc nL own d) {i : Nat} {v : Int32} (hw : Cond.constant own i v ∈ tw) (dd : decode cc pc = .ok (.ldc_w i, 3)) (k : V S X nL M (pc + 3) lv (.int v :: st)) : V S X nL M pc lv st := fun H locs ls hP hS hl => lv_ldcw C.1 C.2.1 C.2.2.2.1 (C.2.2.2.2.1 _ hw) dd (k H locs ls hP hS hl)
theorem v_ldcf (C : CX S X cc nL own d) {i : Nat} {v : UInt32} (hw : Cond.constantFloat own i v ∈ tw) (dd : decode cc pc = .ok (.ldc i, 2)) (k : V S X nL M (pc + 2) lv (.float v :: st)) : V S X nL M pc lv st := fun H locs ls hP hS hl => lv_ldcf C.1 C.2.1 C.2.2.2.1 (C.2.2.2.2.1 _ hw) dd (k H locs ls hP hS hl)
theorem v_ldc2 (C : CX S X cc nL own d) {i : Nat} {v : Int64} (hw : Cond.constantLong own i v ∈ tw) (dd : decode cc pc = .ok (.ldc2_w i, 3)) (k : V S X nL M (pc + 3) lv (.long v :: st)) : V S X nL M pc lv st := fun H locs ls hP hS hl => W.ldc2 C.1 C.2.1 C.2.2.2.1 (C.2.2.2.2.1 _ hw) rfl dd (k H locs ls hP hS hl)
-- loads: kk is the place in the list of locals
theorem v_iload_n (C : CX S X cc nL own d) (kk : Nat) {q : Fin 4} {x : Int32} (dd : decode cc pc = .ok (.iload_n q, 1)) (hl : lv[kk]? = some ((q : Nat), .int x)) (k : V S X nL M (pc + 1) lv (.int x :: st)) : V S X nL M pc lv st := fun H locs ls hP hS h => lv_iload_n C.1 C.2.1 dd rfl (lv_at h kk hl) (k H locs ls hP hS h)
theorem v_iload (C : CX S X cc nL own d) (kk : Nat) {i : Nat} {x : Int32} (dd : decode cc pc = .ok (.iload i, 2)) (hl : lv[kk]? = some (i, .int x)) (k : V S X nL M (pc + 2) lv (.int x :: st)) : V S X nL M pc lv st := fun H locs ls hP hS h => lv_iload C.1 C.2.1 dd (lv_at h kk hl) (k H locs ls hP hS h)
theorem v_lload_n (C : CX S X cc nL own d) (kk : Nat) {q : Fin 4} {x : Int64} (dd : decode cc pc = .ok (.lload_n q, 1)) (hl : lv[kk]? = some ((q : Nat), .long x)) (k : V S X nL M (pc + 1) lv (.long x :: st)) : V S X nL M pc lv st := fun H locs ls hP hS h => lv_lload_n C.1 C.2.1 dd rfl (lv_at h kk hl) (k H locs ls hP hS h)
theorem v_lload (C : CX S X cc nL own d) (kk : Nat) {i : Nat} {x : Int64} (dd : decode cc pc = .ok (.lload i, 2)) (hl : lv[kk]? = some (i, .long x)) (k : V S X nL M (pc + 2) lv (.long x :: st)) : V S X nL M pc lv st := fun H locs ls hP hS h => lv_lload C.1 C.2.1 dd (lv_at h kk hl) (k H locs ls hP hS h)
theorem v_fload_n (C : CX S X cc nL own d) (kk : Nat) {q : Fin 4} {x : UInt32} (dd : decode cc pc = .ok (.fload_n q, 1)) (hl : lv[kk]? = some ((q : Nat), .float x)) (k : V S X nL M (pc + 1) lv (.float x :: st)) : V S X nL M pc lv st := fun H locs ls hP hS h => lv_fload_n C.1 C.2.1 dd rfl (lv_at h kk hl) (k H locs ls hP hS h)
theorem v_fload (C : CX S X cc nL own d) (kk : Nat) {i : Nat} {x : UInt32} (dd : decode cc pc = .ok (.fload i, 2)) (hl : lv[kk]? = some (i, .float x)) (k : V S X nL M (pc + 2) lv (.float x :: st)) : V S X nL M pc lv st := fun H locs ls hP hS h => lv_fload C.1 C.2.1 dd (lv_at h kk hl) (k H locs ls hP hS h)
theorem v_aload_n (C : CX S X cc nL own d) (kk : Nat) {q : Fin 4} {x : Nat} (dd : decode cc pc = .ok (.aload_n q, 1)) (hl : lv[kk]? = some ((q : Nat), .ref x)) (k : V S X nL M (pc + 1) lv (.ref x :: st)) : V S X nL M pc lv st := fun H locs ls hP hS h => lv_aload_n C.1 C.2.1 dd rfl (lv_at h kk hl) (k H locs ls hP hS h)
theorem v_aload (C : CX S X cc nL own d) (kk : Nat) {i : Nat} {x : Nat} (dd : decode cc pc = .ok (.aload i, 2)) (hl : lv[kk]? = some (i, .ref x)) (k : V S X nL M (pc + 2) lv (.ref x :: st)) : V S X nL M pc lv st := fun H locs ls hP hS h => lv_aload C.1 C.2.1 dd (lv_at h kk hl) (k H locs ls hP hS h)
-- stores
abbrev fl1 (i : Nat) (lv : List (Nat × Value)) : List (Nat × Value) := lv.filter (fun q => !(q.1 == i) && !(q.1 + 1 == i && q.2.category == 2))
abbrev fl2 (i : Nat) (lv : List (Nat × Value)) : List (Nat × Value) := lv.filter (fun q => !(q.1 == i) && (!(q.1 == i + 1) && !(q.1 + 1 == i && q.2.category == 2)))
theorem v_istore_n (C : CX S X cc nL own d) (lv' : List (Nat × Value)) {q : Fin 4} {x : Int32} (dd : decode cc pc = .ok (.istore_n q, 1)) (hn : (q : Nat) < nL) (hl : ((q : Nat), Value.int x) :: fl1 q lv = lv') (k : V S X nL M (pc + 1) lv' st) : V S X nL M pc lv (.int x :: st) := fun H locs ls hP hS h => lv_istore_n C.1 C.2.1 dd rfl h hn hl (fun ls h => k H locs ls hP hS h)
theorem v_istore (C : CX S X cc nL own d) (lv' : List (Nat × Value)) {i : Nat} {x : Int32} (dd : decode cc pc = .ok (.istore i, 2)) (hn : i < nL) (hl : (i, Value.int x) :: fl1 i lv = lv') (k : V S X nL M (pc + 2) lv' st) : V S X nL M pc lv (.int x :: st) := fun H locs ls hP hS h => lv_istore C.1 C.2.1 dd h hn hl (fun ls h => k H locs ls hP hS h)
theorem v_lstore_n (C : CX S X cc nL own d) (lv' : List (Nat × Value)) {q : Fin 4} {x : Int64} (dd : decode cc pc = .ok (.lstore_n q, 1)) (hn : (q : Nat) + 1 < nL) (hl : ((q : Nat), Value.long x) :: fl2 q lv = lv') (k : V S X nL M (pc + 1) lv' st) : V S X nL M pc lv (.long x :: st) := fun H locs ls hP hS h => lv_lstore_n C.1 C.2.1 dd rfl h hn hl (fun ls h => k H locs ls hP hS h)
theorem v_lstore (C : CX S X cc nL own d) (lv' : List (Nat × Value)) {i : Nat} {x : Int64} (dd : decode cc pc = .ok (.lstore i, 2)) (hn : i + 1 < nL) (hl : (i, Value.long x) :: fl2 i lv = lv') (k : V S X nL M (pc + 2) lv' st) : V S X nL M pc lv (.long x :: st) := fun H locs ls hP hS h => lv_lstore C.1 C.2.1 dd h hn hl (fun ls h => k H locs ls hP hS h)
theorem v_fstore_n (C : CX S X cc nL own d) (lv' : List (Nat × Value)) {q : Fin 4} {x : UInt32} (dd : decode cc pc = .ok (.fstore_n q, 1)) (hn : (q : Nat) < nL) (hl : ((q : Nat), Value.float x) :: fl1 q lv = lv') (k : V S X nL M (pc + 1) lv' st) : V S X nL M pc lv (.float x :: st) := fun H locs ls hP hS h => lv_fstore_n C.1 C.2.1 dd rfl h hn hl (fun ls h => k H locs ls hP hS h)
theorem v_fstore (C : CX S X cc nL own d) (lv' : List (Nat × Value)) {i : Nat} {x : UInt32} (dd : decode cc pc = .ok (.fstore i, 2)) (hn : i < nL) (hl : (i, Value.float x) :: fl1 i lv = lv') (k : V S X nL M (pc + 2) lv' st) : V S X nL M pc lv (.float x :: st) := fun H locs ls hP hS h => lv_fstore C.1 C.2.1 dd h hn hl (fun ls h => k H locs ls hP hS h)
theorem v_astore_n (C : CX S X cc nL own d) (lv' : List (Nat × Value)) {q : Fin 4} {x : Nat} (dd : decode cc pc = .ok (.astore_n q, 1)) (hn : (q : Nat) < nL) (hl : ((q : Nat), Value.ref x) :: fl1 q lv = lv') (k : V S X nL M (pc + 1) lv' st) : V S X nL M pc lv (.ref x :: st) := fun H locs ls hP hS h => lv_astore_n C.1 C.2.1 dd rfl h hn hl (fun ls h => k H locs ls hP hS h)
theorem v_astore (C : CX S X cc nL own d) (lv' : List (Nat × Value)) {i : Nat} {x : Nat} (dd : decode cc pc = .ok (.astore i, 2)) (hn : i < nL) (hl : (i, Value.ref x) :: fl1 i lv = lv') (k : V S X nL M (pc + 2) lv' st) : V S X nL M pc lv (.ref x :: st) := fun H locs ls hP hS h => lv_astore C.1 C.2.1 dd h hn hl (fun ls h => k H locs ls hP hS h)
theorem v_iinc (C : CX S X cc nL own d) (lv' : List (Nat × Value)) (kk : Nat) {i : Nat} {n : Int} {x : Int32} (v : Int32) (dd : decode cc pc = .ok (.iinc i n, 3)) (hk : lv[kk]? = some (i, .int x)) (hv : x + Int32.ofInt n = v) (hn : i < nL) (hl : (i, Value.int v) :: fl1 i lv = lv') (k : V S X nL M (pc + 3) lv' st) : V S X nL M pc lv st := fun H locs ls hP hS h => lv_iinc C.1 C.2.1 dd h hk hv hn hl (fun ls h => k H locs ls hP hS h)
theorem v_iadd (C : CX S X cc nL own d) {x y : Int32} (dd : decode cc pc = .ok (.iadd, 1)) (k : V S X nL M (pc + 1) lv (.int (x + y) :: st)) : V S X nL M pc lv (.int y :: .int x :: st) := fun H locs ls hP hS hl => lv_iadd C.1 C.2.1 dd (k H locs ls hP hS hl)
theorem v_isub (C : CX S X cc nL own d) {x y : Int32} (dd : decode cc pc = .ok (.isub, 1)) (k : V S X nL M (pc + 1) lv (.int (x - y) :: st)) : V S X nL M pc lv (.int y :: .int x :: st) := fun H locs ls hP hS hl => lv_isub C.1 C.2.1 dd (k H locs ls hP hS hl)
theorem v_imul (C : CX S X cc nL own d) {x y : Int32} (dd : decode cc pc = .ok (.imul, 1)) (k : V S X nL M (pc + 1) lv (.int (x * y) :: st)) : V S X nL M pc lv (.int y :: .int x :: st) := fun H locs ls hP hS hl => lv_imul C.1 C.2.1 dd (k H locs ls hP hS hl)
theorem v_iand (C : CX S X cc nL own d) {x y : Int32} (dd : decode cc pc = .ok (.iand, 1)) (k : V S X nL M (pc + 1) lv (.int (x &&& y) :: st)) : V S X nL M pc lv (.int y :: .int x :: st) := fun H locs ls hP hS hl => lv_iand C.1 C.2.1 dd (k H locs ls hP hS hl)
theorem v_ior (C : CX S X cc nL own d) {x y : Int32} (dd : decode cc pc = .ok (.ior, 1)) (k : V S X nL M (pc + 1) lv (.int (x ||| y) :: st)) : V S X nL M pc lv (.int y :: .int x :: st) := fun H locs ls hP hS hl => lv_ior C.1 C.2.1 dd (k H locs ls hP hS hl)
theorem v_ishl (C : CX S X cc nL own d) {x y : Int32} (dd : decode cc pc = .ok (.ishl, 1)) (k : V S X nL M (pc + 1) lv (.int (x <<< (y &&& 31)) :: st)) : V S X nL M pc lv (.int y :: .int x :: st) := fun H locs ls hP hS hl => lv_ishl C.1 C.2.1 dd (k H locs ls hP hS hl)
theorem v_ishr (C : CX S X cc nL own d) {x y : Int32} (dd : decode cc pc = .ok (.ishr, 1)) (k : V S X nL M (pc + 1) lv (.int (x >>> (y &&& 31)) :: st)) : V S X nL M pc lv (.int y :: .int x :: st) := fun H locs ls hP hS hl => lv_ishr C.1 C.2.1 dd (k H locs ls hP hS hl)
theorem v_ladd (C : CX S X cc nL own d) {x y : Int64} (dd : decode cc pc = .ok (.ladd, 1)) (k : V S X nL M (pc + 1) lv (.long (x + y) :: st)) : V S X nL M pc lv (.long y :: .long x :: st) := fun H locs ls hP hS hl => lv_ladd C.1 C.2.1 dd (k H locs ls hP hS hl)
theorem v_lsub (C : CX S X cc nL own d) {x y : Int64} (dd : decode cc pc = .ok (.lsub, 1)) (k : V S X nL M (pc + 1) lv (.long (x - y) :: st)) : V S X nL M pc lv (.long y :: .long x :: st) := fun H locs ls hP hS hl => lv_lsub C.1 C.2.1 dd (k H locs ls hP hS hl)
theorem v_lmul (C : CX S X cc nL own d) {x y : Int64} (dd : decode cc pc = .ok (.lmul, 1)) (k : V S X nL M (pc + 1) lv (.long (x * y) :: st)) : V S X nL M pc lv (.long y :: .long x :: st) := fun H locs ls hP hS hl => lv_lmul C.1 C.2.1 dd (k H locs ls hP hS hl)
theorem v_land (C : CX S X cc nL own d) {x y : Int64} (dd : decode cc pc = .ok (.land, 1)) (k : V S X nL M (pc + 1) lv (.long (x &&& y) :: st)) : V S X nL M pc lv (.long y :: .long x :: st) := fun H locs ls hP hS hl => lv_land C.1 C.2.1 dd (k H locs ls hP hS hl)
theorem v_lor (C : CX S X cc nL own d) {x y : Int64} (dd : decode cc pc = .ok (.lor, 1)) (k : V S X nL M (pc + 1) lv (.long (x ||| y) :: st)) : V S X nL M pc lv (.long y :: .long x :: st) := fun H locs ls hP hS hl => lv_lor C.1 C.2.1 dd (k H locs ls hP hS hl)
theorem v_idiv (C : CX S X cc nL own d) {x y : Int32} (hne : ¬ y = 0) (dd : decode cc pc = .ok (.idiv, 1)) (k : V S X nL M (pc + 1) lv (.int (x / y) :: st)) : V S X nL M pc lv (.int y :: .int x :: st) := fun H locs ls hP hS hl => lv_idiv C.1 C.2.1 dd hne (k H locs ls hP hS hl)
theorem v_irem (C : CX S X cc nL own d) {x y : Int32} (hne : ¬ y = 0) (dd : decode cc pc = .ok (.irem, 1)) (k : V S X nL M (pc + 1) lv (.int (x - x / y * y) :: st)) : V S X nL M pc lv (.int y :: .int x :: st) := fun H locs ls hP hS hl => lv_irem C.1 C.2.1 dd hne (k H locs ls hP hS hl)
theorem v_ldiv (C : CX S X cc nL own d) {x y : Int64} (hne : ¬ y = 0) (dd : decode cc pc = .ok (.ldiv, 1)) (k : V S X nL M (pc + 1) lv (.long (x / y) :: st)) : V S X nL M pc lv (.long y :: .long x :: st) := fun H locs ls hP hS hl => lv_ldiv C.1 C.2.1 dd hne (k H locs ls hP hS hl)
theorem v_lshl (C : CX S X cc nL own d) {x : Int64} {y : Int32} (dd : decode cc pc = .ok (.lshl, 1)) (k : V S X nL M (pc + 1) lv (.long (x <<< (y.toInt64 &&& 63)) :: st)) : V S X nL M pc lv (.int y :: .long x :: st) := fun H locs ls hP hS hl => lv_lshl C.1 C.2.1 dd rfl (k H locs ls hP hS hl)
theorem v_lshr (C : CX S X cc nL own d) {x : Int64} {y : Int32} (dd : decode cc pc = .ok (.lshr, 1)) (k : V S X nL M (pc + 1) lv (.long (x >>> (y.toInt64 &&& 63)) :: st)) : V S X nL M pc lv (.int y :: .long x :: st) := fun H locs ls hP hS hl => lv_lshr C.1 C.2.1 dd rfl (k H locs ls hP hS hl)
theorem v_i2l (C : CX S X cc nL own d) {x : Int32} (dd : decode cc pc = .ok (.i2l, 1)) (k : V S X nL M (pc + 1) lv (.long (x.toInt64) :: st)) : V S X nL M pc lv (.int x :: st) := fun H locs ls hP hS hl => lv_i2l C.1 C.2.1 dd rfl (k H locs ls hP hS hl)
theorem v_l2i (C : CX S X cc nL own d) {x : Int64} (dd : decode cc pc = .ok (.l2i, 1)) (k : V S X nL M (pc + 1) lv (.int (x.toInt32) :: st)) : V S X nL M pc lv (.long x :: st) := fun H locs ls hP hS hl => lv_l2i C.1 C.2.1 dd rfl (k H locs ls hP hS hl)
theorem v_i2b (C : CX S X cc nL own d) {x : Int32} (dd : decode cc pc = .ok (.i2b, 1)) (k : V S X nL M (pc + 1) lv (.int (x.toInt8.toInt32) :: st)) : V S X nL M pc lv (.int x :: st) := fun H locs ls hP hS hl => lv_i2b C.1 C.2.1 dd rfl (k H locs ls hP hS hl)
theorem v_i2s (C : CX S X cc nL own d) {x : Int32} (dd : decode cc pc = .ok (.i2s, 1)) (k : V S X nL M (pc + 1) lv (.int (x.toInt16.toInt32) :: st)) : V S X nL M pc lv (.int x :: st) := fun H locs ls hP hS hl => lv_i2s C.1 C.2.1 dd rfl (k H locs ls hP hS hl)
theorem v_fadd (C : CX S X cc nL own d) {x y : UInt32} (hne : (FP.fadd x y) &&& 0x7fffffff ≤ 0x7f800000) (dd : decode cc pc = .ok (.fadd, 1)) (k : V S X nL M (pc + 1) lv (.float (FP.fadd x y) :: st)) : V S X nL M pc lv (.float y :: .float x :: st) := fun H locs ls hP hS hl => lv_fadd C.1 C.2.1 dd hne (k H locs ls hP hS hl)
theorem v_fsub (C : CX S X cc nL own d) {x y : UInt32} (hne : (FP.fsub x y) &&& 0x7fffffff ≤ 0x7f800000) (dd : decode cc pc = .ok (.fsub, 1)) (k : V S X nL M (pc + 1) lv (.float (FP.fsub x y) :: st)) : V S X nL M pc lv (.float y :: .float x :: st) := fun H locs ls hP hS hl => lv_fsub C.1 C.2.1 dd hne (k H locs ls hP hS hl)
theorem v_fmul (C : CX S X cc nL own d) {x y : UInt32} (hne : (FP.fmul x y) &&& 0x7fffffff ≤ 0x7f800000) (dd : decode cc pc = .ok (.fmul, 1)) (k : V S X nL M (pc + 1) lv (.float (FP.fmul x y) :: st)) : V S X nL M pc lv (.float y :: .float x :: st) := fun H locs ls hP hS hl => lv_fmul C.1 C.2.1 dd hne (k H locs ls hP hS hl)
theorem v_fdiv (C : CX S X cc nL own d) {x y : UInt32} (hne : (FP.fdiv x y) &&& 0x7fffffff ≤ 0x7f800000) (dd : decode cc pc = .ok (.fdiv, 1)) (k : V S X nL M (pc + 1) lv (.float (FP.fdiv x y) :: st)) : V S X nL M pc lv (.float y :: .float x :: st) := fun H locs ls hP hS hl => lv_fdiv C.1 C.2.1 dd hne (k H locs ls hP hS hl)
theorem v_i2f (C : CX S X cc nL own d) {x : Int32} (dd : decode cc pc = .ok (.i2f, 1)) (k : V S X nL M (pc + 1) lv (.float (FP.i2f x) :: st)) : V S X nL M pc lv (.int x :: st) := fun H locs ls hP hS hl => lv_i2f C.1 C.2.1 dd (k H locs ls hP hS hl)
theorem v_f2i (C : CX S X cc nL own d) {x : UInt32} (dd : decode cc pc = .ok (.f2i, 1)) (k : V S X nL M (pc + 1) lv (.int (FP.f2i x) :: st)) : V S X nL M pc lv (.float x :: st) := fun H locs ls hP hS hl => lv_f2i C.1 C.2.1 dd (k H locs ls hP hS hl)
theorem v_fcmp (C : CX S X cc nL own d) {x y : UInt32} {op : CmpOp} (dd : decode cc pc = .ok (.fcmp op, 1)) (k : V S X nL M (pc + 1) lv (.int (Op.cmpValue (FP.fcmp x y) op) :: st)) : V S X nL M pc lv (.float y :: .float x :: st) := fun H locs ls hP hS hl => lv_fcmp C.1 C.2.1 dd (k H locs ls hP hS hl)
theorem v_lcmp (C : CX S X cc nL own d) {x y : Int64} (dd : decode cc pc = .ok (.lcmp, 1)) (k : V S X nL M (pc + 1) lv (.int (lg_cmp x y) :: st)) : V S X nL M pc lv (.long y :: .long x :: st) := fun H locs ls hP hS hl => W.lcmp C.1 C.2.1 dd (k H locs ls hP hS hl)
theorem v_dup (C : CX S X cc nL own d) {v : Value} (dd : decode cc pc = .ok (.dup, 1)) (hv : v.category = 1) (k : V S X nL M (pc + 1) lv (v :: v :: st)) : V S X nL M pc lv (v :: st) := fun H locs ls hP hS hl => lv_dup C.1 C.2.1 dd hv (k H locs ls hP hS hl)
theorem v_dup2 (C : CX S X cc nL own d) {v w : Value} (dd : decode cc pc = .ok (.dup2, 1)) (hv : v.category = 1) (hw : w.category = 1) (k : V S X nL M (pc + 1) lv (v :: w :: v :: w :: st)) : V S X nL M pc lv (v :: w :: st) := fun H locs ls hP hS hl => lv_dup2_11 C.1 C.2.1 dd hv hw (k H locs ls hP hS hl)
theorem v_pop (C : CX S X cc nL own d) {v : Value} (dd : decode cc pc = .ok (.pop, 1)) (hv : v.category = 1) (k : V S X nL M (pc + 1) lv st) : V S X nL M pc lv (v :: st) := fun H locs ls hP hS hl => lv_pop C.1 C.2.1 dd hv (k H locs ls hP hS hl)
theorem v_if_eq (C : CX S X cc nL own d) (tgt : Nat) {x : Int32} {off : Int} (dd : decode cc pc = .ok (.ifCond .eq off, 3)) (ht : (pc : Int) + off = (tgt : Int)) (kt : x = 0 → V S X nL M tgt lv st) (kf : ¬ (x = 0) → V S X nL M (pc + 3) lv st) : V S X nL M pc lv (.int x :: st) := fun H locs ls hP hS hl => lv_if_eq C.1 C.2.1 dd ht (fun h => kt h H locs ls hP hS hl) (fun h => kf h H locs ls hP hS hl)
theorem v_icmp_eq (C : CX S X cc nL own d) (tgt : Nat) {x y : Int32} {off : Int} (dd : decode cc pc = .ok (.if_icmp .eq off, 3)) (ht : (pc : Int) + off = (tgt : Int)) (kt : x = y → V S X nL M tgt lv st) (kf : ¬ (x = y) → V S X nL M (pc + 3) lv st) : V S X nL M pc lv (.int y :: .int x :: st) := fun H locs ls hP hS hl => lv_icmp_eq C.1 C.2.1 dd ht (fun h => kt h H locs ls hP hS hl) (fun h => kf h H locs ls hP hS hl)
theorem v_if_ne (C : CX S X cc nL own d) (tgt : Nat) {x : Int32} {off : Int} (dd : decode cc pc = .ok (.ifCond .ne off, 3)) (ht : (pc : Int) + off = (tgt : Int)) (kt : ¬ x = 0 → V S X nL M tgt lv st) (kf : x = 0 → V S X nL M (pc + 3) lv st) : V S X nL M pc lv (.int x :: st) := fun H locs ls hP hS hl => lv_if_ne C.1 C.2.1 dd ht (fun h => kt h H locs ls hP hS hl) (fun h => kf h H locs ls hP hS hl)
theorem v_icmp_ne (C : CX S X cc nL own d) (tgt : Nat) {x y : Int32} {off : Int} (dd : decode cc pc = .ok (.if_icmp .ne off, 3)) (ht : (pc : Int) + off = (tgt : Int)) (kt : ¬ x = y → V S X nL M tgt lv st) (kf : x = y → V S X nL M (pc + 3) lv st) : V S X nL M pc lv (.int y :: .int x :: st) := fun H locs ls hP hS hl => lv_icmp_ne C.1 C.2.1 dd ht (fun h => kt h H locs ls hP hS hl) (fun h => kf h H locs ls hP hS hl)
theorem v_if_lt (C : CX S X cc nL own d) (tgt : Nat) {x : Int32} {off : Int} (dd : decode cc pc = .ok (.ifCond .lt off, 3)) (ht : (pc : Int) + off = (tgt : Int)) (kt : x < 0 → V S X nL M tgt lv st) (kf : ¬ (x < 0) → V S X nL M (pc + 3) lv st) : V S X nL M pc lv (.int x :: st) := fun H locs ls hP hS hl => lv_if_lt C.1 C.2.1 dd ht (fun h => kt h H locs ls hP hS hl) (fun h => kf h H locs ls hP hS hl)
theorem v_icmp_lt (C : CX S X cc nL own d) (tgt : Nat) {x y : Int32} {off : Int} (dd : decode cc pc = .ok (.if_icmp .lt off, 3)) (ht : (pc : Int) + off = (tgt : Int)) (kt : x < y → V S X nL M tgt lv st) (kf : ¬ (x < y) → V S X nL M (pc + 3) lv st) : V S X nL M pc lv (.int y :: .int x :: st) := fun H locs ls hP hS hl => lv_icmp_lt C.1 C.2.1 dd ht (fun h => kt h H locs ls hP hS hl) (fun h => kf h H locs ls hP hS hl)
theorem v_if_ge (C : CX S X cc nL own d) (tgt : Nat) {x : Int32} {off : Int} (dd : decode cc pc = .ok (.ifCond .ge off, 3)) (ht : (pc : Int) + off = (tgt : Int)) (kt : 0 ≤ x → V S X nL M tgt lv st) (kf : ¬ (0 ≤ x) → V S X nL M (pc + 3) lv st) : V S X nL M pc lv (.int x :: st) := fun H locs ls hP hS hl => lv_if_ge C.1 C.2.1 dd ht (fun h => kt h H locs ls hP hS hl) (fun h => kf h H locs ls hP hS hl)
theorem v_icmp_ge (C : CX S X cc nL own d) (tgt : Nat) {x y : Int32} {off : Int} (dd : decode cc pc = .ok (.if_icmp .ge off, 3)) (ht : (pc : Int) + off = (tgt : Int)) (kt : y ≤ x → V S X nL M tgt lv st) (kf : ¬ (y ≤ x) → V S X nL M (pc + 3) lv st) : V S X nL M pc lv (.int y :: .int x :: st) := fun H locs ls hP hS hl => lv_icmp_ge C.1 C.2.1 dd ht (fun h => kt h H locs ls hP hS hl) (fun h => kf h H locs ls hP hS hl)
theorem v_if_gt (C : CX S X cc nL own d) (tgt : Nat) {x : Int32} {off : Int} (dd : decode cc pc = .ok (.ifCond .gt off, 3)) (ht : (pc : Int) + off = (tgt : Int)) (kt : 0 < x → V S X nL M tgt lv st) (kf : ¬ (0 < x) → V S X nL M (pc + 3) lv st) : V S X nL M pc lv (.int x :: st) := fun H locs ls hP hS hl => lv_if_gt C.1 C.2.1 dd ht (fun h => kt h H locs ls hP hS hl) (fun h => kf h H locs ls hP hS hl)
theorem v_icmp_gt (C : CX S X cc nL own d) (tgt : Nat) {x y : Int32} {off : Int} (dd : decode cc pc = .ok (.if_icmp .gt off, 3)) (ht : (pc : Int) + off = (tgt : Int)) (kt : y < x → V S X nL M tgt lv st) (kf : ¬ (y < x) → V S X nL M (pc + 3) lv st) : V S X nL M pc lv (.int y :: .int x :: st) := fun H locs ls hP hS hl => lv_icmp_gt C.1 C.2.1 dd ht (fun h => kt h H locs ls hP hS hl) (fun h => kf h H locs ls hP hS hl)
theorem v_if_le (C : CX S X cc nL own d) (tgt : Nat) {x : Int32} {off : Int} (dd : decode cc pc = .ok (.ifCond .le off, 3)) (ht : (pc : Int) + off = (tgt : Int)) (kt : x ≤ 0 → V S X nL M tgt lv st) (kf : ¬ (x ≤ 0) → V S X nL M (pc + 3) lv st) : V S X nL M pc lv (.int x :: st) := fun H locs ls hP hS hl => lv_if_le C.1 C.2.1 dd ht (fun h => kt h H locs ls hP hS hl) (fun h => kf h H locs ls hP hS hl)
theorem v_icmp_le (C : CX S X cc nL own d) (tgt : Nat) {x y : Int32} {off : Int} (dd : decode cc pc = .ok (.if_icmp .le off, 3)) (ht : (pc : Int) + off = (tgt : Int)) (kt : x ≤ y → V S X nL M tgt lv st) (kf : ¬ (x ≤ y) → V S X nL M (pc + 3) lv st) : V S X nL M pc lv (.int y :: .int x :: st) := fun H locs ls hP hS hl => lv_icmp_le C.1 C.2.1 dd ht (fun h => kt h H locs ls hP hS hl) (fun h => kf h H locs ls hP hS hl)
theorem v_goto (C : CX S X cc nL own d) (tgt : Nat) {off : Int} (dd : decode cc pc = .ok (.goto off, 3)) (ht : (pc : Int) + off = (tgt : Int)) (k : V S X nL M tgt lv st) : V S X nL M pc lv st := fun H locs ls hP hS hl => lv_goto C.1 C.2.1 dd ht (k H locs ls hP hS hl)
theorem v_tableOut (C : CX S X cc nL own d) (tgt : Nat) {dflt lo hi : Int} {offs : Array Int} {len : Nat} {x : Int32} (dd : decode cc pc = .ok (.tableswitch dflt lo hi offs, len)) (h : x.toInt < lo ∨ hi < x.toInt) (ht : (pc : Int) + dflt = (tgt : Int)) (k : V S X nL M tgt lv st) : V S X nL M pc lv (.int x :: st) := fun H locs ls hP hS hl => lv_tableOut C.1 C.2.1 dd h ht (k H locs ls hP hS hl)
theorem v_tableIn (C : CX S X cc nL own d) (tgt : Nat) {dflt lo hi off : Int} {offs : Array Int} {len : Nat} {x : Int32} (dd : decode cc pc = .ok (.tableswitch dflt lo hi offs, len)) (h1 : ¬ x.toInt < lo) (h2 : ¬ hi < x.toInt) (ho : offs[(x.toInt - lo).toNat]? = some off) (ht : (pc : Int) + off = (tgt : Int)) (k : V S X nL M tgt lv st) : V S X nL M pc lv (.int x :: st) := fun H locs ls hP hS hl => lv_tableIn C.1 C.2.1 dd h1 h2 ho ht (k H locs ls hP hS hl)
theorem v_lookup (C : CX S X cc nL own d) (tgt : Nat) {dflt off : Int} {ps : Array (Int × Int)} {len : Nat} {x : Int32} (dd : decode cc pc = .ok (.lookupswitch dflt ps, len)) (hp : (ps.toList.zip (ps.toList.drop 1)).all (fun (a, next) => a.1 < next.1) = true) (ho : Op.lookupswitch.offset ps.toList dflt x.toInt = off) (ht : (pc : Int) + off = (tgt : Int)) (k : V S X nL M tgt lv st) : V S X nL M pc lv (.int x :: st) := fun H locs ls hP hS hl => lv_lookup C.1 C.2.1 dd hp ho ht (k H locs ls hP hS hl)
-- ===== arrays =====
abbrev gin (i : Int32) (n : Nat) : Prop := ¬ (i < 0 ∨ n ≤ i.toNatClampNeg)
theorem v_iald (C : CX S X cc nL own d) {o n : Nat} (ho : kd o = 20) (hn : ln o = n) {i : Int32} (hg : gin i n) (dd : decode cc pc = .ok (.iaload, 1)) (k : V S X nL M (pc + 1) lv (.int (M o i.toNatClampNeg) :: st)) : V S X nL M pc lv (.int i :: .ref (S.2.1 o) :: st) := fun H locs ls hP hS hl => by
  subst hn
  exact va_iald C.1 C.2.1 C.2.2.2.2.2.1 hP o 0 (by rw [wd_at (kd_lt (by rw [ho]; decide)), ent_20 ho]) rfl hg dd (k H locs ls hP hS hl)
theorem v_zald (C : CX S X cc nL own d) {o n : Nat} (ho : kd o = 22) (hn : ln o = n) {i : Int32} (hg : gin i n) (dd : decode cc pc = .ok (.baload, 1)) (k : V S X nL M (pc + 1) lv (.int (M o i.toNatClampNeg) :: st)) : V S X nL M pc lv (.int i :: .ref (S.2.1 o) :: st) := fun H locs ls hP hS hl => by
  subst hn
  exact va_zald C.1 C.2.1 C.2.2.2.2.2.1 hP o 2 (by rw [wd_at (kd_lt (by rw [ho]; decide)), ent_22 ho]) rfl hg dd (k H locs ls hP hS hl)
theorem v_fald (C : CX S X cc nL own d) {o n : Nat} (ho : kd o = 21) (hn : ln o = n) {i : Int32} (hg : gin i n) (dd : decode cc pc = .ok (.faload, 1)) (k : V S X nL M (pc + 1) lv (.float (M o i.toNatClampNeg).toUInt32 :: st)) : V S X nL M pc lv (.int i :: .ref (S.2.1 o) :: st) := fun H locs ls hP hS hl => by
  subst hn
  exact va_fald C.1 C.2.1 C.2.2.2.2.2.1 hP o 1 (by rw [wd_at (kd_lt (by rw [ho]; decide)), ent_21 ho]) rfl hg dd (k H locs ls hP hS hl)
theorem v_iast (C : CX S X cc nL own d) {o n : Nat} (ho : kd o = 20) (hn : ln o = n) {i x : Int32} (hg : gin i n) (dd : decode cc pc = .ok (.iastore, 1)) (k : V S X nL (mset M o i.toNatClampNeg x) (pc + 1) lv st) : V S X nL M pc lv (.int x :: .int i :: .ref (S.2.1 o) :: st) := fun H locs ls hP hS hl => by
  subst hn
  have hlt : o < NC := kd_lt (by rw [ho]; decide)
  refine va_iast C.1 C.2.1 C.2.2.2.2.2.1 hP (wd_D C.2.2.2.2.2.2.1) hS o 0 (by rw [wd_at hlt, ent_20 ho]) rfl hg dd (fun H1 locs1 hP1 _ hS1 => ?_)
  rw [wd_set (M' := mset M o i.toNatClampNeg x) hlt (by rw [ent_20 ho, mset_self]) (fun j hj => ent_congr (mset_ne M _ _ hj))] at hP1
  exact k H1 locs1 ls hP1 hS1 hl
theorem v_zast (C : CX S X cc nL own d) {o n : Nat} (ho : kd o = 22) (hn : ln o = n) {i x : Int32} (hg : gin i n) (hx : x = 0 ∨ x = 1) (dd : decode cc pc = .ok (.bastore, 1)) (k : V S X nL (mset M o i.toNatClampNeg x) (pc + 1) lv st) : V S X nL M pc lv (.int x :: .int i :: .ref (S.2.1 o) :: st) := fun H locs ls hP hS hl => by
  subst hn
  have hlt : o < NC := kd_lt (by rw [ho]; decide)
  have hz : vp_nar .boolean x = x := by rcases hx with rfl | rfl <;> decide +kernel
  refine va_zast C.1 C.2.1 C.2.2.2.2.2.1 hP (wd_D C.2.2.2.2.2.2.1) hS o 2 (by rw [wd_at hlt, ent_22 ho]) rfl hg dd (fun H1 locs1 hP1 _ hS1 => ?_)
  rw [hz, wd_set (M' := mset M o i.toNatClampNeg x) hlt (by rw [ent_22 ho, mset_self]) (fun j hj => ent_congr (mset_ne M _ _ hj))] at hP1
  exact k H1 locs1 ls hP1 hS1 hl
theorem v_fast (C : CX S X cc nL own d) {o n : Nat} (ho : kd o = 21) (hn : ln o = n) {i : Int32} {x : UInt32} (hg : gin i n) (dd : decode cc pc = .ok (.fastore, 1)) (k : V S X nL (mset M o i.toNatClampNeg x.toInt32) (pc + 1) lv st) : V S X nL M pc lv (.float x :: .int i :: .ref (S.2.1 o) :: st) := fun H locs ls hP hS hl => by
  subst hn
  have hlt : o < NC := kd_lt (by rw [ho]; decide)
  refine va_fast C.1 C.2.1 C.2.2.2.2.2.1 hP (wd_D C.2.2.2.2.2.2.1) hS o 1 (by rw [wd_at hlt, ent_21 ho]) rfl hg dd (fun H1 locs1 hP1 _ hS1 => ?_)
  rw [wd_set (M' := mset M o i.toNatClampNeg x.toInt32) hlt (by
    rw [ent_21 ho, mset_self]
    refine congrArg (fun f => (Sum.inl (S.2.2 1, ln o, .inr (.inr (.inl f))) : va_E)) (funext fun j => ?_)
    unfold upd
    by_cases hj : j = i.toNatClampNeg
    · subst hj; simp [vf_upd]
    · simp [hj, vf_upd]) (fun j hj => ent_congr (mset_ne M _ _ hj))] at hP1
  exact k H1 locs1 ls hP1 hS1 hl
theorem v_alen (C : CX S X cc nL own d) {o n : Nat} (ho : kd o = 20) (hn : ln o = n) (dd : decode cc pc = .ok (.arraylength, 1)) (k : V S X nL M (pc + 1) lv (.int (Int32.ofNat n) :: st)) : V S X nL M pc lv (.ref (S.2.1 o) :: st) := fun H locs ls hP hS hl => by
  subst hn
  exact va_alen C.1 C.2.1 C.2.2.2.2.2.1 hP o 0 (by rw [wd_at (kd_lt (by rw [ho]; decide)), ent_20 ho]) rfl rfl dd (k H locs ls hP hS hl)
/-- the arrays of objects: their places are fixed -/
theorem v_aaldT (C : CX S X cc nL own d) {i : Int32} (hg : gin i 3) (dd : decode cc pc = .ok (.aaload, 1)) (k : V S X nL M (pc + 1) lv (.ref (S.2.1 (13 + 2 * i.toNatClampNeg)) :: st)) : V S X nL M pc lv (.int i :: .ref (S.2.1 1) :: st) := fun H locs ls hP hS hl =>
  va_aldq (f := fun j => some (S.2.1 (13 + 2 * j))) C.1 C.2.1 C.2.2.2.2.2.1 hP 1 3 (by rw [wd_at (by decide)]; rfl) rfl hg dd (k H locs ls hP hS hl)
theorem v_aaldS (C : CX S X cc nL own d) {i : Int32} (hg : gin i 4) (dd : decode cc pc = .ok (.aaload, 1)) (k : V S X nL M (pc + 1) lv (.ref (S.2.1 (19 + 2 * i.toNatClampNeg)) :: st)) : V S X nL M pc lv (.int i :: .ref (S.2.1 2) :: st) := fun H locs ls hP hS hl =>
  va_aldq (f := fun j => some (S.2.1 (19 + 2 * j))) C.1 C.2.1 C.2.2.2.2.2.1 hP 2 4 (by rw [wd_at (by decide)]; rfl) rfl hg dd (k H locs ls hP hS hl)
theorem v_aaldL (C : CX S X cc nL own d) {i : Int32} (hg : gin i 10) (dd : decode cc pc = .ok (.aaload, 1)) (k : V S X nL M (pc + 1) lv (.ref (S.2.1 (45 + i.toNatClampNeg)) :: st)) : V S X nL M pc lv (.int i :: .ref (S.2.1 44) :: st) := fun H locs ls hP hS hl =>
  va_aldq (f := fun j => some (S.2.1 (45 + j))) C.1 C.2.1 C.2.2.2.2.2.1 hP 44 5 (by rw [wd_at (by decide)]; rfl) rfl hg dd (k H locs ls hP hS hl)
theorem v_aaldR (C : CX S X cc nL own d) {i : Int32} (hg : gin i 14) (dd : decode cc pc = .ok (.aaload, 1)) (k : V S X nL M (pc + 1) lv (.ref (S.2.1 (29 + i.toNatClampNeg)) :: st)) : V S X nL M pc lv (.int i :: .ref (S.2.1 28) :: st) := fun H locs ls hP hS hl => by
  have hlt : i.toNatClampNeg < 14 := Nat.not_le.mp fun q => hg (Or.inr q)
  have ha : (wd S M)[28]? = some (S.2.1 28, .inl (S.2.2 6, 14, .inr (.inr (.inr (.inr (fun j => some (S.2.1 (29 + j)))))))) := by rw [wd_at (by decide)]; rfl
  exact W.aald (v := .ref (S.2.1 (29 + i.toNatClampNeg))) (ty := .array .int) C.1 C.2.1 (hP 28 _ ha) ((C.2.2.2.2.2.1.2 6 (S.2.2 6, .array .int) rfl).1 14 (fun j => va_rf (some (S.2.1 (29 + j))))) rfl (fun q => by cases q) (by show ¬ (i < 0 ∨ (arrV _ _ _).slots.size ≤ _); rw [arrV_size]; exact hg) (by show (arrV _ _ _).slots[_]? = _; rw [arrV_read _ _ hlt]; rfl) rfl rfl dd (k H locs ls hP hS hl)
-- ===== returns =====
section VRT
variable {rt : Option FieldType} {r : Option Value} {M' : Mem}
theorem v_iret (C : CX S X cc nL own d) {v : Int32} (K : RT S X (some .int) (some (.int v)) M) (dd : decode cc pc = .ok (.ireturn, 1)) : V S X nL M pc lv [.int v] := fun H locs ls hP hS hl => by
  obtain ⟨k1, k2, k3, k4, k5⟩ := K
  rw [k3, k4, k5]
  exact W.iret C.1 C.2.1 k1 (fun t ht hW => ⟨rfl, by rw [ht]; exact hP, va_K.moved hW.alike C.2.2.2.2.2.1, hS.F ht⟩) hS.2.2 dd k2
theorem v_zret (C : CX S X cc nL own d) {v : Int32} (hz : v = 0 ∨ v = 1) (K : RT S X (some .boolean) (some (.int v)) M) (dd : decode cc pc = .ok (.ireturn, 1)) : V S X nL M pc lv [.int v] := fun H locs ls hP hS hl => by
  obtain ⟨k1, k2, k3, k4, k5⟩ := K
  rw [k3, k4, k5]
  exact W.zret C.1 C.2.1 k1 (by rcases hz with rfl | rfl <;> decide +kernel) (fun t ht hW => ⟨rfl, by rw [ht]; exact hP, va_K.moved hW.alike C.2.2.2.2.2.1, hS.F ht⟩) hS.2.2 dd k2
theorem v_lret (C : CX S X cc nL own d) {v : Int64} (K : RT S X (some .long) (some (.long v)) M) (dd : decode cc pc = .ok (.lreturn, 1)) : V S X nL M pc lv [.long v] := fun H locs ls hP hS hl => by
  obtain ⟨k1, k2, k3, k4, k5⟩ := K
  rw [k3, k4, k5]
  exact W.lret C.1 C.2.1 k1 (fun t ht hW => ⟨rfl, by rw [ht]; exact hP, va_K.moved hW.alike C.2.2.2.2.2.1, hS.F ht⟩) hS.2.2 dd k2
theorem v_fret (C : CX S X cc nL own d) {v : UInt32} (K : RT S X (some .float) (some (.float v)) M) (dd : decode cc pc = .ok (.freturn, 1)) : V S X nL M pc lv [.float v] := fun H locs ls hP hS hl => by
  obtain ⟨k1, k2, k3, k4, k5⟩ := K
  rw [k3, k4, k5]
  exact W.fret C.1 C.2.1 k1 (fun t ht hW => ⟨rfl, by rw [ht]; exact hP, va_K.moved hW.alike C.2.2.2.2.2.1, hS.F ht⟩) hS.2.2 dd k2
theorem v_vret (C : CX S X cc nL own d) (K : RT S X none none M) (dd : decode cc pc = .ok (.return_, 1)) : V S X nL M pc lv [] := fun H locs ls hP hS hl => by
  obtain ⟨k1, k2, k3, k4, k5⟩ := K
  rw [k3, k4, k5]
  exact W.vret C.1 C.2.1 k1 (fun t ht hW => ⟨rfl, by rw [ht]; exact hP, va_K.moved hW.alike C.2.2.2.2.2.1, hS.F ht⟩) hS.2.2 dd k2
theorem v_aret (C : CX S X cc nL own d) {a : Nat} {cn : String} (K : RT S X (some (.object cn)) (some (.ref a)) M) (dd : decode cc pc = .ok (.areturn, 1)) : V S X nL M pc lv [.ref a] := fun H locs ls hP hS hl => by
  obtain ⟨k1, k2, k3, k4, k5⟩ := K
  rw [k3, k4, k5]
  exact W.aret C.1 C.2.1 k1 (Or.inl ⟨_, rfl⟩) (Or.inr ⟨_, rfl⟩) (fun t ht hW => ⟨rfl, by rw [ht]; exact hP, va_K.moved hW.alike C.2.2.2.2.2.1, hS.F ht⟩) hS.2.2 dd k2
end VRT
-- ===== calls =====
/-- what the tables say of a method that is called: an instance method, a static one -/
def CIV (y : MethodName) (cy : ByteArray) (ny : Nat) (ry : Option FieldType) (n : Nat) : Prop := Cond.code y cy ny ry ∈ tw ∧ Cond.initialized y.cls ∈ tw ∧ Cond.instanceMethod y ∈ tw ∧ Cond.selects y.cls y y ∈ tw ∧ ny ≤ 21 ∧ y.cls ≠ "java/lang/invoke/MethodHandle" ∧ y.cls ≠ "java/lang/invoke/VarHandle" ∧ (parseMethodDescriptor y.desc).map (fun d => d.parameters.length) = some n
def CIS (y : MethodName) (cy : ByteArray) (ny : Nat) (ry : Option FieldType) (n : Nat) : Prop := Cond.code y cy ny ry ∈ tw ∧ Cond.initialized y.cls ∈ tw ∧ Cond.static y ∈ tw ∧ ny ≤ 21 ∧ y.cls ≠ "java/lang/invoke/MethodHandle" ∧ y.cls ≠ "java/lang/invoke/VarHandle" ∧ (parseMethodDescriptor y.desc).map (fun d => d.parameters.length) = some n
theorem pc_blind {S : SE} {args : List Value} {M : Mem} : FrameBlind (PC S args M) := fun a U g mk q => by
  obtain ⟨q0, q1, q2, q3⟩ := q
  exact ⟨q0, q1, va_K.moved (u := U) (U := U.calling g mk a) (Vm.Alike.refl U.vm) q2, q3.same (U := U.calling g mk a) rfl⟩
theorem cb_len {y : MethodName} {n : Nat} (h2 : (parseMethodDescriptor y.desc).map (fun d => d.parameters.length) = some n) : ∀ sig, parseMethodDescriptor y.desc = some sig → n = sig.parameters.length := fun sig h => by
  rw [h] at h2
  exact (Option.some.inj h2).symm
theorem ws_pay {args : Array Value} {s : State} (hts : ∀ w ∈ tw, w.before args s = true) {w0 : Cond} (h0 : w0 ∈ tw) : ∀ w ∈ w0 :: tw, ∀ (a' : Array Value) (U : State), s.WarmedH U.vm → w.before a' U = true := fun w hw => (List.mem_cons.mp hw).elim (fun e => e ▸ tw_pay hts w0 h0) (tw_pay hts w)
section VCALL
variable {y : MethodName} {cy : ByteArray} {ny : Nat} {ry : Option FieldType} {n dy idx : Nat} {As : List Value} {M1 : Mem} {r : Option Value}
theorem v_run {a : Array Value} {rest : List Value} {Hh : Heap} {locs0 : List Loc} {ls : Array Slot} (hI : Inj S)
    (hr : va_Run X.1 X.2.1 X.2.2.1 X.2.2.2.1 X.2.2.2.2.1 X.2.2.2.2.2.1 X.2.2.2.2.2.2.1 X.2.2.2.2.2.2.2.1 X.2.2.2.2.2.2.2.2.1 X.2.2.2.2.2.2.2.2.2.1 Hh locs0 X.2.2.2.2.2.2.2.2.2.2.1 X.2.2.2.2.2.2.2.2.2.2.2.1 0 0 (F0 X.2.2.2.2.2.1 pc ls st) rest (QC S r M1 a) (AA S))
    (hS : va_S (AA S) X.2.2.2.2.1.heap Hh locs0) (hl : lv_has ls nL lv) (k : V S X nL M1 (pc + 3) lv (r.toList ++ rest)) : W X.1 X.2.1 X.2.2.1 X.2.2.2.1 X.2.2.2.2.1 X.2.2.2.2.2.1 X.2.2.2.2.2.2.1 X.2.2.2.2.2.2.2.1 X.2.2.2.2.2.2.2.2.1 X.2.2.2.2.2.2.2.2.2.1 Hh locs0 X.2.2.2.2.2.2.2.2.2.2.1 X.2.2.2.2.2.2.2.2.2.2.2.1 X.2.2.2.2.2.2.2.2.2.2.2.2 (F0 X.2.2.2.2.2.1 pc ls st) := by
  intro T hT Xs
  obtain ⟨v, st₀, t, T', L, h0, X', hL, e1, e2, ⟨hv, hP1, hK1, hz, hk⟩, stp⟩ := hr T hT Xs
  have hv : v = r := by cases hv; rfl
  subst hv
  rw [h0] at hz hk
  obtain ⟨t2, a1, b1⟩ := k T'.heap (locs0 ++ L) ls (by rw [e1]; exact hP1)
    ⟨Nat.le_trans hS.1 (by rw [e1]; exact hz), fun q h1 h2 => by rw [e1, hk q (Nat.lt_of_lt_of_le h1 hS.1) h2]; exact hS.2.1 q h1 h2, fun q hq => by
      rcases List.mem_append.mp hq with h | h
      · exact hS.2.2 q h
      · exact hL q h⟩ hl T' rfl X'
  exact ⟨t2, stp t2 a1, b1⟩
/-- a call of an instance method of the own class or of a package's one -/
theorem v_callV (C : CX S X cc nL own d) (rest : List Value) {o ci : Nat} {fs : List Value} {q : vw_C} (hc : vwCl[ci]? = some q) (hq : q.1 = y.cls) (ho : ent S.2.1 S.2.2 M o = .inr (ci, fs)) (hon : o < NC) (hM : CM S y cy ny ry dy (.ref (S.2.1 o) :: As) M r M1) (ii : CIV y cy ny ry n) (hw : Cond.methodLink own idx y ∈ tw) (hd : dy + 1 ≤ d) (hn : As.length = n) (hst : st = As.reverse ++ .ref (S.2.1 o) :: rest) (hr : (rest.map fun v => v.category).sum ≤ 8) (dd : decode cc pc = .ok (.invokevirtual idx, 3)) (k : V S X nL M1 (pc + 3) lv (r.toList ++ rest)) : V S X nL M pc lv st := fun H locs ls hP hS hl => by
  obtain ⟨hx, hb, hml, hown, hts, hK, hI, hf, hlo, hce, hsl, hN⟩ := C
  obtain ⟨i1, i2, i3, i4, i5, i6, i7, i8⟩ := ii
  refine v_run hI (va_runV (C := y.cls) (bytes := cy) (maxL := ny) (ret := ry) (As := As) (rest := rest) (b := S.2.1 o) ⟨hx, hb, hml, hown, hts⟩ (hM _) ⟨⟨rfl, rfl, by show dy + 1 ≤ _; omega, by show 8 + (ny + 11) + 40 * dy ≤ _; omega, ws_pay hts i1, List.mem_cons_self, hts _ i1, hts _ i2, ⟨i6, i7⟩, cb_len i8, hts _ hw⟩, hts _ i3, hts _ i4⟩ ⟨pc_blind, ?_, fun U hU hW => ⟨rfl, by rw [hU]; exact hP, va_K.moved hW.alike hK, hN.warm hW⟩⟩ rfl hn hl.1 hst (by show 2 * 0 + _ ≤ 8; omega) dd ⟨by omega, by omega⟩) hS hl k
  have h1 := va_recv hK hP (ci := ci) (q0 := o) hc (by rw [wd_at hon, ho])
  rw [hq] at h1
  exact h1
theorem v_callS (C : CX S X cc nL own d) (rest : List Value) (hM : CM S y cy ny ry dy As M r M1) (ii : CIS y cy ny ry n) (hw : Cond.methodLink own idx y ∈ tw) (hd : dy + 1 ≤ d) (hn : As.length = n) (hst : st = As.reverse ++ rest) (hr : (rest.map fun v => v.category).sum ≤ 8) (dd : decode cc pc = .ok (.invokestatic idx, 3)) (k : V S X nL M1 (pc + 3) lv (r.toList ++ rest)) : V S X nL M pc lv st := fun H locs ls hP hS hl => by
  obtain ⟨hx, hb, hml, hown, hts, hK, hI, hf, hlo, hce, hsl, hN⟩ := C
  obtain ⟨i1, i2, i3, i5, i6, i7, i8⟩ := ii
  exact v_run hI (va_runS (bytes := cy) (maxL := ny) (ret := ry) (As := As) (rest := rest) ⟨hx, hb, hml, hown, hts⟩ (hM _) ⟨⟨rfl, rfl, by show dy + 1 ≤ _; omega, by show 8 + (ny + 11) + 40 * dy ≤ _; omega, ws_pay hts i1, List.mem_cons_self, hts _ i1, hts _ i2, ⟨i6, i7⟩, cb_len i8, hts _ hw⟩, hts _ i3⟩ ⟨pc_blind, fun U hU hW => ⟨rfl, by rw [hU]; exact hP, va_K.moved hW.alike hK, hN.warm hW⟩⟩ rfl hn hl.1 hst (by show 2 * 0 + _ ≤ 8; omega) dd ⟨by omega, by omega⟩) hS hl k
theorem v_callSN (C : CX S X cc nL own d) (rest : List Value) (hM : CM S y cy ny ry dy As M r M1) (ii : CIS y cy ny ry n) (hw : (own, idx, y) ∈ nwL) (hd : dy + 1 ≤ d) (hn : As.length = n) (hst : st = As.reverse ++ rest) (hr : (rest.map fun v => v.category).sum ≤ 8) (dd : decode cc pc = .ok (.invokestatic idx, 3)) (k : V S X nL M1 (pc + 3) lv (r.toList ++ rest)) : V S X nL M pc lv st := fun H locs ls hP hS hl => by
  obtain ⟨hx, hb, hml, hown, hts, hK, hI, hf, hlo, hce, hsl, hN⟩ := C
  obtain ⟨i1, i2, i3, i5, i6, i7, i8⟩ := ii
  exact v_run hI (va_runSN (host := "UnnestPlans") (bytes := cy) (maxL := ny) (ret := ry) (As := As) (rest := rest) ⟨hx, hb, hml, hown, hts⟩ (hM _) ⟨⟨⟨rfl, rfl, by show dy + 1 ≤ _; omega, by show 8 + (ny + 11) + 40 * dy ≤ _; omega, ws_pay hts i1, List.mem_cons_self⟩, hts _ i1, hts _ i2, ⟨i6, i7⟩, cb_len i8, va_Nw.use rfl (hN _ hw)⟩, hts _ i3, trivial⟩ ⟨pc_blind, fun U hU hW => ⟨rfl, by rw [hU]; exact hP, va_K.moved hW.alike hK, hN.warm hW⟩⟩ rfl hn hl.1 hst (by show 2 * 0 + _ ≤ 8; omega) dd ⟨by omega, by omega⟩) hS hl k
end VCALL
-- ===== fields =====
theorem v_getf (C : CX S X cc nL own d) {o ci N idx kf : Nat} {fs : List Value} {Cn : String} {T : u_T} {v : Value} (hon : o < NC) (ho : ent S.2.1 S.2.2 M o = .inr (ci, fs)) (hc : vwCl[ci]? = some (Cn, T, N)) (hin : ∀ w ∈ u_ws Cn T N, w ∈ tw) (hk : kf < N) (hv : fs[kf]? = some v) (hcn : (T kf).1 = Cn) (hw : Cond.fieldLink own idx Cn (T kf).2.1 (T kf).2.2.1 ∈ tw) (dd : decode cc pc = .ok (.getfield idx, 3)) (k : V S X nL M (pc + 3) lv (v :: st)) : V S X nL M pc lv (.ref (S.2.1 o) :: st) := fun H locs ls hP hS hl =>
  va_get (D := S.1) (ref := Cn) C.1 C.2.1 C.2.2.2.2.1 hin C.2.2.2.1 C.2.2.2.2.2.1 hP o (by rw [wd_at hon, ho]) hc kf hk (C.2.2.2.2.1 _ hw) (fun x h9 => by rw [hcn] at h9; exact h9) hv dd (k H locs ls hP hS hl)
theorem v_putf (C : CX S X cc nL own d) {o ci N idx kf : Nat} {fs : List Value} {Cn : String} {T : u_T} {v : Value} {M1 : Mem} {ty : FieldType} (hon : o < NC) (ho : ent S.2.1 S.2.2 M o = .inr (ci, fs)) (hc : vwCl[ci]? = some (Cn, T, N)) (hin : ∀ w ∈ u_ws Cn T N, w ∈ tw) (ty0 : Nat → FieldType) (hty : ∀ k, k < N → parseFieldDescriptor (T k).2.2.1 = some (ty0 k)) (hnm : ∀ a, a < N → ∀ b, b < N → a ≠ b → (T a).2.1 ≠ (T b).2.1) (hk : kf < N) (hl0 : kf < fs.length) (hcn : (T kf).1 = Cn) (hfin : (T kf).2.2.2 = false) (hd : parseFieldDescriptor (T kf).2.2.1 = some ty) (hn : narrow ty v = v) (hfit : fits ty v = true) (he1 : ent S.2.1 S.2.2 M1 o = .inr (ci, fs.set kf v)) (hne : ∀ i, i ≠ o → ent S.2.1 S.2.2 M1 i = ent S.2.1 S.2.2 M i) (hw : Cond.fieldLink own idx Cn (T kf).2.1 (T kf).2.2.1 ∈ tw) (dd : decode cc pc = .ok (.putfield idx, 3)) (k : V S X nL M1 (pc + 3) lv st) : V S X nL M pc lv (v :: .ref (S.2.1 o) :: st) := fun H locs ls hP hS hl => by
  refine va_put (D := S.1) (ref := Cn) C.1 C.2.1 C.2.2.2.2.1 hin ty0 hty hnm C.2.2.2.1 C.2.2.2.2.2.1 hP (wd_D C.2.2.2.2.2.2.1) hS o (by rw [wd_at hon, ho]) hc kf hk (C.2.2.2.2.1 _ hw) (fun x h9 => by rw [hcn] at h9; exact h9) hfin hd hn hfit hl0 dd (fun H1 locs1 hP1 _ hS1 => ?_)
  rw [wd_set hon he1 hne] at hP1
  exact k H1 locs1 ls hP1 hS1 hl
end VR
theorem gin_lt {i : Int32} {n : Nat} (h : gin i n) : i.toNatClampNeg < n := Nat.not_le.mp fun q => h (Or.inr q)
theorem kd_at (f : Nat → Nat) (n t : Nat) (hc : (List.range n).all (fun j => kd (f j) == t) = true) {j : Nat} (h : j < n) : kd (f j) = t := by simpa using List.all_eq_true.mp hc j (List.mem_range.mpr h)
theorem ln_at (f : Nat → Nat) (n t : Nat) (hc : (List.range n).all (fun j => ln (f j) == t) = true) {j : Nat} (h : j < n) : ln (f j) = t := by simpa using List.all_eq_true.mp hc j (List.mem_range.mpr h)
theorem kd_T {i : Int32} (h : gin i 3) : kd (13 + 2 * i.toNatClampNeg) = 10 := kd_at (fun j => 13 + 2 * j) 3 10 (by decide +kernel) (gin_lt h)
theorem kd_S {i : Int32} (h : gin i 4) : kd (19 + 2 * i.toNatClampNeg) = 6 := kd_at (fun j => 19 + 2 * j) 4 6 (by decide +kernel) (gin_lt h)
theorem kd_L {i : Int32} (h : gin i 10) : kd (45 + i.toNatClampNeg) = 9 := kd_at (fun j => 45 + j) 10 9 (by decide +kernel) (gin_lt h)
theorem kd_R {i : Int32} (h : gin i 14) : kd (29 + i.toNatClampNeg) = 20 := kd_at (fun j => 29 + j) 14 20 (by decide +kernel) (gin_lt h)
theorem ln_R {i : Int32} (h : gin i 14) : ln (29 + i.toNatClampNeg) = 220 := ln_at (fun j => 29 + j) 14 220 (by decide +kernel) (gin_lt h)
theorem tw_ws {C : String} {T : u_T} {N : Nat} (ps : List Nat) (h : u_ws C T N = ps.filterMap (fun i => lw_tbl[i]?)) (hg : (u_ws C T N).all goodWord = true) : ∀ w ∈ u_ws C T N, w ∈ tw := by
  intro w hw
  have h1 := List.all_eq_true.mp hg w hw
  rw [h] at hw
  obtain ⟨i, -, hi⟩ := List.mem_filterMap.mp hw
  exact tw_in i hi h1
theorem inw0 : ∀ w ∈ u_ws RX0 TX0 4, w ∈ tw := tw_ws [293, 295, 297, 299] (by decide +kernel) (by decide +kernel)
theorem inw1 : ∀ w ∈ u_ws RX1 TX1 3, w ∈ tw := tw_ws [263, 265, 267] (by decide +kernel) (by decide +kernel)
theorem inw2 : ∀ w ∈ u_ws RX2 TX2 4, w ∈ tw := tw_ws [319, 321, 323, 325] (by decide +kernel) (by decide +kernel)
theorem inw3 : ∀ w ∈ u_ws RX3 TX3 3, w ∈ tw := tw_ws [179, 181, 183] (by decide +kernel) (by decide +kernel)
theorem inw4 : ∀ w ∈ u_ws RX4 TX4 10, w ∈ tw := tw_ws [349, 351, 353, 355, 357, 359, 361, 363, 365, 367] (by decide +kernel) (by decide +kernel)
theorem inw5 : ∀ w ∈ u_ws RX5 TX5 6, w ∈ tw := tw_ws [381, 383, 385, 387, 389, 391] (by decide +kernel) (by decide +kernel)
theorem inw6 : ∀ w ∈ u_ws RX6 TX6 3, w ∈ tw := tw_ws [216, 218, 220] (by decide +kernel) (by decide +kernel)
theorem inw7 : ∀ w ∈ u_ws RX7 TX7 4, w ∈ tw := tw_ws [161, 163, 165, 167] (by decide +kernel) (by decide +kernel)
theorem inw8 : ∀ w ∈ u_ws RX8 TX8 4, w ∈ tw := tw_ws [134, 136, 138, 140] (by decide +kernel) (by decide +kernel)
theorem inw9 : ∀ w ∈ u_ws RX9 TX9 6, w ∈ tw := tw_ws [244, 246, 248, 250, 252, 254] (by decide +kernel) (by decide +kernel)
theorem inw10 : ∀ w ∈ u_ws RX10 TX10 2, w ∈ tw := tw_ws [198, 200] (by decide +kernel) (by decide +kernel)
theorem inw11 : ∀ w ∈ u_ws RX11 TX11 9, w ∈ tw := tw_ws [403, 405, 407, 409, 411, 413, 415, 417, 419] (by decide +kernel) (by decide +kernel)
theorem inw12 : ∀ w ∈ u_ws RX12 TX12 44, w ∈ tw := tw_ws [930, 932, 934, 936, 938, 940, 942, 944, 946, 948, 950, 952, 954, 956, 958, 960, 962, 964, 966, 968, 970, 972, 974, 976, 978, 980, 982, 984, 986, 988, 990, 992, 994, 996, 998, 1000, 1002, 1004, 1006, 1008, 1010, 1012, 1014, 1016] (by decide +kernel) (by decide +kernel)
