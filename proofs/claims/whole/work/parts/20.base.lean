-- ===== PURE: numbers and memory =====
theorem fu_lt : 512 < FU := by decide
/-- an index that is a natural number -/
theorem gin_nI {n N : Nat} (h : n < 2 ^ 31) : gin (nI n) N ↔ n < N := by
  unfold gin
  rw [nI_clamp h]
  constructor
  · intro q
    exact Nat.not_le.mp fun w => q (Or.inr w)
  · rintro q (w | w)
    · exact nI_pos h w
    · omega
theorem gin_t {n N : Nat} (h : n < N) (hN : N < 2 ^ 31) : gin (nI n) N := (gin_nI (by omega)).mpr h
theorem gin_e {x : Int32} {N : Nat} (h : gin x N) (hN : N < 2 ^ 31) : ∃ n, n < N ∧ x = nI n := vp_in_of h hN
theorem gd_t {c : Prop} [Decidable c] {α : Type} {a : Option α} {r : Option α} (hc : c) (h : a = r) : (if c then a else none) = r := by rw [if_pos hc]; exact h
theorem bn {α β : Type} {e : α} {f : α → β} : bnd e f = f e := rfl
theorem ms (M : Mem) (c k : Nat) (v : Int32) (c' k' : Nat) : mset M c k v c' k' = if c' = c then (if k' = k then v else M c k') else M c' k' := by
  unfold mset upd
  by_cases h : c' = c
  · rw [if_pos h, if_pos h]
  · rw [if_neg h, if_neg h]
theorem ms_s (M : Mem) (c k : Nat) (v : Int32) : mset M c k v c k = v := by rw [ms, if_pos rfl, if_pos rfl]
theorem ms_c (M : Mem) {c k : Nat} (v : Int32) {c' k' : Nat} (h : c' ≠ c) : mset M c k v c' k' = M c' k' := by rw [ms, if_neg h]
theorem ms_k (M : Mem) {c k : Nat} (v : Int32) {c' k' : Nat} (h : k' ≠ k) : mset M c k v c' k' = M c' k' := by
  rw [ms]
  by_cases hc : c' = c
  · rw [if_pos hc, if_neg h, hc]
  · rw [if_neg hc]
/-- memory outside a set of places is as it was -/
def Out (P : Nat → Nat → Prop) (M M' : Mem) : Prop := ∀ c k, ¬ P c k → M' c k = M c k
theorem Out.rfl {P : Nat → Nat → Prop} {M : Mem} : Out P M M := fun _ _ _ => Eq.refl _
theorem Out.trans {P : Nat → Nat → Prop} {M M1 M2 : Mem} (h : Out P M M1) (h2 : Out P M1 M2) : Out P M M2 := fun c k q => (h2 c k q).trans (h c k q)
theorem Out.mono {P Q : Nat → Nat → Prop} {M M1 : Mem} (h : Out P M M1) (hs : ∀ c k, P c k → Q c k) : Out Q M M1 := fun c k q => h c k (fun w => q (hs c k w))
theorem Out.set {P : Nat → Nat → Prop} {M : Mem} {c k : Nat} {v : Int32} (h : P c k) : Out P M (mset M c k v) := fun c' k' q => by
  rw [ms]
  by_cases hc : c' = c
  · rw [if_pos hc]
    by_cases hk : k' = k
    · exact absurd h (by rw [← hc, ← hk]; exact q)
    · rw [if_neg hk, hc]
  · rw [if_neg hc]
theorem nI_lit (n : Nat) : nI n = Int32.ofNat n := rfl
theorem i_toInt {n : Nat} (h : n < 2 ^ 31) : (nI n).toInt = (n : Int) := nI_toInt h
theorem i_le {x y : Int32} : x ≤ y ↔ x.toInt ≤ y.toInt := Int32.le_iff_toInt_le
theorem i_lt {x y : Int32} : x < y ↔ x.toInt < y.toInt := Int32.lt_iff_toInt_lt
theorem i_eq {x y : Int32} : x = y ↔ x.toInt = y.toInt := Int32.toInt_inj.symm
theorem nI_sub1 {n : Nat} (h : 0 < n) : nI n - 1 = nI (n - 1) := by
  cases n with
  | zero => exact absurd h (by decide)
  | succ n => exact nI_pred n
theorem nI_div3 {n : Nat} (h : n < 2 ^ 31) : nI n / 3 = nI (n / 3) := pk_div (d := 3) h (by decide) (by decide)
theorem nI_mod3 {n : Nat} (h : n < 2 ^ 31) : nI n - nI n / 3 * 3 = nI (n % 3) := pk_rem (d := 3) h (by decide) (by decide)
theorem nI_inj {a b : Nat} (ha : a < 2 ^ 31) (hb : b < 2 ^ 31) (h : nI a = nI b) : a = b := (nI_eq ha hb).mp h
theorem nI_ne {a b : Nat} (ha : a < 2 ^ 31) (hb : b < 2 ^ 31) (h : a ≠ b) : ¬ nI a = nI b := fun q => h (nI_inj ha hb q)
theorem nI_nm1 {n : Nat} (h : n < 2 ^ 31) : ¬ nI n = -1 := fun q => by
  have := congrArg Int32.toInt q
  rw [nI_toInt h] at this
  have h2 : (-1 : Int32).toInt = -1 := by decide
  omega
theorem cl0 : (0 : Int32).toNatClampNeg = 0 := by decide
theorem cl1 : (1 : Int32).toNatClampNeg = 1 := by decide
theorem cl2 : (2 : Int32).toNatClampNeg = 2 := by decide
/-- an argument within 0 .. n - 1, by both sides' tests -/
theorem within_t {j n : Nat} (h : j < n) (hn : n < 2 ^ 31) : f_U_within (nI j) (nI n) = 1 := by
  unfold f_U_within
  rw [if_neg (nI_pos (by omega)), if_neg (fun q => by rw [nI_leI hn (by omega)] at q; omega)]
theorem within_iff {x : Int32} {n : Nat} (hn : n < 2 ^ 31) : ¬ f_U_within x (nI n) = 0 ↔ ∃ j, j < n ∧ x = nI j := by
  constructor
  · intro h
    unfold f_U_within at h
    by_cases h0 : x < 0
    · rw [if_pos h0] at h; exact absurd rfl h
    · rw [if_neg h0] at h
      by_cases h1 : nI n ≤ x
      · rw [if_pos h1] at h; exact absurd rfl h
      · obtain ⟨j, hj, e, -⟩ := pk_mu h0 h1 hn
        exact ⟨j, hj, e⟩
  · rintro ⟨j, hj, rfl⟩
    rw [within_t hj hn]
    decide
theorem add_toInt {a b : Int32} (h1 : -2147483648 ≤ a.toInt + b.toInt) (h2 : a.toInt + b.toInt < 2147483648) : (a + b).toInt = a.toInt + b.toInt := by
  rw [Int32.toInt_add]
  exact Int.bmod_eq_of_le (by omega) (by omega)
theorem sub_toInt {a b : Int32} (h1 : -2147483648 ≤ a.toInt - b.toInt) (h2 : a.toInt - b.toInt < 2147483648) : (a - b).toInt = a.toInt - b.toInt := by
  rw [Int32.toInt_sub]
  exact Int.bmod_eq_of_le (by omega) (by omega)
/-- the first places of a row hold a list -/
def AH (f : Nat → Int32) (l : List Int32) : Prop := ∀ j, j < l.length → f j = l.getD j 0
theorem AH.nil {f : Nat → Int32} : AH f [] := fun j h => absurd h (Nat.not_lt_zero j)
theorem AH.snoc {f g : Nat → Int32} {l : List Int32} {x : Int32} (h : AH f l) (hg : ∀ j, j < l.length → g j = f j) (hx : g l.length = x) : AH g (l ++ [x]) := by
  intro j hj
  rw [List.length_append] at hj
  have hj : j < l.length + 1 := hj
  by_cases e : j < l.length
  · rw [hg j e, h j e, List.getD_eq_getElem?_getD, List.getD_eq_getElem?_getD, List.getElem?_append_left e]
  · have e2 : j = l.length := by omega
    subst e2
    rw [hx, List.getD_eq_getElem?_getD, List.getElem?_append_right (Nat.le_refl _), Nat.sub_self]
    rfl
theorem AH.same {f g : Nat → Int32} {l : List Int32} (h : AH f l) (hg : ∀ j, j < l.length → g j = f j) : AH g l := fun j hj => (hg j hj).trans (h j hj)
