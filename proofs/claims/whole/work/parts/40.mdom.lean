-- ===== the domain of the reference =====
theorem hun_01 (l : List (Int32 × Int32)) : hun l = 0 ∨ hun l = 1 := by unfold hun; split; exact Or.inr rfl; exact Or.inl rfl
theorem m_ofVL {M : Mem} {L : List (Int32 × Int32)} {sk : Int32} (hS : StM M L sk) : ∀ (l : List (Int32 × Int32)) (i fuel : Nat) (a : Int32), l = L.drop i → i ≤ L.length → l.length < fuel → (a = 0 ∨ a = 1) → f_Mo_isOfV_l26 fuel a (nI i) M = some (if a = 0 then hun l else 1) := by
  have hL := hS.1
  intro l
  induction l with
  | nil =>
    intro i fuel a hl hi hf ha
    have hf : 0 < fuel := hf
    obtain ⟨g, rfl⟩ : ∃ g, fuel = g + 1 := ⟨fuel - 1, by omega⟩
    have hi2 := dnil hl
    show f_Mo_isOfV_l26B (f_Mo_isOfV_l26 g) a (nI i) M = _
    unfold f_Mo_isOfV_l26B
    rw [hS.2.1, show i = L.length by omega, if_pos (Int32.le_refl _), if_pos ha]
    rcases ha with h | h <;> subst h <;> rfl
  | cons x l ih =>
    intro i fuel a hl hi hf ha
    have hf : l.length + 1 < fuel := hf
    obtain ⟨g, rfl⟩ : ∃ g, fuel = g + 1 := ⟨fuel - 1, by omega⟩
    obtain ⟨e1, e2, e3, e4⟩ := hS.2.2.1.at hl
    have G : gin (nI i) 12 := gin_t (by omega) (by decide)
    show f_Mo_isOfV_l26B (f_Mo_isOfV_l26 g) a (nI i) M = _
    unfold f_Mo_isOfV_l26B f_Mo_isOfV_b48 f_Mo_isOfV_b53
    rw [hS.2.1, if_neg (fun q => by have := (nI_leI (by omega) (by omega)).mp q; omega), nI_1]
    have n1 := ih (i + 1) g 1 e3 (by omega) (by omega) (Or.inr rfl)
    have n0 := ih (i + 1) g 0 e3 (by omega) (by omega) (Or.inl rfl)
    rw [if_neg (show ¬ (1 : Int32) = 0 by decide)] at n1
    rw [if_pos rfl] at n0
    rcases ha with h | h
    · subst h
      rw [if_pos rfl, if_pos rfl, if_pos G, nI_clamp (by omega), e1]
      unfold hun at n0 ⊢
      by_cases c : x.1 = 4
      · rw [if_pos c, n1, List.any_cons, decide_eq_true c, Bool.true_or, if_pos rfl]
      · rw [if_neg c, n0, List.any_cons, decide_eq_false c, Bool.false_or]
    · subst h
      rw [if_neg (by decide), n1, if_neg (by decide)]
theorem m_isOfV {M : Mem} {L : List (Int32 × Int32)} {sk en : Int32} (hS : StM M L sk) (hE : M 91 10 = en) : f_Mo_isOfV M = some (fuv en L) := by
  have hL := hS.1
  have k := fun a h => m_ofVL hS L 0 FU a rfl (Nat.zero_le _) (Nat.lt_trans (by omega) fu_lt) h
  have k1 := k 1 (Or.inr rfl)
  have k0 := k 0 (Or.inl rfl)
  rw [if_neg (show ¬ (1 : Int32) = 0 by decide)] at k1
  rw [if_pos rfl] at k0
  unfold f_Mo_isOfV f_Mo_isOfV_b18 f_Mo_isOfV_b23 fuv f_U_endSpeaks f_U_endSpeaks_b12
  rw [hE]
  by_cases c7 : en = 7
  · rw [if_pos c7, if_pos c7, if_neg (by decide)]; exact k1
  · rw [if_neg c7, if_neg c7]
    by_cases c8 : en = 8
    · rw [if_pos c8, if_pos c8, if_neg (by decide)]; exact k1
    · rw [if_neg c8, if_neg c8, if_pos rfl]
      have h : (if hun L = 0 then (0 : Int32) else 1) = hun L := by rcases hun_01 L with q | q <;> rw [q] <;> rfl
      rw [h]
      exact k0
def DoIs (M : Mem) (ps : List (Int32 × Int32)) : Prop := M 91 31 = nI ps.length ∧ ps.length ≤ 10 ∧ SH (M 114) (M 115) ps
def DoP (c k : Nat) : Prop := c = 114 ∨ c = 115 ∨ c = 116 ∨ (c = 91 ∧ k = 31)
theorem m_dom1 {r : Nat} (hr : r < 10) {x : Int32 × Int32} {L : List (Int32 × Int32)} (hL : L.length < 10) {M : Mem} (hD : DoIs M L) (hx : M 96 r = x.1) (k7 : Int32 → Mem → Option Mem) : ∀ (l : List (Int32 × Int32)) (i fuel : Nat), l = L.drop i → i ≤ L.length → l.length < fuel →
    ∃ M', f_Mo_findsDomain_l44 k7 fuel (nI r) x.2 (nI i) M = k7 (nI (r + 1)) M' ∧ DoIs M' (if x ∈ l then L else L ++ [x]) ∧ M' 116 r = nI (i + plOf l x) ∧ (∀ q, q ≠ r → M' 116 q = M 116 q) ∧ Out DoP M M' := by
  have Gr : gin (nI r) 20 := gin_t (by omega) (by decide)
  have Gr2 : gin (nI r) 10 := gin_t (by omega) (by decide)
  have hcr : (nI r).toNatClampNeg = r := nI_clamp (by omega)
  intro l
  induction l with
  | nil =>
    intro i fuel hl hi hf
    have hf : 0 < fuel := hf
    obtain ⟨g, rfl⟩ : ∃ g, fuel = g + 1 := ⟨fuel - 1, by omega⟩
    have hi2 := dnil hl
    have Gp : gin (nI L.length) 10 := gin_t hL (by decide)
    have hcp : (nI L.length).toNatClampNeg = L.length := nI_clamp (by omega)
    refine ⟨mset (mset (mset (mset M 114 L.length x.1) 115 L.length x.2) 91 31 (nI (L.length + 1))) 116 r (nI L.length), ?_, ?_, ?_, ?_, ?_⟩
    · show f_Mo_findsDomain_l44B k7 (f_Mo_findsDomain_l44 k7 g) (nI r) x.2 (nI i) M = _
      unfold f_Mo_findsDomain_l44B f_Mo_findsDomain_b83 f_Mo_findsDomain_b120
      rw [hD.1, show i = L.length by omega, if_pos (Int32.le_refl _), if_pos rfl, if_pos Gr, if_pos Gp]
      simp only [hcr, hcp]
      rw [bn, if_pos Gp, bn, bn, if_pos Gr2, bn, hx, ms_c _ _ (show 91 ≠ 115 by decide), ms_c _ _ (show 91 ≠ 114 by decide), hD.1, nI_1, nI_1]
    · rw [if_neg List.not_mem_nil]
      refine ⟨?_, ?_, ?_⟩
      · rw [ms_c _ _ (by decide), ms_s, List.length_append]; rfl
      · rw [List.length_append]; show L.length + 1 ≤ 10; omega
      · refine hD.2.2.snoc (x := x.1) (y := x.2) (fun j hj => ?_) (fun j hj => ?_) ?_ ?_
        · rw [ms_c _ _ (by decide), ms_c _ _ (by decide), ms_c _ _ (by decide), ms_k _ _ (by omega)]
        · rw [ms_c _ _ (by decide), ms_c _ _ (by decide), ms_k _ _ (by omega), ms_c _ _ (by decide)]
        · rw [ms_c _ _ (by decide), ms_c _ _ (by decide), ms_c _ _ (by decide), ms_s]
        · rw [ms_c _ _ (by decide), ms_c _ _ (by decide), ms_s]
    · rw [ms_s, show i = L.length by omega]; rfl
    · intro q hq
      rw [ms_k _ _ hq, ms_c _ _ (by decide), ms_c _ _ (by decide), ms_c _ _ (by decide)]
    · have o0 : ∀ (M : Mem) (c k : Nat) (v : Int32), DoP c k → Out DoP M (mset M c k v) := fun M c k v h => Out.set h
      exact (o0 _ _ _ _ (by unfold DoP; omega)).trans ((o0 _ _ _ _ (by unfold DoP; omega)).trans ((o0 _ _ _ _ (by unfold DoP; omega)).trans (o0 _ _ _ _ (by unfold DoP; omega))))
  | cons y l ih =>
    intro i fuel hl hi hf
    have hf : l.length + 1 < fuel := hf
    obtain ⟨g, rfl⟩ : ∃ g, fuel = g + 1 := ⟨fuel - 1, by omega⟩
    obtain ⟨h1, h2, h3, h4⟩ := hD.2.2.at hl
    have Gi : gin (nI i) 10 := gin_t (by omega) (by decide)
    have hci : (nI i).toNatClampNeg = i := nI_clamp (by omega)
    show ∃ M', f_Mo_findsDomain_l44B k7 (f_Mo_findsDomain_l44 k7 g) (nI r) x.2 (nI i) M = _ ∧ _
    unfold f_Mo_findsDomain_l44B f_Mo_findsDomain_b77
    rw [hD.1, if_neg (fun q => by have := (nI_leI (by omega) (by omega)).mp q; omega), if_pos Gi, if_pos Gr]
    simp only [hcr, hci]
    rw [h1, hx]
    unfold plOf
    by_cases e : y = x
    · rw [if_pos (by rw [e]), if_pos Gi, h2, if_pos (by rw [e]), if_pos e, if_pos (by rw [e]; exact List.mem_cons_self)]
      unfold f_Mo_findsDomain_b83 f_Mo_findsDomain_b120
      rw [hD.1, if_neg (nI_ne (by omega) (by omega) (by omega)), if_pos Gr2]
      simp only [hcr]
      rw [bn, nI_1]
      have o0 : Out (fun c k => c = 116) M (mset M 116 r (nI i)) := Out.set rfl
      refine ⟨_, rfl, ⟨?_, hD.2.1, ?_⟩, ?_, fun q hq => ms_k _ _ hq, o0.mono (fun c k q => by unfold DoP; omega)⟩
      · rw [ms_c _ _ (by decide)]; exact hD.1
      · exact ⟨hD.2.2.1.same (fun j _ => by rw [ms_c _ _ (by decide)]), hD.2.2.2.same (fun j _ => by rw [ms_c _ _ (by decide)])⟩
      · rw [ms_s]; rfl
    · have hk : (if y.1 = x.1 then if gin (nI i) 10 then if M 115 i = x.2 then f_Mo_findsDomain_b83 k7 (nI r) x.2 (nI i) M else f_Mo_findsDomain_l44 k7 g (nI r) x.2 (nI i + 1) M else none else f_Mo_findsDomain_l44 k7 g (nI r) x.2 (nI i + 1) M) = f_Mo_findsDomain_l44 k7 g (nI r) x.2 (nI i + 1) M := by
        by_cases c1 : y.1 = x.1
        · rw [if_pos c1, if_pos Gi, h2, if_neg (fun q => e (Prod.ext c1 q))]
        · rw [if_neg c1]
      rw [hk, nI_1, if_neg e]
      obtain ⟨M', a1, a2, a3, a4, a5⟩ := ih (i + 1) g h3 (by omega) (by omega)
      refine ⟨M', a1, ?_, ?_, a4, a5⟩
      · have : (x ∈ y :: l) ↔ x ∈ l := by
          rw [List.mem_cons]
          exact ⟨fun q => q.resolve_left (fun w => e w.symm), Or.inr⟩
        by_cases hxl : x ∈ l
        · rw [if_pos hxl] at a2; rw [if_pos (this.mpr hxl)]; exact a2
        · rw [if_neg hxl] at a2; rw [if_neg (fun q => hxl (this.mp q))]; exact a2
      · rw [a3, show i + 1 + plOf l x = i + (plOf l x + 1) by omega]
theorem m_domL {lo li L : List (Int32 × Int32)} {sk en : Int32} (hsp : ¬ spn en L = 0) : ∀ (l : List (Int32 × Int32)) (i fuel : Nat) (M : Mem) (ps : List (Int32 × Int32)), l = lo.drop i → i ≤ lo.length → l.length < fuel → StM M L sk → M 91 10 = en → TbM M lo li → DoIs M ps → ps.length ≤ i →
    ∃ M', f_Mo_findsDomain_l7 fuel (nI i) M = some M' ∧ DoIs M' (gth (fuv en L) ps l) ∧ NH (M' 116) (gpl (fuv en L) ps l) i ∧ (∀ q, q < i → M' 116 q = M 116 q) ∧ Out DoP M M' := by
  intro l
  induction l with
  | nil =>
    intro i fuel M ps hl hi hf hS hE hT hD hp
    have hf : 0 < fuel := hf
    obtain ⟨g, rfl⟩ : ∃ g, fuel = g + 1 := ⟨fuel - 1, by omega⟩
    have hi2 := dnil hl
    refine ⟨M, ?_, hD, fun j h => absurd h (Nat.not_lt_zero j), fun _ _ => rfl, Out.rfl⟩
    show f_Mo_findsDomain_l7B (f_Mo_findsDomain_l7 g) (nI i) M = _
    unfold f_Mo_findsDomain_l7B
    rw [cl0, hT.2.2.1, show i = lo.length by omega, if_pos (Int32.le_refl _)]
  | cons x l ih =>
    intro i fuel M ps hl hi hf hS hE hT hD hp
    have hlo := hT.1
    have hf : l.length + 1 < fuel := hf
    obtain ⟨g, rfl⟩ : ∃ g, fuel = g + 1 := ⟨fuel - 1, by omega⟩
    obtain ⟨e1, e2, e3, e4⟩ := hT.2.2.2.2.1.at hl
    have Gi : gin (nI i) 20 := gin_t (by omega) (by decide)
    have hci : (nI i).toNatClampNeg = i := nI_clamp (by omega)
    have hb : f_Mo_findsDomain_l7 (g + 1) (nI i) M = f_Mo_findsDomain_l44 (f_Mo_findsDomain_l7 g) FU (nI i) (prOf (fuv en L) x).2 (nI 0) M := by
      show f_Mo_findsDomain_l7B (f_Mo_findsDomain_l7 g) (nI i) M = _
      unfold f_Mo_findsDomain_l7B f_Mo_findsDomain_b41 prOf
      rw [cl0, hT.2.2.1, if_neg (fun q => by have := (nI_leI (by omega) (by omega)).mp q; omega), m_speaksNow hS hE, Option.bind_some, if_neg hsp, m_isOfV hS hE, Option.bind_some]
      by_cases c : fuv en L = 0
      · rw [if_pos c, if_pos c]; rfl
      · rw [if_neg c, if_neg c, if_pos Gi, hci, e2]; rfl
    obtain ⟨M1, a1, a2, a3, a4, a5⟩ := m_dom1 (r := i) (by omega) (x := prOf (fuv en L) x) (L := ps) (by omega) hD e1 (f_Mo_findsDomain_l7 g) ps 0 FU rfl (Nat.zero_le _) (Nat.lt_trans (by omega) fu_lt)
    have hpl := plAd_len ps (prOf (fuv en L) x)
    have nD : ∀ (c k : Nat), (c = 95 ∨ c = 96 ∨ c = 97 ∨ c = 98 ∨ c = 99 ∨ (c = 91 ∧ (k = 6 ∨ k = 10 ∨ k = 11))) → ¬ DoP c k := fun c k h q => by unfold DoP at q; omega
    have a2 : DoIs M1 (plAd ps (prOf (fuv en L) x)) := a2
    obtain ⟨M2, b1, b2, b3, b4, b5⟩ := ih (i + 1) g M1 (plAd ps (prOf (fuv en L) x)) e3 (by omega) (by omega) (hS.out a5 (fun c k q w => nD c k (by omega) q)) (by rw [a5 _ _ (nD _ _ (by omega))]; exact hE) (hT.out a5 (fun c k q w => nD c k (by omega) q)) a2 (by omega)
    refine ⟨M2, by rw [hb, a1]; exact b1, b2, ?_, fun q hq => by rw [b4 q (by omega)]; exact a4 q (by omega), a5.trans b5⟩
    intro j hj
    cases j with
    | zero =>
      show M2 116 i = _
      rw [b4 i (by omega), a3, Nat.zero_add]
      rfl
    | succ j =>
      have := b3 j (by have : j + 1 < (gpl (fuv en L) (plAd ps (prOf (fuv en L) x)) l).length + 1 := hj; omega)
      rw [show i + (j + 1) = i + 1 + j by omega, this]
      rfl
theorem jat_none {en : Int32} {L : List (Int32 × Int32)} (hL : L.length ≤ 12) (hK : KdOk L) : jat en L = none ↔ spn en L = 0 := by
  have hb := fun k hk => spL_bit L 0 (if f_U_endSpeaks en = 0 then 0 else 4096) k hk (by omega)
  unfold jat
  cases h : fsp 0 L with
  | none =>
    show (if f_U_endSpeaks en = 0 then none else some L.length) = none ↔ _
    by_cases c : f_U_endSpeaks en = 0
    · rw [if_pos c]
      refine ⟨fun _ => ?_, fun _ => rfl⟩
      unfold spn; rw [if_pos c]; exact spL_0 L 0 h hK
    · rw [if_neg c]
      refine ⟨fun q => (by cases q), fun q => ?_⟩
      have hq := (hb 12 (by decide)).mpr (Or.inl (by rw [if_neg c]; exact (isIn_end 12 (by decide)).mpr rfl))
      have q : spL (if f_U_endSpeaks en = 0 then 0 else 4096) 0 L = 0 := q
      rw [q, isIn_0 12 (by decide)] at hq
      exact absurd hq (by decide)
  | some k =>
    refine ⟨fun q => (by cases q), fun q => ?_⟩
    have hk := fsp_ge L 0 k h
    have at_ : ∀ (l : List (Int32 × Int32)) (i : Nat), fsp i l = some k → ∃ x, l[k - i]? = some x ∧ ¬ 4 < x.1 := by
      intro l
      induction l with
      | nil => intro i h; cases h
      | cons y l ih =>
        intro i h
        have hge := fsp_ge _ _ _ h
        unfold fsp at h
        by_cases c : 4 < y.1
        · rw [if_pos c] at h
          have h2 := fsp_ge _ _ _ h
          obtain ⟨x, hx1, hx2⟩ := ih (i + 1) h
          refine ⟨x, ?_, hx2⟩
          rw [show k - i = (k - (i + 1)) + 1 by omega, List.getElem?_cons_succ]
          exact hx1
        · rw [if_neg c] at h
          injection h with h
          subst h
          exact ⟨y, by rw [Nat.sub_self]; rfl, c⟩
    obtain ⟨x, hx1, hx2⟩ := at_ L 0 h
    have hm : x ∈ L := List.mem_of_getElem? hx1
    have hq := (hb k (by omega)).mpr (Or.inr ⟨x, Nat.zero_le _, hx1, fun w => hx2 ((mo_in (hK x hm)).mp w)⟩)
    have q : spL (if f_U_endSpeaks en = 0 then 0 else 4096) 0 L = 0 := q
    rw [q, isIn_0 k (by omega)] at hq
    exact absurd hq (by decide)
/-- the pairs of the reference, and the outer rows' places among them -/
def dps (en : Int32) (L lo : List (Int32 × Int32)) : List (Int32 × Int32) := if jat en L = none then [] else gth (fuv en L) [] lo
theorem m_domain {M : Mem} {lo li L : List (Int32 × Int32)} {sk en : Int32} (hS : StM M L sk) (hE : M 91 10 = en) (hT : TbM M lo li) (hK : KdOk L) : ∃ M', f_Mo_findsDomain M = some M' ∧ DoIs M' (dps en L lo) ∧ (¬ jat en L = none → NH (M' 116) (gpl (fuv en L) [] lo) 0) ∧ Out DoP M M' := by
  have hlo := hT.1
  have hL := hS.1
  unfold f_Mo_findsDomain dps
  rw [bn]
  have o0 : Out DoP M (mset M 91 31 0) := Out.set (by unfold DoP; omega)
  have nD : ∀ (c k : Nat), (c = 95 ∨ c = 96 ∨ c = 97 ∨ c = 98 ∨ c = 99 ∨ (c = 91 ∧ (k = 6 ∨ k = 10 ∨ k = 11))) → ¬ DoP c k := fun c k h q => by unfold DoP at q; omega
  have hS1 := hS.out o0 (fun c k q w => nD c k (by omega) q)
  have hE1 : (mset M 91 31 0) 91 10 = en := by rw [o0 _ _ (nD _ _ (by omega))]; exact hE
  have hT1 := hT.out o0 (fun c k q w => nD c k (by omega) q)
  have hD1 : DoIs (mset M 91 31 0) [] := ⟨by rw [ms_s]; rfl, Nat.zero_le _, AH.nil, AH.nil⟩
  by_cases c : jat en L = none
  · rw [if_pos c]
    have hsp := (jat_none hL hK).mp c
    refine ⟨mset M 91 31 0, ?_, hD1, fun q => absurd c q, o0⟩
    show f_Mo_findsDomain_l7B (f_Mo_findsDomain_l7 999) 0 (mset M 91 31 0) = _
    unfold f_Mo_findsDomain_l7B
    rw [m_speaksNow hS1 hE1, Option.bind_some, if_pos hsp]
    split <;> rfl
  · rw [if_neg c]
    obtain ⟨M', a1, a2, a3, a4, a5⟩ := m_domL (fun q => c ((jat_none hL hK).mpr q)) lo 0 FU (mset M 91 31 0) [] rfl (Nat.zero_le _) (Nat.lt_trans (by omega) fu_lt) hS1 hE1 hT1 hD1 (Nat.le_refl _)
    exact ⟨M', a1, a2, fun _ => a3, o0.trans a5⟩
