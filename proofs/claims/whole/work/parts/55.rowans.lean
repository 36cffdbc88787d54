-- ===== row by row: class and reference answer alike =====
def AnOk (e : Nat) (y : Int32 × Int32) : Prop := ¬ y.1 = -2 ∧ ∃ mn, Nice 144 mn ∧ y.2 = UInt32.toInt32 mn ∧ (e = 4 → ¬ y.1 = -1 → y.2 = y.1)
def RR (sk : Int32) (L : List (Int32 × Int32)) (e : Nat) (s : RS) (m : MS) : Prop :=
  s.1 = m.1 ∧ s.2.1 = m.2.1 ∧ s.2.2.1 = m.2.2.1 ∧ (s.1 = -1 → s.2.2.2.1.map Prod.fst = m.2.2.2.1 ∧ ∀ y, y ∈ s.2.2.2.1 → AnOk e y) ∧
  (sk = -1 → s.2.2.2.2.1 = m.2.2.2.2.1 ∧ nI s.2.2.2.2.2.1 = m.2.2.2.2.2.1 ∧ nI s.2.2.2.2.2.2 = m.2.2.2.2.2.2 ∧ s.2.2.2.2.2.2 ≤ L.length + 1)
theorem rbA_err {en w : Int32} {co li : List (Int32 × Int32)} {s : RS} (h : ¬ s.1 = -1) : ∀ l, rbA en w co li l s = some s := by
  intro l
  cases l with
  | nil => rfl
  | cons x l => show (if s.1 = -1 then _ else some s) = _; rw [if_neg h]
theorem mrA_err {L li : List (Int32 × Int32)} {sk en : Int32} {s : MS} (h : ¬ s.1 = -1) : ∀ l, mrA L li sk en l s = some s := by
  intro l
  cases l with
  | nil => rfl
  | cons x l => show (if s.1 = -1 then _ else some s) = _; rw [if_neg h]
theorem fs1_s (x : Int32 × Int32) (l : List (Int32 × Int32)) (j : Nat) : fs1 (x :: l) (j + 1) = fs1 l j := rfl
theorem cds_s (x : Int32 × Int32) (l : List (Int32 × Int32)) : ∀ (d i : Nat), cds (fs1 (x :: l)) d (i + 1) = cds (fs1 l) d i := by
  intro d
  induction d with
  | zero => intro i; rfl
  | succ d ih => intro i; show fs1 (x :: l) (i + 1) :: cds _ d (i + 1 + 1) = _; rw [ih (i + 1)]; rfl
theorem cdx_s (x : Int32 × Int32) (l : List (Int32 × Int32)) : ∀ (d : Nat), cdx (fs1 (x :: l)) (d + 1) = cdx (fs1 l) d ++ [10 + x.1] := by
  intro d
  induction d with
  | zero => rfl
  | succ d ih =>
    show (10 + fs1 (x :: l) (d + 1)) :: cdx (fs1 (x :: l)) (d + 1) = _
    rw [ih]
    rfl
theorem skp_none {sk : Int32} (hsk : sk = -1) : ∀ (l : List (Int32 × Int32)) (i : Nat), i + l.length ≤ 100 → skp sk i l = l := by
  intro l
  induction l with
  | nil => intro i _; rfl
  | cons x l ih =>
    intro i hi
    have hi' : i + (l.length + 1) ≤ 100 := hi
    show (if nI i = sk then _ else x :: skp sk (i + 1) l) = _
    rw [if_neg (by rw [hsk]; exact nI_nm1 (by omega)), ih (i + 1) (by omega)]
theorem rbA_sim {L li : List (Int32 × Int32)} {sk : Int32} {skn e : Nat} (hsk : ∀ j, j < L.length → (nI j = sk ↔ j = skn)) (hL : L.length ≤ 12) (hli : li.length ≤ 10) (hV : ∀ y, y ∈ li → VK y.1 ∧ VV 10 y.2) (he : e < 9) :
    ∀ (lo : List (Int32 × Int32)) (s : RS) (m : MS), (∀ y, y ∈ lo → VK y.1 ∧ VV 10 y.2) → RR sk L e s m → s.1 = -1 → s.2.2.2.1.length + lo.length ≤ 10 →
    ∃ s' m', rbA (nI e) (wnt (nI e)) (rco sk L) li lo s = some s' ∧ mrA L li sk (nI e) lo m = some m' ∧ RR sk L e s' m' ∧ (s'.1 = -1 → s'.2.2.2.1.length = s.2.2.2.1.length + lo.length) ∧ (s'.1 = -1 ∨ ∃ i, i < s.2.2.2.1.length + lo.length ∧ s'.1 = nI i) := by
  intro lo
  induction lo with
  | nil => intro s m _ h h1 _; exact ⟨s, m, rfl, rfl, h, fun _ => rfl, Or.inl h1⟩
  | cons x lo ih =>
    intro s m hlo h h1 hlen
    have hlen' : s.2.2.2.1.length + (lo.length + 1) ≤ 10 := hlen
    obtain ⟨r1, r2, r3, r4, r5⟩ := h
    obtain ⟨r4a, r4b⟩ := r4 h1
    have hml : m.2.2.2.1.length = s.2.2.2.1.length := by rw [← r4a, List.length_map]
    obtain ⟨x1, x2⟩ := hlo x List.mem_cons_self
    obtain ⟨k1, k2, k3, k4, k5⟩ := crun_sim (en := nI e) (rd := s.2.1) (hd := s.2.2.1) hsk hL x1 x2 hli hV
    obtain ⟨n', hn', hTA⟩ := TA_f (pr := -1) (hv := x.2) (ask1 L li sk (nI e) x s.2.1 s.2.2.1).2.1 tl0 af0 0 (fun y hy => (k4 y hy).2.1) (by omega) TA_0
    rw [tkp_all (pr := -1) _ _ (fun y hy => PM.f.mp (k4 y hy).2.2)] at k3
    have em : mrA L li sk (nI e) (x :: lo) m = (mr1 L li sk (nI e) x m).bind (mrA L li sk (nI e) lo) := by
      show (if m.1 = -1 then _ else some m) = _; rw [if_pos (by rw [← r1]; exact h1)]
    have es : rbA (nI e) (wnt (nI e)) (rco sk L) li (x :: lo) s = (rb1 (nI e) (wnt (nI e)) (rco sk L) li x s).bind (rbA (nI e) (wnt (nI e)) (rco sk L) li lo) := by
      show (if s.1 = -1 then _ else some s) = _; rw [if_pos h1]
    have hlog : sk = -1 → tells (tells s.2.2.2.2.1 (cds (fs1 (rco sk L)) (rco sk L).length 0)) (cdx (fs1 (rco sk L)) (rco sk L).length) = tellF (tells (tells (tellF m.2.2.2.2.1 0) (cds (fs1 L) L.length 0)) (cdx (fs1 L) L.length)) 10 ∧ nI (s.2.2.2.2.2.1 + (rco sk L).length) = m.2.2.2.2.2.1 + 1 + nI L.length ∧ nI (max s.2.2.2.2.2.2 (rco sk L).length) = nI L.length + 1 ∧ max s.2.2.2.2.2.2 (rco sk L).length ≤ L.length + 1 := by
      intro hs
      obtain ⟨q1, q2, q3, q4⟩ := r5 hs
      have er : rco sk L = (0, -1) :: L := by unfold rco; rw [skp_none hs L 0 (by omega)]
      rw [er]
      refine ⟨?_, ?_, ?_, ?_⟩
      · rw [← q1]
        show tells (tells s.2.2.2.2.1 (fs1 ((0, -1) :: L) 0 :: cds (fs1 ((0, -1) :: L)) L.length 1)) (cdx (fs1 ((0, -1) :: L)) (L.length + 1)) = _
        rw [cds_s, cdx_s, tells_app]
        rfl
      · show nI (s.2.2.2.2.2.1 + (L.length + 1)) = _
        rw [← q2, ← nI_add, ← nI_1, Int32.add_assoc, Int32.add_comm 1]
      · show nI (max s.2.2.2.2.2.2 (L.length + 1)) = _
        rw [Nat.max_eq_right q4, nI_1]
      · show max s.2.2.2.2.2.2 (L.length + 1) ≤ _
        rw [Nat.max_eq_right q4]
        exact Nat.le_refl _
    rcases outc (e := e) (hv := x.2) (hv' := x.2) hTA (by omega) he (fun _ => rfl) with ⟨o1, r, mn, o2, o3, o4, o5, o6, o7⟩ | ⟨o1, o2⟩
    · have estl : stl (nI e) x.2 ((crun (rco sk L) none [x] (wnt (nI e)) li s.2.1 s.2.2.1).2.2.2.2 0) (nI s.2.2.2.1.length) s.1 s.2.2.2.1 = some (s.1, s.2.2.2.1 ++ [(r, UInt32.toInt32 mn)]) := by
        unfold stl
        rw [k3, if_pos o1, o2, Option.bind_some, o3]
        rfl
      have e1 : rb1 (nI e) (wnt (nI e)) (rco sk L) li x s = some (s.1, (crun (rco sk L) none [x] (wnt (nI e)) li s.2.1 s.2.2.1).1, (crun (rco sk L) none [x] (wnt (nI e)) li s.2.1 s.2.2.1).2.2.1, s.2.2.2.1 ++ [(r, UInt32.toInt32 mn)], tells (tells s.2.2.2.2.1 (cds (fs1 (rco sk L)) (rco sk L).length 0)) (cdx (fs1 (rco sk L)) (rco sk L).length), s.2.2.2.2.2.1 + (rco sk L).length, max s.2.2.2.2.2.2 (rco sk L).length) := by
        unfold rb1
        rw [estl]
        rfl
      have e2 : mr1 L li sk (nI e) x m = some (-1, (ask1 L li sk (nI e) x s.2.1 s.2.2.1).1, (ask1 L li sk (nI e) x s.2.1 s.2.2.1).2.2.2.1, m.2.2.2.1 ++ [r], tellF (tells (tells (tellF m.2.2.2.2.1 0) (cds (fs1 L) L.length 0)) (cdx (fs1 L) L.length)) 10, m.2.2.2.2.2.1 + 1 + nI L.length, nI L.length + 1) := by
        unfold mr1
        rw [← r2, ← r3, o4, Option.bind_some, if_neg o5]
      rw [em, es, e1, e2, Option.bind_some, Option.bind_some]
      obtain ⟨s', m', i1, i2, i3, i4, i5⟩ := ih (m := (-1, (ask1 L li sk (nI e) x s.2.1 s.2.2.1).1, (ask1 L li sk (nI e) x s.2.1 s.2.2.1).2.2.2.1, m.2.2.2.1 ++ [r], tellF (tells (tells (tellF m.2.2.2.2.1 0) (cds (fs1 L) L.length 0)) (cdx (fs1 L) L.length)) 10, m.2.2.2.2.2.1 + 1 + nI L.length, nI L.length + 1)) (fun y hy => hlo y (List.mem_cons_of_mem _ hy)) (s := (s.1, (crun (rco sk L) none [x] (wnt (nI e)) li s.2.1 s.2.2.1).1, (crun (rco sk L) none [x] (wnt (nI e)) li s.2.1 s.2.2.1).2.2.1, s.2.2.2.1 ++ [(r, UInt32.toInt32 mn)], tells (tells s.2.2.2.2.1 (cds (fs1 (rco sk L)) (rco sk L).length 0)) (cdx (fs1 (rco sk L)) (rco sk L).length), s.2.2.2.2.2.1 + (rco sk L).length, max s.2.2.2.2.2.2 (rco sk L).length))
        ⟨h1, k1, k2, fun _ => ⟨by show (s.2.2.2.1 ++ [(r, UInt32.toInt32 mn)]).map Prod.fst = m.2.2.2.1 ++ [r]; rw [List.map_append, r4a]; rfl, fun y hy => by
          rcases List.mem_append.mp hy with q | q
          · exact r4b y q
          · rw [List.mem_singleton.mp q]; exact ⟨o5, mn, o6, rfl, o7⟩⟩, hlog⟩ h1 (by show (s.2.2.2.1 ++ [(r, UInt32.toInt32 mn)]).length + lo.length ≤ 10; rw [List.length_append]; show s.2.2.2.1.length + 1 + lo.length ≤ 10; omega)
      have el : (s.2.2.2.1 ++ [(r, UInt32.toInt32 mn)]).length + lo.length = s.2.2.2.1.length + (lo.length + 1) := by rw [List.length_append]; show s.2.2.2.1.length + 1 + lo.length = _; omega
      refine ⟨s', m', i1, i2, i3, fun q => ?_, ?_⟩
      · have := i4 q
        exact this.trans el
      · rcases i5 with q | ⟨i, q1, q2⟩
        · exact Or.inl q
        · exact Or.inr ⟨i, by rw [el] at q1; exact q1, q2⟩
    · have estl : stl (nI e) x.2 ((crun (rco sk L) none [x] (wnt (nI e)) li s.2.1 s.2.2.1).2.2.2.2 0) (nI s.2.2.2.1.length) s.1 s.2.2.2.1 = some (nI s.2.2.2.1.length, s.2.2.2.1) := by
        unfold stl
        rw [k3, if_neg o1]
      have e1 : rb1 (nI e) (wnt (nI e)) (rco sk L) li x s = some (nI s.2.2.2.1.length, (crun (rco sk L) none [x] (wnt (nI e)) li s.2.1 s.2.2.1).1, (crun (rco sk L) none [x] (wnt (nI e)) li s.2.1 s.2.2.1).2.2.1, s.2.2.2.1, tells (tells s.2.2.2.2.1 (cds (fs1 (rco sk L)) (rco sk L).length 0)) (cdx (fs1 (rco sk L)) (rco sk L).length), s.2.2.2.2.2.1 + (rco sk L).length, max s.2.2.2.2.2.2 (rco sk L).length) := by
        unfold rb1
        rw [estl]
        rfl
      have e2 : mr1 L li sk (nI e) x m = some (nI m.2.2.2.1.length, (ask1 L li sk (nI e) x s.2.1 s.2.2.1).1, (ask1 L li sk (nI e) x s.2.1 s.2.2.1).2.2.2.1, m.2.2.2.1 ++ [-2], tellF (tells (tells (tellF m.2.2.2.2.1 0) (cds (fs1 L) L.length 0)) (cdx (fs1 L) L.length)) 10, m.2.2.2.2.2.1 + 1 + nI L.length, nI L.length + 1) := by
        unfold mr1
        rw [← r2, ← r3, o2, Option.bind_some, if_pos rfl]
      have hne : ¬ nI s.2.2.2.1.length = -1 := nI_nm1 (by omega)
      rw [em, es, e1, e2, Option.bind_some, Option.bind_some, rbA_err hne, mrA_err (by rw [hml]; exact hne)]
      refine ⟨_, _, rfl, rfl, ⟨by show nI s.2.2.2.1.length = nI m.2.2.2.1.length; rw [hml], k1, k2, fun q => absurd q hne, hlog⟩, fun q => absurd q hne, Or.inr ⟨s.2.2.2.1.length, by show _ < s.2.2.2.1.length + (lo.length + 1); omega, rfl⟩⟩
theorem rbQ_sim {L lo li : List (Int32 × Int32)} {sk : Int32} {skn e : Nat} (hsk : ∀ j, j < L.length → (nI j = sk ↔ j = skn)) (hL : L.length ≤ 12) (hlo : lo.length ≤ 10) (hli : li.length ≤ 10) (hVo : ∀ y, y ∈ lo → VK y.1 ∧ VV 10 y.2) (hV : ∀ y, y ∈ li → VK y.1 ∧ VV 10 y.2) (he : e < 9) :
    ∃ s m, rbQ (nI e) sk L lo li = some s ∧ mrQ L lo li sk (nI e) = some m ∧ RR sk L e s m ∧ (s.1 = -1 → s.2.2.2.1.length = lo.length) ∧ (s.1 = -1 ∨ ∃ i, i < lo.length ∧ s.1 = nI i) := by
  obtain ⟨s, m, a1, a2, a3, a4, a5⟩ := rbA_sim hsk hL hli hV he lo rs0 ms0 hVo ⟨rfl, rfl, rfl, fun _ => ⟨rfl, fun y hy => absurd hy List.not_mem_nil⟩, fun _ => ⟨rfl, rfl, rfl, Nat.zero_le _⟩⟩ rfl (by show 0 + lo.length ≤ 10; omega)
  refine ⟨s, m, a1, a2, a3, fun q => by rw [a4 q]; exact Nat.zero_add _, ?_⟩
  rcases a5 with q | ⟨i, q1, q2⟩
  · exact Or.inl q
  · exact Or.inr ⟨i, by have h : i < 0 + lo.length := q1; omega, q2⟩
