/-! THE CLASS's EDITIONS in the heap: places hold one another, and sets of places as bits -/
def stpE (E : Ed) (k : Nat) : Prop := ∃ j, k ∈ stP E.1 j
/-- a place's base, as a reference -/
def bsV (pa : Nat → Nat) (ps : List Pl) (k : Nat) : Value := if atP ps 7 k = -1 then .null else .ref (pa (rO ps k))
theorem bsV_n {pa : Nat → Nat} {ps : List Pl} {k : Nat} (h : atP ps 7 k = -1) : bsV pa ps k = .null := if_pos h
theorem bsV_y {pa : Nat → Nat} {ps : List Pl} {k r : Nat} (h : atP ps 7 k = nI r) (hr : r < 2 ^ 31) : bsV pa ps k = .ref (pa r) := by
  unfold bsV rO
  rw [h, if_neg (nI_nm1 hr), nI_clamp hr]
theorem EdW.bs {E : Ed} (h : EdW E) {k : Nat} (hk : k < E.1.length) : atP E.1 7 k = -1 ∨ ∃ r, atP E.1 7 k = nI r ∧ r < E.1.length := by
  obtain ⟨kd, x, y, w, hh, lv, a1, a2, a3, a4, a5, a6, a7, a8, b1, b2, b3, b4, b5, b6, b7, b8, b9, _⟩ := h.pl hk
  by_cases q : kd = 0 ∨ kd = 2
  · exact Or.inl (b5 q).1
  · right
    by_cases q1 : kd = 1
    · obtain ⟨r, r1, r2, _⟩ := b8 q1
      exact ⟨r, r1, r2⟩
    · obtain ⟨_, _, _, r, r1, r2, _⟩ := b9 (by omega)
      exact ⟨r, r1, r2⟩
def PlR (h : sm_H) (pa : Nat → Nat) (bt : Nat → Nat → Nat) (E : Ed) (k : Nat) (u : Int32) : Prop := hC h (pa k) = 22 ∧ (∀ a, a < 7 → hF h (768 + a) (pa k) = .int (atP E.1 a k)) ∧ hF h 775 (pa k) = bsV pa E.1 k ∧ hF h 776 (pa k) = .int (nI (linE E k)) ∧ hF h 777 (pa k) = .int (pit (lnkE E k) (nI 1) (nI 0)) ∧ hF h 778 (pa k) = .int u ∧ hF h 779 (pa k) = .int (nI k) ∧ hF h 780 (pa k) = .long (lN (bt 0 k)) ∧ hF h 781 (pa k) = .long (lN (bt 1 k)) ∧ hF h 782 (pa k) = .long (lN (bt 2 k)) ∧ hF h 783 (pa k) = .int (pit (stpE E k) (nI 1) (nI 0))
theorem PlR.same {h h' : sm_H} {pa : Nat → Nat} {bt : Nat → Nat → Nat} {k : Nat} {E : Ed} {u : Int32} (x : PlR h pa bt E k u) (s : samA h h' (pa k)) : PlR h' pa bt E k u := by
  obtain ⟨x0, x1, x2, x3, x4, x5, x6, x7, x8, x9, x10⟩ := x
  exact ⟨s.1.trans x0, fun a ha => (s.2.2.1 _).trans (x1 a ha), (s.2.2.1 _).trans x2, (s.2.2.1 _).trans x3, (s.2.2.1 _).trans x4, (s.2.2.1 _).trans x5, (s.2.2.1 _).trans x6, (s.2.2.1 _).trans x7, (s.2.2.1 _).trans x8, (s.2.2.1 _).trans x9, (s.2.2.1 _).trans x10⟩
/-- the sets: where one goes from a piece, whence one comes, whence a bin is served -/
def BtW (E : Ed) (bt : Nat → Nat → Nat) : Prop := (∀ c x, bt c x < 2 ^ 64) ∧ (E.1.length ≤ 64 → (∀ x y, (bt 0 x).testBit y = true ↔ onB E x y) ∧ (∀ x y, (bt 1 x).testBit y = true ↔ onB E y x) ∧ ∀ x y, (bt 2 x).testBit y = true ↔ (x, y) ∈ E.2.2)
/-- within an edition's own cells -/
def inI (lo hi a : Nat) : Prop := lo ≤ a ∧ a < hi
/-- an edition at ed: its list, the list's array, what lies in it -/
def EdF (h : sm_H) (ed lp ep : Nat) (pa : Nat → Nat) (bt : Nat → Nat → Nat) (E : Ed) (un : Nat → Int32) : Prop :=
  (hC h ed = 17 ∧ hF h 128 ed = .ref lp ∧ hF h 129 ed = .int (nI E.2.1.length) ∧ hF h 130 ed = .int (nI E.2.2.length)) ∧ Lst h lp ep E.1.length pa ∧ (∀ k, k < E.1.length → PlR h pa bt E k (un k)) ∧ BtW E bt
def EdO (h : sm_H) (D : Nat → Prop) (ed lp ep : Nat) (pa : Nat → Nat) (E : Ed) : Prop :=
  (D ed ∧ D lp) ∧ (hC h ep = 14 ∨ D ep) ∧ (∀ k, k < E.1.length → D (pa k)) ∧ ∀ i j, i < E.1.length → j < E.1.length → pa i = pa j → i = j
def EdR (h : sm_H) (lo hi ed : Nat) (E : Ed) (un : Nat → Int32) : Prop := hi ≤ hT h ∧ ∃ lp ep pa bt, EdF h ed lp ep pa bt E un ∧ EdO h (inI lo hi) ed lp ep pa E
theorem Lst.samI {h h' : sm_H} {D : Nat → Prop} {a e n : Nat} {f : Nat → Nat} (l : Lst h a e n f) (s : ∀ b, D b → samA h h' b) (sz : samA h h' (hZ h)) (hz : hZ h' = hZ h) (ht : hT h ≤ hT h') (ha : D a) (he : hC h e = 14 ∨ D e) (hf : ∀ i, i < n → D (f i)) : Lst h' a e n f := by
  refine l.same (s a ha) ?_ (fun i hi => (s _ (hf i hi)).1) hz ht
  rcases he with he | he
  · rcases l.2.2.2.2.2.2.2.1 with ⟨q, _⟩ | ⟨q, _⟩
    · rw [q]; exact sz
    · rw [he] at q; cases q
  · exact s e he
theorem EdFO.same {h h' : sm_H} {D : Nat → Prop} {ed lp ep : Nat} {pa : Nat → Nat} {bt : Nat → Nat → Nat} {E : Ed} {un : Nat → Int32} (X : EdF h ed lp ep pa bt E un) (O : EdO h D ed lp ep pa E) (s : ∀ b, D b → samA h h' b) (sz : samA h h' (hZ h)) (hz : hZ h' = hZ h) (ht : hT h ≤ hT h') : EdF h' ed lp ep pa bt E un ∧ EdO h' D ed lp ep pa E := by
  obtain ⟨⟨e0, e1, e2, e3⟩, l1, hP, hB⟩ := X
  obtain ⟨⟨o0, o1⟩, p1, q1, d2⟩ := O
  have k1 : hC h' ep = hC h ep := by
    rcases p1 with he | he
    · rcases l1.2.2.2.2.2.2.2.1 with ⟨q, _⟩ | ⟨q, _⟩
      · rw [q]; exact sz.1
      · rw [he] at q; cases q
    · exact (s ep he).1
  exact ⟨⟨⟨(s _ o0).1.trans e0, ((s _ o0).2.2.1 _).trans e1, ((s _ o0).2.2.1 _).trans e2, ((s _ o0).2.2.1 _).trans e3⟩, l1.samI s sz hz ht o1 p1 q1, fun k hk => (hP k hk).same (s _ (q1 k hk)), hB⟩, ⟨o0, o1⟩, by rw [k1]; exact p1, q1, d2⟩
theorem EdR.same {h h' : sm_H} {lo hi ed : Nat} {E : Ed} {un : Nat → Int32} (x : EdR h lo hi ed E un) (s : ∀ b, inI lo hi b → samA h h' b) (sz : samA h h' (hZ h)) (hz : hZ h' = hZ h) (ht : hT h ≤ hT h') : EdR h' lo hi ed E un := by
  obtain ⟨x0, lp, ep, pa, bt, X, O⟩ := x
  exact ⟨by omega, lp, ep, pa, bt, EdFO.same X O s sz hz ht⟩
theorem EdO.mono {h : sm_H} {D D' : Nat → Prop} {ed lp ep : Nat} {pa : Nat → Nat} {E : Ed} (O : EdO h D ed lp ep pa E) (hm : ∀ a, D a → D' a) : EdO h D' ed lp ep pa E := by
  obtain ⟨⟨o0, o1⟩, p1, q1, d2⟩ := O
  exact ⟨⟨hm _ o0, hm _ o1⟩, p1.imp id (hm _), fun k hk => hm _ (q1 k hk), d2⟩
/-! the bit of a place -/
def btN (n : Nat) : Nat := (lN 1 <<< ((nI n).toInt64 &&& 63)).toBitVec.toNat
theorem btN_lt (n : Nat) : btN n < 2 ^ 64 := BitVec.isLt _
theorem btN_eq (n : Nat) : lN 1 <<< ((nI n).toInt64 &&& 63) = lN (btN n) := by
  unfold btN
  generalize lN 1 <<< ((nI n).toInt64 &&& 63) = v
  exact wb_inj (by rw [wb_tb]; simp)
theorem btN_2 {n : Nat} (h : n < 64) : btN n = 2 ^ n := by
  unfold btN
  rw [wb_shl 1 h, Nat.one_mul, wb_tn (pow_lt h)]
theorem tb_and {s i : Nat} : s &&& 2 ^ i = 0 ↔ ¬ s.testBit i = true := by
  constructor
  · intro h q
    have e : (s &&& 2 ^ i).testBit i = true := by rw [Nat.testBit_and, q, bit1.mpr rfl]; rfl
    rw [h, Nat.zero_testBit] at e
    cases e
  · intro q
    apply Nat.eq_of_testBit_eq
    intro y
    rw [Nat.testBit_and, Nat.zero_testBit]
    by_cases e : y = i
    · subst e
      cases hs : s.testBit y with
      | false => rfl
      | true => exact absurd hs q
    · cases hb : (2 ^ i).testBit y with
      | false => exact Bool.and_false _
      | true => exact absurd (bit1.mp hb) e
theorem and_0 {a b : Nat} : a &&& b = 0 ↔ ∀ y, ¬ (a.testBit y = true ∧ b.testBit y = true) := by
  constructor
  · intro h y q
    have e : (a &&& b).testBit y = true := by rw [Nat.testBit_and, q.1, q.2]; rfl
    rw [h, Nat.zero_testBit] at e
    cases e
  · intro q
    apply Nat.eq_of_testBit_eq
    intro y
    rw [Nat.testBit_and, Nat.zero_testBit]
    cases ha : a.testBit y with
    | false => rfl
    | true =>
      cases hb : b.testBit y with
      | false => rfl
      | true => exact absurd ⟨ha, hb⟩ (q y)
/-- what was found: a place, or null -/
def fV (pa : Nat → Nat) (o : Option Nat) : Value := match o with
  | some k => .ref (pa k)
  | none => .null
