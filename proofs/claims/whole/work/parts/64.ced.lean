/-! THE CLASS's EDITIONS in the heap -/
def PlR (h : sm_H) (p : Nat) (E : Ed) (k : Nat) (u : Int32) : Prop := hC h p = 22 ∧ (∀ a, a < 8 → hF h (768 + a) p = .int (atP E.1 a k)) ∧ hF h 776 p = .int (nI (linE E k)) ∧ hF h 777 p = .int (pit (lnkE E k) (nI 1) (nI 0)) ∧ hF h 778 p = .int u
def LkR (h : sm_H) (p a b : Nat) (t : Bool) : Prop := hC h p = 21 ∧ hF h 640 p = .int (nI a) ∧ hF h 641 p = .int (nI b) ∧ hF h 642 p = .int (nI t.toNat)
theorem PlR.same {h h' : sm_H} {p k : Nat} {E : Ed} {u : Int32} (x : PlR h p E k u) (s : samA h h' p) : PlR h' p E k u := ⟨s.1.trans x.1, fun a ha => (s.2.2.1 _).trans (x.2.1 a ha), (s.2.2.1 _).trans x.2.2.1, (s.2.2.1 _).trans x.2.2.2.1, (s.2.2.1 _).trans x.2.2.2.2⟩
theorem LkR.same {h h' : sm_H} {p a b : Nat} {t : Bool} (x : LkR h p a b t) (s : samA h h' p) : LkR h' p a b t := ⟨s.1.trans x.1, (s.2.2.1 _).trans x.2.1, (s.2.2.1 _).trans x.2.2.1, (s.2.2.1 _).trans x.2.2.2⟩
/-- within an edition's own cells -/
def inI (lo hi a : Nat) : Prop := lo ≤ a ∧ a < hi
abbrev EA : Type := (Nat × Nat × Nat × Nat) × (Nat × Nat × Nat × Nat) × ((Nat → Nat) × (Nat → Nat) × (Nat → Nat) × (Nat → Nat))
/-- an edition at ed: its four lists, their arrays, what lies in them -/
def EdF (h : sm_H) (ed : Nat) (lp lw lv ls ep ew ev es : Nat) (pa wa va sa : Nat → Nat) (E : Ed) (un : Nat → Int32) : Prop :=
  (hC h ed = 17 ∧ hF h 128 ed = .ref lp ∧ hF h 129 ed = .ref lw ∧ hF h 130 ed = .ref lv ∧ hF h 131 ed = .ref ls) ∧
  (Lst h lp ep E.1.length pa ∧ Lst h lw ew E.2.1.length wa ∧ Lst h lv ev E.2.2.length va ∧ Lst h ls es (sts E.1).length sa) ∧
  (∀ k, k < E.1.length → PlR h (pa k) E k (un k)) ∧ (∀ i, i < E.2.1.length → LkR h (wa i) (wA E.2.1 i) (wB E.2.1 i) (wT E.2.1 i)) ∧
  (∀ i, i < E.2.2.length → LkR h (va i) (vA E.2.2 i) (vB E.2.2 i) false) ∧ (∀ i, i < (sts E.1).length → LkR h (sa i) (vA (sts E.1) i) (vB (sts E.1) i) true)
def EdO (h : sm_H) (D : Nat → Prop) (ed : Nat) (lp lw lv ls ep ew ev es : Nat) (pa wa va sa : Nat → Nat) (E : Ed) : Prop :=
  (D ed ∧ D lp ∧ D lw ∧ D lv ∧ D ls) ∧ (hC h ep = 14 ∨ D ep) ∧ (hC h ew = 14 ∨ D ew) ∧ (hC h ev = 14 ∨ D ev) ∧ (hC h es = 14 ∨ D es) ∧
  (∀ k, k < E.1.length → D (pa k)) ∧ (∀ i, i < E.2.1.length → D (wa i)) ∧ (∀ i, i < E.2.2.length → D (va i)) ∧ (∀ i, i < (sts E.1).length → D (sa i)) ∧
  (lp ≠ lw ∧ lp ≠ lv ∧ lp ≠ ls ∧ lw ≠ lv ∧ lw ≠ ls ∧ lv ≠ ls) ∧ (∀ i j, i < E.1.length → j < E.1.length → pa i = pa j → i = j) ∧
  (hC h ep = 7 → ep ≠ ew ∧ ep ≠ ev ∧ ep ≠ es) ∧ (hC h ew = 7 → ew ≠ ep ∧ ew ≠ ev ∧ ew ≠ es) ∧ (hC h ev = 7 → ev ≠ ep ∧ ev ≠ ew ∧ ev ≠ es) ∧ (hC h es = 7 → es ≠ ep ∧ es ≠ ew ∧ es ≠ ev)
def EdR (h : sm_H) (lo hi ed : Nat) (E : Ed) (un : Nat → Int32) : Prop := hi ≤ hT h ∧ ∃ lp lw lv ls ep ew ev es pa wa va sa, EdF h ed lp lw lv ls ep ew ev es pa wa va sa E un ∧ EdO h (inI lo hi) ed lp lw lv ls ep ew ev es pa wa va sa E
theorem Lst.samI {h h' : sm_H} {D : Nat → Prop} {a e n : Nat} {f : Nat → Nat} (l : Lst h a e n f) (s : ∀ b, D b → samA h h' b) (sz : samA h h' (hZ h)) (hz : hZ h' = hZ h) (ht : hT h ≤ hT h') (ha : D a) (he : hC h e = 14 ∨ D e) (hf : ∀ i, i < n → D (f i)) : Lst h' a e n f := by
  refine l.same (s a ha) ?_ (fun i hi => (s _ (hf i hi)).1) hz ht
  rcases he with he | he
  · rcases l.2.2.2.2.2.2.2.1 with ⟨q, _⟩ | ⟨q, _⟩
    · rw [q]; exact sz
    · rw [he] at q; cases q
  · exact s e he
theorem EdFO.same {h h' : sm_H} {D : Nat → Prop} {ed lp lw lv ls ep ew ev es : Nat} {pa wa va sa : Nat → Nat} {E : Ed} {un : Nat → Int32} (X : EdF h ed lp lw lv ls ep ew ev es pa wa va sa E un) (O : EdO h D ed lp lw lv ls ep ew ev es pa wa va sa E) (s : ∀ b, D b → samA h h' b) (sz : samA h h' (hZ h)) (hz : hZ h' = hZ h) (ht : hT h ≤ hT h') : EdF h' ed lp lw lv ls ep ew ev es pa wa va sa E un ∧ EdO h' D ed lp lw lv ls ep ew ev es pa wa va sa E := by
  obtain ⟨⟨e0, e1, e2, e3, e4⟩, ⟨l1, l2, l3, l4⟩, hP, hW, hV, hS⟩ := X
  obtain ⟨⟨o0, o1, o2, o3, o4⟩, p1, p2, p3, p4, q1, q2, q3, q4, d1, d2, d3, d4, d5, d6⟩ := O
  have kk : ∀ e, hC h e = 14 ∨ D e → ∀ a n f, Lst h a e n f → hC h' e = hC h e := by
    intro e he a n f l
    rcases he with he | he
    · rcases l.2.2.2.2.2.2.2.1 with ⟨q, _⟩ | ⟨q, _⟩
      · rw [q]; exact sz.1
      · rw [he] at q; cases q
    · exact (s e he).1
  have k1 := kk ep p1 _ _ _ l1
  have k2 := kk ew p2 _ _ _ l2
  have k3 := kk ev p3 _ _ _ l3
  have k4 := kk es p4 _ _ _ l4
  refine ⟨⟨⟨(s _ o0).1.trans e0, ((s _ o0).2.2.1 _).trans e1, ((s _ o0).2.2.1 _).trans e2, ((s _ o0).2.2.1 _).trans e3, ((s _ o0).2.2.1 _).trans e4⟩, ⟨l1.samI s sz hz ht o1 p1 q1, l2.samI s sz hz ht o2 p2 q2, l3.samI s sz hz ht o3 p3 q3, l4.samI s sz hz ht o4 p4 q4⟩, fun k hk => (hP k hk).same (s _ (q1 k hk)), fun k hk => (hW k hk).same (s _ (q2 k hk)), fun k hk => (hV k hk).same (s _ (q3 k hk)), fun k hk => (hS k hk).same (s _ (q4 k hk))⟩, ⟨o0, o1, o2, o3, o4⟩, by rw [k1]; exact p1, by rw [k2]; exact p2, by rw [k3]; exact p3, by rw [k4]; exact p4, q1, q2, q3, q4, d1, d2, by rw [k1]; exact d3, by rw [k2]; exact d4, by rw [k3]; exact d5, by rw [k4]; exact d6⟩
theorem EdR.same {h h' : sm_H} {lo hi ed : Nat} {E : Ed} {un : Nat → Int32} (x : EdR h lo hi ed E un) (s : ∀ b, inI lo hi b → samA h h' b) (sz : samA h h' (hZ h)) (hz : hZ h' = hZ h) (ht : hT h ≤ hT h') : EdR h' lo hi ed E un := by
  obtain ⟨x0, lp, lw, lv, ls, ep, ew, ev, es, pa, wa, va, sa, X, O⟩ := x
  exact ⟨by omega, lp, lw, lv, ls, ep, ew, ev, es, pa, wa, va, sa, EdFO.same X O s sz hz ht⟩
