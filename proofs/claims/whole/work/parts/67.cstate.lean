/-! THE CLASS's OBJECT in the heap, part by part -/
def cX (h : sm_H) (x sg eds ed go ins pl fnd len : Nat) : Prop := hC h x = 16 ∧ hF h 0 x = .ref sg ∧ hF h 1 x = .int (nI len) ∧ hF h 2 x = .ref eds ∧ hF h 3 x = .ref ed ∧ hF h 4 x = .ref go ∧ hF h 5 x = .ref ins ∧ hF h 6 x = .ref pl ∧ hF h 7 x = .ref fnd
def cS (h : sm_H) (sg len : Nat) (tx : Nat → Int32) : Prop := hC h sg = 3 ∧ hL h sg = 3000 ∧ ∀ i, i < len → hA h sg i = .int (tx i)
def cN (h : sm_H) (fnd efd : Nat) (fda : Nat → Nat) (l : List Nat) : Prop := Lst h fnd efd l.length fda ∧ ∀ (i k : Nat), l[i]? = some k → hC h (fda i) = 22 ∧ hF h 779 (fda i) = .int (nI k)
def cP (h : sm_H) (pl pls : Nat) (l : List Int32) : Prop := hC h pl = 23 ∧ hF h 896 pl = .ref pls ∧ hF h 897 pl = .int (nI l.length) ∧ hC h pls = 3 ∧ hL h pls = 820 ∧ ∀ (i : Nat) c, l[i]? = some c → hA h pls i = .int c
def FaR (h : sm_H) (p : Nat) (f : Flt) : Prop := hC h p = 18 ∧ hF h 256 p = .int f.1 ∧ hF h 257 p = .int f.2.1 ∧ hF h 258 p = .int f.2.2
def cI (h : sm_H) (ins lf ef : Nat) (fa : Nat → Nat) (l : List Flt) : Prop := hC h ins = 20 ∧ hF h 512 ins = .ref lf ∧ Lst h lf ef l.length fa ∧ ∀ (i : Nat) f, l[i]? = some f → FaR h (fa i) f
def cD (h : sm_H) (eds ee : Nat) (ea lo hi : Nat → Nat) (σ : Sg) : Prop := Lst h eds ee (sEd σ).length ea ∧ ∀ e, e < (sEd σ).length → ∃ E', E'.1 = edP σ e ∧ (e = sE σ → E' = cE σ) ∧ EdR h (lo e) (hi e) (ea e) E' (sUn σ e)
theorem cX.same {h h' : sm_H} {x sg eds ed go ins pl fnd len : Nat} (c : cX h x sg eds ed go ins pl fnd len) (s : samA h h' x) : cX h' x sg eds ed go ins pl fnd len := by
  obtain ⟨c0, c1, c2, c3, c4, c5, c6, c7, c8⟩ := c
  obtain ⟨s1, _, s3, _⟩ := s
  exact ⟨s1.trans c0, (s3 _).trans c1, (s3 _).trans c2, (s3 _).trans c3, (s3 _).trans c4, (s3 _).trans c5, (s3 _).trans c6, (s3 _).trans c7, (s3 _).trans c8⟩
theorem cS.same {h h' : sm_H} {sg len : Nat} {tx : Nat → Int32} (c : cS h sg len tx) (s : samA h h' sg) : cS h' sg len tx := ⟨s.1.trans c.1, s.2.1.trans c.2.1, fun i hi => (s.2.2.2 i).trans (c.2.2 i hi)⟩
theorem cN.same {h h' : sm_H} {fnd efd : Nat} {fda : Nat → Nat} {l : List Nat} (c : cN h fnd efd fda l) (s : samA h h' fnd) (t : samA h h' efd) (u : ∀ i, i < l.length → hC h' (fda i) = hC h (fda i) ∧ hF h' 779 (fda i) = hF h 779 (fda i)) (hz : hZ h' = hZ h) (ht : hT h ≤ hT h') : cN h' fnd efd fda l := by
  obtain ⟨c1, c2⟩ := c
  refine ⟨c1.same s t (fun i hi => (u i hi).1) hz ht, fun i k hk => ?_⟩
  have w := u i (List.getElem?_eq_some_iff.mp hk).1
  exact ⟨w.1.trans (c2 i k hk).1, w.2.trans (c2 i k hk).2⟩
theorem cN.k {h : sm_H} {fnd efd : Nat} {fda : Nat → Nat} {l : List Nat} (c : cN h fnd efd fda l) {i : Nat} (hi : i < l.length) : hC h (fda i) = 22 := (c.2 i _ (List.getElem?_eq_getElem hi)).1
theorem cP.same {h h' : sm_H} {pl pls : Nat} {l : List Int32} (c : cP h pl pls l) (s : samA h h' pl) (t : samA h h' pls) : cP h' pl pls l := ⟨s.1.trans c.1, (s.2.2.1 _).trans c.2.1, (s.2.2.1 _).trans c.2.2.1, t.1.trans c.2.2.2.1, t.2.1.trans c.2.2.2.2.1, fun i k hi => (t.2.2.2 i).trans (c.2.2.2.2.2 i k hi)⟩
theorem GoR.same {h h' : sm_H} {go ed : Nat} {E : Ed} {dk rc ex : Nat} (G : GoR h go ed E dk rc ex) (s : samA h h' go) : GoR h' go ed E dk rc ex := by
  obtain ⟨⟨c0, c1, c2, c3, c4⟩, g⟩ := G
  exact ⟨⟨s.1.trans c0, (s.2.2.1 _).trans c1, (s.2.2.1 _).trans c2, (s.2.2.1 _).trans c3, (s.2.2.1 _).trans c4⟩, g⟩
theorem cI.same {h h' : sm_H} {ins lf ef : Nat} {fa : Nat → Nat} {l : List Flt} (c : cI h ins lf ef fa l) (s : samA h h' ins) (t : samA h h' lf) (u : samA h h' ef) (v : ∀ i, i < l.length → samA h h' (fa i)) (hz : hZ h' = hZ h) (ht : hT h ≤ hT h') : cI h' ins lf ef fa l := by
  obtain ⟨c1, c2, c3, c4⟩ := c
  refine ⟨s.1.trans c1, (s.2.2.1 _).trans c2, c3.same t u (fun i hi => (v i hi).1) hz ht, fun i f hf => ?_⟩
  have w := v i (List.getElem?_eq_some_iff.mp hf).1
  obtain ⟨d0, d1, d2, d3⟩ := c4 i f hf
  exact ⟨w.1.trans d0, (w.2.2.1 _).trans d1, (w.2.2.1 _).trans d2, (w.2.2.1 _).trans d3⟩
theorem cD.same {h h' : sm_H} {eds ee : Nat} {ea lo hi : Nat → Nat} {σ : Sg} (c : cD h eds ee ea lo hi σ) (s : samA h h' eds) (t : samA h h' ee) (u : ∀ e, e < (sEd σ).length → ∀ a, inI (lo e) (hi e) a → samA h h' a) (sz : samA h h' (hZ h)) (hz : hZ h' = hZ h) (ht : hT h ≤ hT h') : cD h' eds ee ea lo hi σ := by
  obtain ⟨c1, c2⟩ := c
  refine ⟨c1.same s t (fun e he => ?_) hz ht, fun e he => ?_⟩
  · obtain ⟨E', _, _, r⟩ := c2 e he
    obtain ⟨_, lp, ep, pa, bt, _, ⟨o0, _⟩, _⟩ := r
    exact (u e he _ o0).1
  · obtain ⟨E', q1, q2, r⟩ := c2 e he
    exact ⟨E', q1, q2, r.same (u e he) sz hz ht⟩
/-- whose cells are whose -/
def cO (h : sm_H) (P : Nat → Prop) (x sg eds ee go ins lf ef pl pls fnd efd : Nat) (fa lo hi : Nat → Nat) (n nf : Nat) : Prop :=
  (∀ a, a = x ∨ a = sg ∨ a = eds ∨ a = go ∨ a = ins ∨ a = lf ∨ a = pl ∨ a = pls ∨ a = fnd → a < hT h ∧ ¬ P a) ∧ (sg ≠ pls ∧ eds ≠ lf ∧ eds ≠ fnd ∧ lf ≠ fnd) ∧
  (hC h ee = 14 ∨ ¬ P ee) ∧ (hC h ef = 14 ∨ ¬ P ef) ∧ (hC h efd = 14 ∨ ¬ P efd) ∧ ((hC h ee = 7 → ee ≠ ef ∧ ee ≠ efd) ∧ (hC h ef = 7 → ef ≠ efd)) ∧ (∀ i, i < nf → ¬ P (fa i)) ∧
  (∀ e, e < n → ∀ a, inI (lo e) (hi e) a → ¬ P a ∧ a ≠ x ∧ a ≠ sg ∧ a ≠ eds ∧ a ≠ ee ∧ a ≠ go ∧ a ≠ ins ∧ a ≠ lf ∧ a ≠ ef ∧ a ≠ pl ∧ a ≠ pls ∧ a ≠ fnd ∧ a ≠ efd ∧ ∀ i, i < nf → a ≠ fa i) ∧
  (∀ e e', e < n → e' < n → e ≠ e' → ∀ a, inI (lo e) (hi e) a → ¬ inI (lo e') (hi e') a)
/-- the JDK's empty array; what the class may not touch -/
def cZ (h : sm_H) (P : Nat → Prop) : Prop := hC h (hZ h) = 14 ∧ nI (hL h (hZ h)) = 0 ∧ P (hZ h) ∧ ∀ a, P a → a < hT h
def CA (h : sm_H) (x sg eds ee go ins lf ef pl pls fnd efd : Nat) (ea fa fda lo hi : Nat → Nat) (dk rc ex : Nat) (σ : Sg) (P : Nat → Prop) : Prop :=
  cX h x sg eds (ea (sE σ)) go ins pl fnd (sLen σ) ∧ cS h sg (sLen σ) (sTx σ) ∧ cN h fnd efd fda (sMv σ) ∧ cP h pl pls (sPn σ) ∧ GoR h go (ea (sE σ)) (cE σ) dk rc ex ∧ cI h ins lf ef fa (fltE (cE σ)) ∧ cD h eds ee ea lo hi σ ∧ cO h P x sg eds ee go ins lf ef pl pls fnd efd fa lo hi (sEd σ).length (fltE (cE σ)).length ∧ cZ h P
def CR (h : sm_H) (x : Nat) (σ : Sg) (P : Nat → Prop) : Prop := ∃ sg eds ee go ins lf ef pl pls fnd efd ea fa fda lo hi dk rc ex, CA h x sg eds ee go ins lf ef pl pls fnd efd ea fa fda lo hi dk rc ex σ P
theorem cO.same {h h' : sm_H} {P : Nat → Prop} {x sg eds ee go ins lf ef pl pls fnd efd : Nat} {fa lo hi : Nat → Nat} {n nf : Nat} (c : cO h P x sg eds ee go ins lf ef pl pls fnd efd fa lo hi n nf) (ht : hT h ≤ hT h') (k1 : hC h' ee = hC h ee) (k2 : hC h' ef = hC h ef) (k3 : hC h' efd = hC h efd) : cO h' P x sg eds ee go ins lf ef pl pls fnd efd fa lo hi n nf := by
  obtain ⟨c1, c2, c3, c4, c5, c6, c7, c8, c9⟩ := c
  exact ⟨fun a ha => ⟨by have := (c1 a ha).1; omega, (c1 a ha).2⟩, c2, by rw [k1]; exact c3, by rw [k2]; exact c4, by rw [k3]; exact c5, by rw [k1, k2]; exact c6, c7, c8, c9⟩
theorem cZ.same {h h' : sm_H} {P : Nat → Prop} (c : cZ h P) (s : samA h h' (hZ h)) (hz : hZ h' = hZ h) (ht : hT h ≤ hT h') : cZ h' P := by
  obtain ⟨c1, c2, c3, c4⟩ := c
  exact ⟨by rw [hz]; exact s.1.trans c1, by rw [hz, s.2.1]; exact c2, by rw [hz]; exact c3, fun a ha => by have := c4 a ha; omega⟩
theorem CA.fresh {h h' : sm_H} {x sg eds ee go ins lf ef pl pls fnd efd : Nat} {ea fa fda lo hi : Nat → Nat} {dk rc ex : Nat} {σ : Sg} {P : Nat → Prop} (c : CA h x sg eds ee go ins lf ef pl pls fnd efd ea fa fda lo hi dk rc ex σ P) (s : ∀ a, a < hT h → samA h h' a) (hz : hZ h' = hZ h) (ht : hT h ≤ hT h') : CA h' x sg eds ee go ins lf ef pl pls fnd efd ea fa fda lo hi dk rc ex σ P := by
  obtain ⟨c1, c2, c3, c4, c5, c6, c7, c8, c9⟩ := c
  have o := c8.1
  have l1 := c7.1
  have l2 := c6.2.2.1
  have l3 := c3.1
  refine ⟨c1.same (s _ (o _ (by simp)).1), c2.same (s _ (o _ (by simp)).1), c3.same (s _ (o _ (by simp)).1) (s _ l3.2.2.2.2.2.2.1) (fun i hi => ⟨(s _ (l3.2.2.2.2.2.2.2.2 i hi).2.2.2).1, (s _ (l3.2.2.2.2.2.2.2.2 i hi).2.2.2).2.2.1 _⟩) hz ht, c4.same (s _ (o _ (by simp)).1) (s _ (o _ (by simp)).1), c5.same (s _ (o _ (by simp)).1), c6.same (s _ (o _ (by simp)).1) (s _ (o _ (by simp)).1) (s _ l2.2.2.2.2.2.2.1) (fun i hi => s _ (l2.2.2.2.2.2.2.2.2 i hi).2.2.2) hz ht, c7.same (s _ (o _ (by simp)).1) (s _ l1.2.2.2.2.2.2.1) (fun e he a ha => ?_) (s _ (c9.2.2.2 _ c9.2.2.1)) hz ht, c8.same ht (s _ l1.2.2.2.2.2.2.1).1 (s _ l2.2.2.2.2.2.2.1).1 (s _ l3.2.2.2.2.2.2.1).1, c9.same (s _ (c9.2.2.2 _ c9.2.2.1)) hz ht⟩
  obtain ⟨E', _, _, r⟩ := c7.2 e he
  exact s a (by have := r.1; have := ha.2; omega)
/-- nothing of what was there has changed -/
theorem CR.fresh {h h' : sm_H} {x : Nat} {σ : Sg} {P : Nat → Prop} (c : CR h x σ P) (s : ∀ a, a < hT h → samA h h' a) (hz : hZ h' = hZ h) (ht : hT h ≤ hT h') : CR h' x σ P := by
  obtain ⟨sg, eds, ee, go, ins, lf, ef, pl, pls, fnd, efd, ea, fa, fda, lo, hi, dk, rc, ex, c⟩ := c
  exact ⟨sg, eds, ee, go, ins, lf, ef, pl, pls, fnd, efd, ea, fa, fda, lo, hi, dk, rc, ex, c.fresh s hz ht⟩
