/-! WHAT IS ANSWERED, said once for class and reference -/
noncomputable def cntP : Nat → (Nat → Prop) → Nat
  | 0, _ => 0
  | n + 1, f => cntP n f + @ite _ (f n) (Classical.propDecidable _) 1 0
theorem cntP_y {n : Nat} {f : Nat → Prop} (h : f n) : cntP (n + 1) f = cntP n f + 1 := by show _ + _ = _; rw [if_pos h]
theorem cntP_n {n : Nat} {f : Nat → Prop} (h : ¬ f n) : cntP (n + 1) f = cntP n f := by show _ + _ = _; rw [if_neg h]; rfl
theorem cntP_le : ∀ (n : Nat) (f : Nat → Prop), cntP n f ≤ n
  | 0, f => Nat.le_refl _
  | n + 1, f => by
    have := cntP_le n f
    by_cases h : f n
    · rw [cntP_y h]; omega
    · rw [cntP_n h]; omega
theorem cntP_eq : ∀ (n : Nat) {f g : Nat → Prop}, (∀ i, i < n → (f i ↔ g i)) → cntP n f = cntP n g
  | 0, f, g, h => rfl
  | n + 1, f, g, h => by
    have := cntP_eq n (fun i hi => h i (by omega))
    by_cases q : f n
    · rw [cntP_y q, cntP_y ((h n (by omega)).mp q), this]
    · rw [cntP_n q, cntP_n (fun z => q ((h n (by omega)).mpr z)), this]
theorem cntP_0 : ∀ (n : Nat) {f : Nat → Prop}, (∀ i, i < n → ¬ f i) → cntP n f = 0
  | 0, f, h => rfl
  | n + 1, f, h => by rw [cntP_n (h n (by omega))]; exact cntP_0 n (fun i hi => h i (by omega))
noncomputable def fstP (n : Nat) (f : Nat → Prop) : Option Nat := (List.range n).find? (fun k => @decide (f k) (Classical.propDecidable _))
theorem fstP_none {n : Nat} {f : Nat → Prop} (h : ∀ k, k < n → ¬ f k) : fstP n f = none := by
  unfold fstP
  rw [List.find?_eq_none]
  intro k hk
  have := h k (List.mem_range.mp hk)
  simp [this]
theorem fstP_some {n k : Nat} {f : Nat → Prop} (hk : k < n) (he : f k) (h : ∀ i, i < k → ¬ f i) : fstP n f = some k := by
  unfold fstP
  rw [List.find?_range_eq_some]
  refine ⟨by simp [he], List.mem_range.mpr hk, fun i hi => ?_⟩
  simp [h i hi]
theorem fstP_inv {n k : Nat} {f : Nat → Prop} (h : fstP n f = some k) : k < n ∧ f k ∧ ∀ i, i < k → ¬ f i := by
  unfold fstP at h
  rw [List.find?_range_eq_some] at h
  obtain ⟨h1, h2, h3⟩ := h
  exact ⟨List.mem_range.mp h2, by simpa using h1, fun i hi => by simpa using h3 i hi⟩
theorem fstP_no {n : Nat} {f : Nat → Prop} (h : fstP n f = none) : ∀ k, k < n → ¬ f k := fun k hk q => by
  unfold fstP at h
  rw [List.find?_eq_none] at h
  exact absurd (h k (List.mem_range.mpr hk)) (by simp [q])
theorem fstP_eq {n : Nat} {f g : Nat → Prop} (h : ∀ i, i < n → (f i ↔ g i)) : fstP n f = fstP n g := by
  cases e : fstP n f with
  | none => exact (fstP_none (fun k hk q => fstP_no e k hk ((h k hk).mpr q))).symm
  | some k =>
    obtain ⟨h1, h2, h3⟩ := fstP_inv e
    exact (fstP_some h1 ((h k h1).mp h2) (fun i hi q => h3 i hi ((h i (by omega)).mpr q))).symm
def fO (o : Option Nat) : Int32 := match o with
  | some k => nI k
  | none => -1
/-- the ways' and serves' rows -/
def wA (ws : List (Nat × Nat × Bool)) (i : Nat) : Nat := (ws.getD i (0, 0, false)).1
def wB (ws : List (Nat × Nat × Bool)) (i : Nat) : Nat := (ws.getD i (0, 0, false)).2.1
def wT (ws : List (Nat × Nat × Bool)) (i : Nat) : Bool := (ws.getD i (0, 0, false)).2.2
def vA (vs : List (Nat × Nat)) (i : Nat) : Nat := (vs.getD i (0, 0)).1
def vB (vs : List (Nat × Nat)) (i : Nat) : Nat := (vs.getD i (0, 0)).2
theorem w_mem {ws : List (Nat × Nat × Bool)} {i : Nat} (h : i < ws.length) : (wA ws i, wB ws i, wT ws i) ∈ ws := by
  unfold wA wB wT
  rw [List.getD_eq_getElem?_getD, List.getElem?_eq_getElem h]
  exact List.getElem_mem h
theorem w_ex {ws : List (Nat × Nat × Bool)} {a b : Nat} {t : Bool} (h : (a, b, t) ∈ ws) : ∃ i, i < ws.length ∧ wA ws i = a ∧ wB ws i = b ∧ wT ws i = t := by
  obtain ⟨i, hi, e⟩ := List.mem_iff_getElem.mp h
  refine ⟨i, hi, ?_⟩
  unfold wA wB wT
  rw [List.getD_eq_getElem?_getD, List.getElem?_eq_getElem hi, e]
  exact ⟨rfl, rfl, rfl⟩
theorem v_mem {vs : List (Nat × Nat)} {i : Nat} (h : i < vs.length) : (vA vs i, vB vs i) ∈ vs := by
  unfold vA vB
  rw [List.getD_eq_getElem?_getD, List.getElem?_eq_getElem h]
  exact List.getElem_mem h
theorem v_ex {vs : List (Nat × Nat)} {a b : Nat} (h : (a, b) ∈ vs) : ∃ i, i < vs.length ∧ vA vs i = a ∧ vB vs i = b := by
  obtain ⟨i, hi, e⟩ := List.mem_iff_getElem.mp h
  refine ⟨i, hi, ?_⟩
  unfold vA vB
  rw [List.getD_eq_getElem?_getD, List.getElem?_eq_getElem hi, e]
  exact ⟨rfl, rfl⟩
theorem s_ex {l : List Nat} {a : Nat} (h : a ∈ l) : ∃ i, i < l.length ∧ l.getD i 0 = a := by
  obtain ⟨i, hi, e⟩ := List.mem_iff_getElem.mp h
  exact ⟨i, hi, by rw [List.getD_eq_getElem?_getD, List.getElem?_eq_getElem hi]; exact e⟩
theorem s_mem {l : List Nat} {i : Nat} (h : i < l.length) : l.getD i 0 ∈ l := by
  rw [List.getD_eq_getElem?_getD, List.getElem?_eq_getElem h]
  exact List.getElem_mem h
theorem stP_lt {ps : List Pl} {k a : Nat} (h : a ∈ stP ps k) : k < ps.length := by
  unfold stP at h
  split at h
  · rename_i P e; exact (List.getElem?_eq_some_iff.mp e).1
  · exact absurd h List.not_mem_nil
/-- one step -/
def egE (E : Ed) (a b : Nat) : Prop := a ≠ b ∧ ((∃ t, (a, b, t) ∈ E.2.1) ∨ (b, a, true) ∈ E.2.1 ∨ ∃ k, atP E.1 1 k = nI 6 ∧ a ∈ stP E.1 k ∧ b ∈ stP E.1 k)
/-- a dock's piece -/
def dkE (E : Ed) (d : Nat) : Prop := ∃ k, k < E.1.length ∧ atP E.1 1 k = nI 3 ∧ atP E.1 7 k = nI d ∧ d < E.1.length
def rchE (E : Ed) (p : Nat) : Prop := ∃ d l, dkE E d ∧ Wk (egE E) l d p
def extE (E : Ed) (p : Nat) : Prop := ∃ d l, dkE E d ∧ Wk (egE E) l p d
def isStd (E : Ed) (p : Nat) (v : Int32) : Prop := (v = -1 ∧ ¬ extE E p) ∨ ∃ l d, l < 60 ∧ v = nI l ∧ dkE E d ∧ Wk (egE E) l p d ∧ ∀ l' d', dkE E d' → Wk (egE E) l' p d' → l ≤ l'
noncomputable def stdE (E : Ed) (p : Nat) : Int32 := @dite _ (∃ v, isStd E p v) (Classical.propDecidable _) (fun h => Classical.choose h) (fun _ => 0)
theorem isStd_one {E : Ed} {p : Nat} {v w : Int32} (h : isStd E p v) (h' : isStd E p w) : v = w := by
  rcases h with ⟨a, b⟩ | ⟨l, d, _, a, b, c, e⟩ <;> rcases h' with ⟨a', b'⟩ | ⟨l', d', _, a', b', c', e'⟩
  · rw [a, a']
  · exact absurd ⟨d', l', b', c'⟩ b
  · exact absurd ⟨d, l, b, c⟩ b'
  · have h1 := e l' d' b' c'
    have h2 := e' l d b c
    rw [a, a', Nat.le_antisymm h1 h2]
theorem stdE_eq {E : Ed} {p : Nat} {v : Int32} (h : isStd E p v) : stdE E p = v := by
  unfold stdE
  have hx : ∃ v, isStd E p v := ⟨v, h⟩
  rw [dif_pos hx]
  exact isStd_one (Classical.choose_spec hx) h
/-- how many others can be gone to -/
noncomputable def onwE (E : Ed) (p : Nat) : Nat := cntP E.1.length (fun k => k ≠ p ∧ ∃ l, Wk (egE E) l p k)
/-- lines that go or serve, or stops -/
noncomputable def linE (E : Ed) (k : Nat) : Nat := (stP E.1 k).length + cntP E.2.1.length (fun i => wA E.2.1 i = k ∨ wB E.2.1 i = k) + cntP E.2.2.length (fun i => vA E.2.2 i = k)
def lnkE (E : Ed) (p : Nat) : Prop := (∃ i, i < E.2.1.length ∧ (wA E.2.1 i = p ∨ wB E.2.1 i = p)) ∨ ∃ k, atP E.1 1 k = nI 6 ∧ p ∈ stP E.1 k
def insE (ps : List Pl) (i j : Nat) : Prop := atP ps 2 j ≤ atP ps 2 i ∧ atP ps 3 j ≤ atP ps 3 i ∧ atP ps 2 i + atP ps 4 i ≤ atP ps 2 j + atP ps 4 j ∧ atP ps 3 i + atP ps 5 i ≤ atP ps 3 j + atP ps 5 j
def mtsE (ps : List Pl) (i j : Nat) : Prop := atP ps 2 i < atP ps 2 j + atP ps 4 j ∧ atP ps 2 j < atP ps 2 i + atP ps 4 i ∧ atP ps 3 i < atP ps 3 j + atP ps 5 j ∧ atP ps 3 j < atP ps 3 i + atP ps 5 i
def likE (ps : List Pl) (k i : Nat) : Prop := atP ps 1 k = atP ps 1 i ∧ atP ps 7 k = atP ps 7 i ∧ atP ps 6 k = atP ps 6 i
noncomputable def fmE (ps : List Pl) (i : Nat) : Option Nat := fstP i (fun k => likE ps k i ∧ mtsE ps i k)
def srvE (E : Ed) (i : Nat) : Prop := ∃ k, k < E.2.2.length ∧ vA E.2.2 k = i ∧ rchE E (vB E.2.2 k)
abbrev Flt : Type := Int32 × Int32 × Int32
noncomputable def ift (c : Prop) (f : Flt) : List Flt := @ite _ c (Classical.propDecidable _) [f] []
theorem ift_y {c : Prop} {f : Flt} (h : c) : ift c f = [f] := if_pos h
theorem ift_n {c : Prop} {f : Flt} (h : ¬ c) : ift c f = [] := if_neg h
theorem ift_le (c : Prop) (f : Flt) : (ift c f).length ≤ 1 := by
  by_cases h : c
  · rw [ift_y h]; exact Nat.le_refl _
  · rw [ift_n h]; exact Nat.zero_le _
def rO (ps : List Pl) (i : Nat) : Nat := (atP ps 7 i).toNatClampNeg
/-- the faults of the i-th place -/
noncomputable def flt1 (E : Ed) (i : Nat) : List Flt := ift (atP E.1 1 i = nI 1 ∧ ¬ insE E.1 i (rO E.1 i)) (nI 1, nI i, atP E.1 7 i)
noncomputable def flt2 (E : Ed) (i : Nat) : List Flt := ift ((atP E.1 1 i = nI 0 ∨ atP E.1 1 i = nI 1) ∧ fmE E.1 i ≠ none) (nI 2, nI i, fO (fmE E.1 i))
noncomputable def flt3 (E : Ed) (i : Nat) : List Flt := ift (atP E.1 1 i = nI 1 ∧ ¬ srvE E i) (nI 3, nI i, -1)
noncomputable def flt4 (E : Ed) (i : Nat) : List Flt := ift ((atP E.1 1 i = nI 3 ∨ atP E.1 1 i = nI 4 ∨ atP E.1 1 i = nI 5) ∧ ¬ lnkE E (rO E.1 i)) (nI 4, nI i, atP E.1 7 i)
noncomputable def flt5 (E : Ed) (i : Nat) : List Flt := ift (atP E.1 1 i = nI 2 ∧ lnkE E i ∧ ¬ extE E i) (nI 5, nI i, -1)
noncomputable def fltI (E : Ed) (i : Nat) : List Flt := flt1 E i ++ flt2 E i ++ flt3 E i ++ flt4 E i ++ flt5 E i
noncomputable def fltN (E : Ed) : Nat → List Flt
  | 0 => []
  | n + 1 => fltN E n ++ fltI E n
noncomputable def fltE (E : Ed) : List Flt := fltN E E.1.length
/-- the i-th piece -/
noncomputable def pceE (ps : List Pl) (i : Nat) : Option Nat := fstP ps.length (fun k => atP ps 1 k = nI 2 ∧ cntP k (fun j => atP ps 1 j = nI 2) = i)
/-- a bin is kept -/
def rkN (ps : List Pl) (k : Nat) : Int32 := atP ps 0 (rO ps k)
def kepE (cur old : List Pl) (i : Nat) : Prop := ∃ k, k < cur.length ∧ atP cur 1 k = nI 1 ∧ atP cur 0 k = atP old 0 i ∧ atP cur 6 k = atP old 6 i ∧ atP cur 2 k = atP old 2 i ∧ atP cur 3 k = atP old 3 i ∧ atP cur 4 k = atP old 4 i ∧ atP cur 5 k = atP old 5 i ∧ rkN cur k = rkN old i
def mvP (cur old : List Pl) (un : Nat → Int32) (i : Nat) : Prop := atP old 1 i = nI 1 ∧ un i ≠ nI 0 ∧ ¬ kepE cur old i
/-- what must be moved, and how many units -/
noncomputable def mvN (cur old : List Pl) (un : Nat → Int32) : Nat → List Nat × Int32
  | 0 => ([], nI 0)
  | n + 1 => @ite _ (mvP cur old un n) (Classical.propDecidable _) ((mvN cur old un n).1 ++ [n], (mvN cur old un n).2 + un n) (mvN cur old un n)
theorem mvN_le {cur old : List Pl} {un : Nat → Int32} : ∀ n, (mvN cur old un n).1.length ≤ n
  | 0 => Nat.le_refl _
  | n + 1 => by
    have := @mvN_le cur old un n
    by_cases h : mvP cur old un n
    · rw [show mvN cur old un (n + 1) = _ from if_pos h, List.length_append]
      show _ + 1 ≤ _
      omega
    · rw [show mvN cur old un (n + 1) = _ from if_neg h]; omega
/-- the plan -/
def covE (ps : List Pl) (k x y : Nat) : Prop := atP ps 2 k ≤ nI x ∧ nI x < atP ps 2 k + atP ps 4 k ∧ atP ps 3 k ≤ nI y ∧ nI y < atP ps 3 k + atP ps 5 k
def kcv (ps : List Pl) (kd x y : Nat) : Prop := ∃ k, k < ps.length ∧ atP ps 1 k = nI kd ∧ covE ps k x y
def scv (ps : List Pl) (x y : Nat) : Prop := ∃ k s, k < ps.length ∧ atP ps 1 k = nI 6 ∧ s ∈ stP ps k ∧ covE ps s x y
noncomputable def pit (c : Prop) (a b : Int32) : Int32 := @ite _ c (Classical.propDecidable _) a b
noncomputable def sgnE (ps : List Pl) (x y : Nat) : Int32 := pit (kcv ps 3 x y) (nI 68) (pit (kcv ps 4 x y) (nI 83) (pit (kcv ps 5 x y) (nI 67) (pit (scv ps x y) (nI 69) (pit (kcv ps 2 x y) (nI 43) (pit (kcv ps 1 x y) (nI 98) (pit (kcv ps 0 x y) (nI 35) (nI 46)))))))
def rowN (ps : List Pl) : Nat → Nat
  | 0 => 0
  | n + 1 => max (rowN ps n) ((atP ps 3 n).toNatClampNeg + (atP ps 5 n).toNatClampNeg)
def rowE (ps : List Pl) : Nat := rowN ps ps.length
noncomputable def plnE (ps : List Pl) : List Int32 := (List.range (41 * rowE ps)).map (fun i => if i % 41 = 40 then nI 10 else sgnE ps (i % 41) (i / 41))
theorem egE_lt {E : Ed} (h : EdW E) {a b : Nat} (e : egE E a b) : a < E.1.length ∧ b < E.1.length := by
  rcases e.2 with ⟨t, q⟩ | q | ⟨k, q1, q2, q3⟩
  · have := h.2.2.1 a b t q; exact ⟨this.1, this.2.1⟩
  · have := h.2.2.1 b a true q; exact ⟨this.2.1, this.1⟩
  · have hk := stP_lt q2
    have e := List.getElem?_eq_getElem hk
    obtain ⟨kd, x, y, w, hh, lv, a1, a2, a3, a4, a5, a6, a7, a8, a9, b1, b2, b3, b4, b5, b6, b7, b8, b9⟩ := h.1 k _ e
    rw [atP_some e, a3] at q1
    rw [stP_some e] at q2 q3
    have := b9 ((nI_eq (by omega) (by decide)).mp q1)
    exact ⟨(this.2.2.2 a q2).1, (this.2.2.2 b q3).1⟩
