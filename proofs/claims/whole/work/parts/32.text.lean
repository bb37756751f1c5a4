/-! TEXTS: reading a line, as the reference does it; a place of the text, or where it is refused -/
def tk (tx : Nat → Int32) (len p : Nat) : Int32 := if p < len then tx p else -1
def isLt (c : Int32) : Prop := 97 ≤ c ∧ c ≤ 122
def isDg (c : Int32) : Prop := 48 ≤ c ∧ c ≤ 57
theorem tk_end {tx : Nat → Int32} {len p : Nat} (h : len ≤ p) : tk tx len p = -1 := if_neg (by omega)
theorem tk_in {tx : Nat → Int32} {len p : Nat} (h : p < len) : tk tx len p = tx p := if_pos h
theorem tk_lt {tx : Nat → Int32} {len p : Nat} (h : tk tx len p ≠ -1) : p < len := Nat.not_le.mp (fun q => h (tk_end q))
theorem isDg_lt {tx : Nat → Int32} {len p : Nat} (h : isDg (tk tx len p)) : p < len := tk_lt (fun e => by rw [e] at h; exact absurd h (by unfold isDg; decide))
theorem isLt_lt {tx : Nat → Int32} {len p : Nat} (h : isLt (tk tx len p)) : p < len := tk_lt (fun e => by rw [e] at h; exact absurd h (by unfold isLt; decide))
/-- one sign -/
noncomputable def skM (tx : Nat → Int32) (len : Nat) (c : Int32) (p : Nat) : Except Nat Nat := @ite _ (tk tx len p = c) (Classical.propDecidable _) (.ok (p + 1)) (.error p)
/-- digits: the value as the reference reckons it -/
noncomputable def numL (tx : Nat → Int32) (len : Nat) : Nat → Nat → Nat → Nat × Nat
  | 0, p, w => (w, p)
  | f + 1, p, w => @ite _ (isDg (tk tx len p)) (Classical.propDecidable _) (numL tx len f (p + 1) (if 1000000 < w then w else 10 * w + ((tk tx len p).toNatClampNeg - 48))) (w, p)
def numV (w : Nat) : Nat := if 1000000 < w then 1000001 else w
/-- a number behind a blank -/
noncomputable def numM (tx : Nat → Int32) (len low high p : Nat) : Except Nat (Nat × Nat) :=
  match skM tx len (nI 32) p with
  | .error q => .error q
  | .ok f => @ite _ ((numL tx len len f 0).2 = f) (Classical.propDecidable _) (.error f)
    (@ite _ (f + 1 < (numL tx len len f 0).2 ∧ tk tx len f = nI 48) (Classical.propDecidable _) (.error (if 0 < low then f else f + 1))
      (@ite _ (low ≤ numV (numL tx len len f 0).1 ∧ numV (numL tx len len f 0).1 ≤ high) (Classical.propDecidable _) (.ok (numV (numL tx len len f 0).1, (numL tx len len f 0).2)) (.error f)))
noncomputable def nmL (tx : Nat → Int32) (len : Nat) : Nat → Nat → Int32 → Int32 × Nat
  | 0, p, v => (v, p)
  | k + 1, p, v => @ite _ (isLt (tk tx len p) ∨ isDg (tk tx len p)) (Classical.propDecidable _) (nmL tx len k (p + 1) ((v <<< 8) ||| tk tx len p)) (v, p)
/-- a name behind a blank: its number, where it begins, where it ends -/
noncomputable def nameM (tx : Nat → Int32) (len p : Nat) : Except Nat (Int32 × Nat × Nat) :=
  match skM tx len (nI 32) p with
  | .error q => .error q
  | .ok f => @ite _ (isLt (tk tx len f)) (Classical.propDecidable _) (.ok ((nmL tx len 4 f (nI 0)).1, f, (nmL tx len 4 f (nI 0)).2)) (.error f)
/-- the first of n numbers that is c -/
def fI (f : Nat → Int32) (n : Nat) (c : Int32) : Option Nat := (List.range n).find? (fun k => decide (f k = c))
def fIv (o : Option Nat) : Int32 := match o with
  | some k => nI k
  | none => -1
noncomputable def newM (tx : Nat → Int32) (len : Nat) (nm : Nat → Int32) (n p : Nat) : Except Nat (Int32 × Nat) :=
  match nameM tx len p with
  | .error q => .error q
  | .ok (v, f, q) => match fI nm n v with
    | none => .ok (v, q)
    | some _ => .error f
noncomputable def oldM (tx : Nat → Int32) (len : Nat) (nm kd : Nat → Int32) (n : Nat) (of0 : Int32) (p : Nat) : Except Nat (Nat × Nat × Nat) :=
  match nameM tx len p with
  | .error q => .error q
  | .ok (v, f, q) => match fI nm n v with
    | none => .error f
    | some k => @ite _ (kd k = of0) (Classical.propDecidable _) (.ok (k, f, q)) (.error f)
theorem fI_none {f : Nat → Int32} {n : Nat} {c : Int32} (h : ∀ k, k < n → ¬ f k = c) : fI f n c = none := by
  unfold fI
  rw [List.find?_eq_none]
  intro k hk
  have := h k (List.mem_range.mp hk)
  simp [this]
theorem fI_some {f : Nat → Int32} {n k : Nat} {c : Int32} (hk : k < n) (he : f k = c) (h : ∀ i, i < k → ¬ f i = c) : fI f n c = some k := by
  unfold fI
  rw [List.find?_range_eq_some]
  refine ⟨by simp [he], List.mem_range.mpr hk, fun i hi => ?_⟩
  simp [h i hi]
theorem fI_spec {f : Nat → Int32} {n k : Nat} {c : Int32} (h : fI f n c = some k) : k < n ∧ f k = c := by
  unfold fI at h
  have h1 := List.mem_of_find?_eq_some h
  have h2 := List.find?_some h
  exact ⟨List.mem_range.mp h1, by simpa using h2⟩
theorem fI_none_iff {f : Nat → Int32} {n : Nat} {c : Int32} : fI f n c = none ↔ ∀ k, k < n → ¬ f k = c := by
  refine ⟨fun h k hk e => ?_, fI_none⟩
  unfold fI at h
  rw [List.find?_eq_none] at h
  exact absurd (h k (List.mem_range.mpr hk)) (by simp [e])
theorem fI_congr {f f' : Nat → Int32} {n : Nat} {c : Int32} (h : ∀ k, k < n → f k = f' k) : fI f n c = fI f' n c := by
  cases hf : fI f n c with
  | none =>
    rw [fI_none_iff] at hf
    exact (fI_none (fun k hk => by rw [← h k hk]; exact hf k hk)).symm
  | some k =>
    symm
    unfold fI at hf ⊢
    rw [List.find?_range_eq_some] at hf ⊢
    obtain ⟨h1, h2, h3⟩ := hf
    have hk := List.mem_range.mp h2
    refine ⟨by rw [← h k hk]; exact h1, h2, fun i hi => ?_⟩
    rw [← h i (by omega)]
    exact h3 i hi
/-- fields that may have changed -/
def eqx (S : List Nat) (g g' : Nat → Int32) : Prop := ∀ k, k ∉ S → g' k = g k
theorem eqx.trans {S S' S'' : List Nat} {g g1 g2 : Nat → Int32} (a : eqx S g g1) (b : eqx S' g1 g2) (h : ∀ k, k ∈ S ++ S' → k ∈ S'') : eqx S'' g g2 := fun k hk => (b k (fun q => hk (h k (List.mem_append_right _ q)))).trans (a k (fun q => hk (h k (List.mem_append_left _ q))))
theorem eqx.u1 {S : List Nat} {g : Nat → Int32} {k : Nat} {v : Int32} (h : k ∈ S) : eqx S g (uF g k v) := fun k' hk' => if_neg (fun e => hk' (by rw [e]; exact h))
theorem eqx.refl (S : List Nat) (g : Nat → Int32) : eqx S g g := fun _ _ => rfl
theorem eqx.more {S S' : List Nat} {g g' : Nat → Int32} (a : eqx S g g') (h : ∀ k, k ∈ S → k ∈ S') : eqx S' g g' := fun k hk => a k (fun q => hk (h k q))
theorem uF_at {g : Nat → Int32} {k : Nat} {v : Int32} : uF g k v k = v := if_pos rfl
theorem uF_ne {g : Nat → Int32} {k k' : Nat} {v : Int32} (h : k' ≠ k) : uF g k v k' = g k' := if_neg h
theorem skM_ok {tx : Nat → Int32} {len : Nat} {c : Int32} {p : Nat} (h : tk tx len p = c) : skM tx len c p = .ok (p + 1) := if_pos h
theorem skM_er {tx : Nat → Int32} {len : Nat} {c : Int32} {p : Nat} (h : ¬ tk tx len p = c) : skM tx len c p = .error p := if_neg h
theorem skM_inv {tx : Nat → Int32} {len : Nat} {c : Int32} {p q : Nat} (h : skM tx len c p = .ok q) : q = p + 1 ∧ tk tx len p = c := by
  by_cases e : tk tx len p = c
  · rw [skM_ok e] at h; cases h; exact ⟨rfl, e⟩
  · rw [skM_er e] at h; cases h
theorem nmL_le {tx : Nat → Int32} {len : Nat} : ∀ (k p : Nat) (v : Int32), p ≤ len → p ≤ (nmL tx len k p v).2 ∧ (nmL tx len k p v).2 ≤ len ∧ (nmL tx len k p v).2 ≤ p + k
  | 0, p, v, h => ⟨Nat.le_refl _, h, Nat.le_refl _⟩
  | k + 1, p, v, h => by
    by_cases e : isLt (tk tx len p) ∨ isDg (tk tx len p)
    · rw [show nmL tx len (k + 1) p v = nmL tx len k (p + 1) ((v <<< 8) ||| tk tx len p) from if_pos e]
      have hp : p < len := e.elim isLt_lt isDg_lt
      have := nmL_le (tx := tx) k (p + 1) ((v <<< 8) ||| tk tx len p) hp
      omega
    · rw [show nmL tx len (k + 1) p v = (v, p) from if_neg e]
      exact ⟨Nat.le_refl _, h, by omega⟩
theorem nameM_ok {tx : Nat → Int32} {len p f q : Nat} {v : Int32} (h : nameM tx len p = .ok (v, f, q)) : f = p + 1 ∧ p + 1 < q ∧ q ≤ len ∧ p < len := by
  unfold nameM at h
  split at h
  · cases h
  · rename_i f' hs
    obtain ⟨rfl, hc⟩ := skM_inv hs
    have hp : p < len := tk_lt (fun e => by rw [e] at hc; exact absurd hc (by decide))
    by_cases e : isLt (tk tx len (p + 1))
    · rw [if_pos e] at h
      cases h
      have hp1 := isLt_lt e
      have h1 : nmL tx len 4 (p + 1) (nI 0) = nmL tx len 3 (p + 2) (((nI 0) <<< 8) ||| tk tx len (p + 1)) := if_pos (Or.inl e)
      have h2 := nmL_le (tx := tx) 3 (p + 2) (((nI 0) <<< 8) ||| tk tx len (p + 1)) (len := len) (by omega)
      rw [h1]
      omega
    · rw [if_neg e] at h; cases h
theorem numL_le {tx : Nat → Int32} {len : Nat} : ∀ (k p w : Nat), p ≤ len → p ≤ (numL tx len k p w).2 ∧ (numL tx len k p w).2 ≤ len
  | 0, p, w, h => ⟨Nat.le_refl _, h⟩
  | k + 1, p, w, h => by
    by_cases e : isDg (tk tx len p)
    · rw [show numL tx len (k + 1) p w = numL tx len k (p + 1) (if 1000000 < w then w else 10 * w + ((tk tx len p).toNatClampNeg - 48)) from if_pos e]
      have hp : p < len := isDg_lt e
      have := numL_le (tx := tx) k (p + 1) (if 1000000 < w then w else 10 * w + ((tk tx len p).toNatClampNeg - 48)) hp
      omega
    · rw [show numL tx len (k + 1) p w = (w, p) from if_neg e]
      exact ⟨Nat.le_refl _, h⟩
theorem numM_ok {tx : Nat → Int32} {len low high p v q : Nat} (h : numM tx len low high p = .ok (v, q)) : p + 1 < q ∧ q ≤ len ∧ low ≤ v ∧ v ≤ high ∧ p < len := by
  unfold numM at h
  split at h
  · cases h
  · rename_i f hs
    obtain ⟨rfl, hc⟩ := skM_inv hs
    have hp : p < len := tk_lt (fun e => by rw [e] at hc; exact absurd hc (by decide))
    have hle := numL_le (tx := tx) (len := len) len (p + 1) 0 hp
    split at h
    · cases h
    · split at h
      · cases h
      · split at h
        · rename_i h1 h2 h3
          cases h
          exact ⟨by omega, hle.2, h3.1, h3.2, hp⟩
        · cases h
theorem isDg_nI {c : Int32} (h : isDg c) : ∃ d, d ≤ 9 ∧ c = nI (48 + d) := by
  obtain ⟨h1, h2⟩ := h
  obtain ⟨j, hj, e⟩ := nI_of (x := c) (fun z => absurd (Int32.le_trans h1 (Int32.le_of_lt z)) (by decide))
  subst e
  have a := (nI_leI (a := 48) (b := j) (by decide) hj).mp h1
  have b := (nI_leI (a := j) (b := 57) hj (by decide)).mp h2
  exact ⟨j - 48, by omega, by rw [show 48 + (j - 48) = j by omega]⟩
theorem eqx.u {S : List Nat} {g g1 : Nat → Int32} {k : Nat} {v : Int32} (a : eqx S g g1) (h : k ∈ S) : eqx S g (uF g1 k v) := fun k' hk' => (if_neg (fun e => hk' (by rw [e]; exact h))).trans (a k' hk')
theorem tkc {tx : Nat → Int32} {len p : Nat} {c : Int32} (h : tk tx len p = c) (hc : c ≠ -1) : p + 1 ≤ len := tk_lt (fun e => hc (h.symm.trans e))
theorem lcmp_le {a b : Nat} (ha : a < 2 ^ 31) (hb : b < 2 ^ 31) : lg_cmp (lN a) (lN b) ≤ 0 ↔ a ≤ b := (lg_cmp_le _ _).trans (lN_le ha hb)
theorem eqx.t {S S' : List Nat} {g g1 g2 : Nat → Int32} (a : eqx S g g1) (b : eqx S' g1 g2) (h : ∀ k, k ∈ S' → k ∈ S) : eqx S g g2 := fun k hk => (b k (fun q => hk (h k q))).trans (a k hk)
theorem newM_ok {tx : Nat → Int32} {len : Nat} {nm : Nat → Int32} {n p q : Nat} {v : Int32} (h : newM tx len nm n p = .ok (v, q)) : p + 1 < q ∧ q ≤ len ∧ p < len ∧ fI nm n v = none := by
  unfold newM at h
  split at h
  · cases h
  · rename_i v' f' q' hs
    have := nameM_ok hs
    split at h
    · rename_i hf
      cases h
      exact ⟨this.2.1, this.2.2.1, this.2.2.2, hf⟩
    · cases h
theorem oldM_ok {tx : Nat → Int32} {len : Nat} {nm kd : Nat → Int32} {n p k f q : Nat} {c : Int32} (h : oldM tx len nm kd n c p = .ok (k, f, q)) : p + 1 < q ∧ q ≤ len ∧ p < len ∧ k < n ∧ kd k = c := by
  unfold oldM at h
  split at h
  · cases h
  · rename_i v' f' q' hs
    have := nameM_ok hs
    split at h
    · cases h
    · rename_i k' hf
      split at h
      · rename_i hk
        cases h
        exact ⟨this.2.1, this.2.2.1, this.2.2.2, (fI_spec hf).1, hk⟩
      · cases h
/-- an area: x, y, w, h; then the line's end -/
noncomputable def areaM (tx : Nat → Int32) (len p : Nat) : Except Nat (Nat × Nat × Nat × Nat × Nat) :=
  match numM tx len 0 39 p with
  | .error q => .error q
  | .ok (x, p1) => match numM tx len 0 19 p1 with
    | .error q => .error q
    | .ok (y, p2) => match numM tx len 1 (40 - x) p2 with
      | .error q => .error q
      | .ok (w, p3) => match numM tx len 1 (20 - y) p3 with
        | .error q => .error q
        | .ok (h, p4) => match skM tx len (nI 10) p4 with
          | .error q => .error q
          | .ok p5 => .ok (x, y, w, h, p5)
noncomputable def rackM (tx : Nat → Int32) (len : Nat) (nm : Nat → Int32) (n p : Nat) : Except Nat (Int32 × Nat × Nat × Nat × Nat × Nat) :=
  match newM tx len nm n p with
  | .error q => .error q
  | .ok (v, p1) => match areaM tx len p1 with
    | .error q => .error q
    | .ok (x, y, w, h, p2) => .ok (v, x, y, w, h, p2)
noncomputable def binM (tx : Nat → Int32) (len : Nat) (nm kd : Nat → Int32) (n p : Nat) : Except Nat (Int32 × Nat × Nat × Nat × Nat × Nat × Nat × Nat) :=
  match newM tx len nm n p with
  | .error q => .error q
  | .ok (v, p1) => match oldM tx len nm kd n (nI 0) p1 with
    | .error q => .error q
    | .ok (r, _, p2) => match numM tx len 1 9 p2 with
      | .error q => .error q
      | .ok (l, p3) => match areaM tx len p3 with
        | .error q => .error q
        | .ok (x, y, w, h, p4) => .ok (v, r, l, x, y, w, h, p4)
noncomputable def pieceM (tx : Nat → Int32) (len : Nat) (nm : Nat → Int32) (n p : Nat) : Except Nat (Int32 × Nat × Nat × Nat) :=
  match newM tx len nm n p with
  | .error q => .error q
  | .ok (v, p1) => match numM tx len 0 39 p1 with
    | .error q => .error q
    | .ok (x, p2) => match numM tx len 0 19 p2 with
      | .error q => .error q
      | .ok (y, p3) => match skM tx len (nI 10) p3 with
        | .error q => .error q
        | .ok p4 => .ok (v, x, y, p4)
noncomputable def atpM (tx : Nat → Int32) (len : Nat) (nm kd : Nat → Int32) (n p : Nat) : Except Nat (Int32 × Nat × Nat) :=
  match newM tx len nm n p with
  | .error q => .error q
  | .ok (v, p1) => match oldM tx len nm kd n (nI 2) p1 with
    | .error q => .error q
    | .ok (r, _, p2) => match skM tx len (nI 10) p2 with
      | .error q => .error q
      | .ok p3 => .ok (v, r, p3)
noncomputable def wayM (tx : Nat → Int32) (len : Nat) (nm kd : Nat → Int32) (n p : Nat) : Except Nat (Nat × Nat × Bool × Nat) :=
  match oldM tx len nm kd n (nI 2) p with
  | .error q => .error q
  | .ok (a, _, p1) => match oldM tx len nm kd n (nI 2) p1 with
    | .error q => .error q
    | .ok (b, f, p2) => @ite _ (b = a) (Classical.propDecidable _) (.error f) (match skM tx len (nI 32) p2 with
      | .error q => .error q
      | .ok p3 => @ite _ (tk tx len p3 = nI 62 ∨ tk tx len p3 = nI 61) (Classical.propDecidable _) (match skM tx len (nI 10) (p3 + 1) with
        | .error q => .error q
        | .ok p4 => .ok (a, b, decide (tk tx len p3 = nI 61), p4)) (.error p3))
noncomputable def srvM (tx : Nat → Int32) (len : Nat) (nm kd : Nat → Int32) (n p : Nat) : Except Nat (Nat × Nat × Nat) :=
  match oldM tx len nm kd n (nI 1) p with
  | .error q => .error q
  | .ok (a, _, p1) => match oldM tx len nm kd n (nI 2) p1 with
    | .error q => .error q
    | .ok (b, _, p2) => match skM tx len (nI 10) p2 with
      | .error q => .error q
      | .ok p3 => .ok (a, b, p3)
/-- the stops of a lift: those behind the first j; acc in the order of the text -/
noncomputable def stpM (tx : Nat → Int32) (len : Nat) (nm kd : Nat → Int32) (n : Nat) : Nat → List Nat → Nat → Except Nat (List Nat × Nat)
  | 0, _, p => .error p
  | k + 1, acc, p => @ite _ (acc ≠ [] ∧ tk tx len p = nI 10) (Classical.propDecidable _) (.ok (acc, p + 1))
    (@ite _ (acc.length = 4) (Classical.propDecidable _) (.error p) (match oldM tx len nm kd n (nI 2) p with
      | .error q => .error q
      | .ok (a, _, p1) => stpM tx len nm kd n k (acc ++ [a]) p1))
noncomputable def lftM (tx : Nat → Int32) (len : Nat) (nm kd : Nat → Int32) (n p : Nat) : Except Nat (Int32 × List Nat × Nat) :=
  match newM tx len nm n p with
  | .error q => .error q
  | .ok (v, p1) => match stpM tx len nm kd n 6 [] p1 with
    | .error q => .error q
    | .ok (l, p2) => .ok (v, l, p2)
theorem areaM_ok {tx : Nat → Int32} {len p x y w h q : Nat} (e : areaM tx len p = .ok (x, y, w, h, q)) : p + 1 < q ∧ q ≤ len ∧ x ≤ 39 ∧ y ≤ 19 ∧ 1 ≤ w ∧ x + w ≤ 40 ∧ 1 ≤ h ∧ y + h ≤ 20 := by
  unfold areaM at e
  split at e
  · cases e
  · rename_i e1
    split at e
    · cases e
    · rename_i e2
      split at e
      · cases e
      · rename_i e3
        split at e
        · cases e
        · rename_i e4
          split at e
          · cases e
          · rename_i e5
            cases e
            have o1 := numM_ok e1
            have o2 := numM_ok e2
            have o3 := numM_ok e3
            have o4 := numM_ok e4
            obtain ⟨rfl, hc⟩ := skM_inv e5
            have := tkc hc (by decide)
            omega
theorem uA_ne {ar : Nat → Nat → Int32} {k k' n : Nat} {v : Int32} (h : k' ≠ k) : uA ar k n v k' = ar k' := funext fun _ => if_neg (fun q => h q.1)
theorem uA_at {ar : Nat → Nat → Int32} {k n : Nat} {v : Int32} : uA ar k n v k n = v := if_pos ⟨rfl, rfl⟩
theorem uA_nn {ar : Nat → Nat → Int32} {k n n' : Nat} {v : Int32} (h : n' ≠ n) : uA ar k n v k n' = ar k n' := if_neg (fun q => h q.2)
theorem stpM_ok {tx : Nat → Int32} {len : Nat} {nm kd : Nat → Int32} {n : Nat} : ∀ (k : Nat) (acc : List Nat) (p : Nat) (l : List Nat) (q : Nat), acc.length ≤ 4 → (∀ a ∈ acc, a < n ∧ kd a = nI 2) → stpM tx len nm kd n k acc p = .ok (l, q) → p < q ∧ q ≤ len ∧ 1 ≤ l.length ∧ l.length ≤ 4 ∧ (∀ a ∈ l, a < n ∧ kd a = nI 2) ∧ (acc = [] → p + 2 < q)
  | 0, acc, p, l, q, hl, ha, h => by cases h
  | k + 1, acc, p, l, q, hl, ha, h => by
    unfold stpM at h
    split at h
    · rename_i hc
      cases h
      have := tkc hc.2 (by decide)
      refine ⟨by omega, this, ?_, hl, ha, fun e => absurd e hc.1⟩
      exact List.length_pos_iff.mpr hc.1
    · split at h
      · cases h
      · rename_i h4
        split at h
        · cases h
        · rename_i a f p1 ho
          have o := oldM_ok ho
          have := stpM_ok k (acc ++ [a]) p1 l q (by rw [List.length_append]; simp; omega) (fun b hb => by
            rcases List.mem_append.mp hb with z | z
            · exact ha b z
            · rw [List.mem_singleton.mp z]; exact ⟨o.2.2.2.1, o.2.2.2.2⟩) h
          exact ⟨by omega, this.2.1, this.2.2.1, this.2.2.2.1, this.2.2.2.2.1, fun _ => by omega⟩
