/-! AN EDITION IN THE MAKING: its places (0 name, 1 kind, 2 x, 3 y, 4 w, 5 h, 6 level, 7 what it is of; a lift's stops), and one line of a text -/
abbrev Pl : Type := (Nat → Int32) × List Nat
def plF (l : List Int32) : Nat → Int32 := fun i => l.getD i 0
def atP (ps : List Pl) (a k : Nat) : Int32 := match ps[k]? with
  | some P => P.1 a
  | none => 0
def stP (ps : List Pl) (k : Nat) : List Nat := match ps[k]? with
  | some P => P.2
  | none => []
theorem atP_some {ps : List Pl} {k : Nat} {P : Pl} (h : ps[k]? = some P) (a : Nat) : atP ps a k = P.1 a := by unfold atP; rw [h]
theorem stP_some {ps : List Pl} {k : Nat} {P : Pl} (h : ps[k]? = some P) : stP ps k = P.2 := by unfold stP; rw [h]
theorem atP_old {ps : List Pl} {k : Nat} {P : Pl} (h : k < ps.length) (a : Nat) : atP (ps ++ [P]) a k = atP ps a k := by
  unfold atP; rw [List.getElem?_append_left h]
theorem atP_new {ps : List Pl} {P : Pl} (a : Nat) : atP (ps ++ [P]) a ps.length = P.1 a := by
  unfold atP; rw [List.getElem?_append_right (Nat.le_refl _), Nat.sub_self]; rfl
theorem stP_old {ps : List Pl} {k : Nat} {P : Pl} (h : k < ps.length) : stP (ps ++ [P]) k = stP ps k := by
  unfold stP; rw [List.getElem?_append_left h]
theorem stP_new {ps : List Pl} {P : Pl} : stP (ps ++ [P]) ps.length = P.2 := by
  unfold stP; rw [List.getElem?_append_right (Nat.le_refl _), Nat.sub_self]; rfl
abbrev LR : Type := Pl ⊕ ((Nat × Nat × Bool) ⊕ (Nat × Nat))
def plR (v : Int32) (x y w h : Nat) : Pl := (plF [v, nI 0, nI x, nI y, nI w, nI h, nI 0, -1], [])
def plB (v : Int32) (r l x y w h : Nat) : Pl := (plF [v, nI 1, nI x, nI y, nI w, nI h, nI l, nI r], [])
def plP (v : Int32) (x y : Nat) : Pl := (plF [v, nI 2, nI x, nI y, nI 1, nI 1, nI 0, -1], [])
def plA (ps : List Pl) (v : Int32) (kd r : Nat) (st : List Nat) : Pl := (plF [v, nI kd, atP ps 2 r, atP ps 3 r, nI 1, nI 1, nI 0, nI r], st)
noncomputable def atL (tx : Nat → Int32) (len : Nat) (ps : List Pl) (kd p : Nat) : Except Nat (LR × Nat) := match atpM tx len (atP ps 0) (atP ps 1) ps.length p with
  | .error q => .error q
  | .ok (v, r, q) => .ok (.inl (plA ps v kd r []), q)
/-- one line: what it adds, and where the next begins -/
noncomputable def lineM (tx : Nat → Int32) (len : Nat) (ps : List Pl) (p : Nat) : Except Nat (LR × Nat) :=
  if tk tx len p = nI 82 then (match rackM tx len (atP ps 0) ps.length (p + 1) with
    | .error q => .error q
    | .ok (v, x, y, w, h, q) => .ok (.inl (plR v x y w h), q))
  else if tk tx len p = nI 66 then (match binM tx len (atP ps 0) (atP ps 1) ps.length (p + 1) with
    | .error q => .error q
    | .ok (v, r, l, x, y, w, h, q) => .ok (.inl (plB v r l x y w h), q))
  else if tk tx len p = nI 80 then (match pieceM tx len (atP ps 0) ps.length (p + 1) with
    | .error q => .error q
    | .ok (v, x, y, q) => .ok (.inl (plP v x y), q))
  else if tk tx len p = nI 68 then atL tx len ps 3 (p + 1)
  else if tk tx len p = nI 83 then atL tx len ps 4 (p + 1)
  else if tk tx len p = nI 67 then atL tx len ps 5 (p + 1)
  else if tk tx len p = nI 69 then (match lftM tx len (atP ps 0) (atP ps 1) ps.length (p + 1) with
    | .error q => .error q
    | .ok (v, l, q) => .ok (.inl (plA ps v 6 (l.getD 0 0) l), q))
  else if tk tx len p = nI 87 then (match wayM tx len (atP ps 0) (atP ps 1) ps.length (p + 1) with
    | .error q => .error q
    | .ok (a, b, t, q) => .ok (.inr (.inl (a, b, t)), q))
  else if tk tx len p = nI 65 then (match srvM tx len (atP ps 0) (atP ps 1) ps.length (p + 1) with
    | .error q => .error q
    | .ok (a, b, q) => .ok (.inr (.inr (a, b)), q))
  else .error p
/-- names and kinds count only up to n -/
theorem newM_congr {tx : Nat → Int32} {len n p : Nat} {nm nm' : Nat → Int32} (h : ∀ k, k < n → nm k = nm' k) : newM tx len nm n p = newM tx len nm' n p := by
  unfold newM
  split
  · rfl
  · rename_i v f q _
    rw [fI_congr h]
theorem oldM_congr {tx : Nat → Int32} {len n p : Nat} {nm nm' kd kd' : Nat → Int32} {c : Int32} (h : ∀ k, k < n → nm k = nm' k) (h' : ∀ k, k < n → kd k = kd' k) : oldM tx len nm kd n c p = oldM tx len nm' kd' n c p := by
  unfold oldM
  split
  · rfl
  · rename_i v f q _
    rw [fI_congr h]
    split
    · rfl
    · rename_i k hk
      rw [h' k (fI_spec hk).1]
theorem stpM_congr {tx : Nat → Int32} {len n : Nat} {nm nm' kd kd' : Nat → Int32} (h : ∀ k, k < n → nm k = nm' k) (h' : ∀ k, k < n → kd k = kd' k) : ∀ (k : Nat) (acc : List Nat) (p : Nat), stpM tx len nm kd n k acc p = stpM tx len nm' kd' n k acc p
  | 0, acc, p => rfl
  | k + 1, acc, p => by
    unfold stpM
    rw [oldM_congr h h']
    congr 1
    congr 1
    split
    · rfl
    · exact stpM_congr h h' k _ _
section CG
variable {tx : Nat → Int32} {len n p : Nat} {nm nm' kd kd' : Nat → Int32}
theorem rackM_congr (h : ∀ k, k < n → nm k = nm' k) : rackM tx len nm n p = rackM tx len nm' n p := by unfold rackM; rw [newM_congr h]
theorem binM_congr (h : ∀ k, k < n → nm k = nm' k) (h' : ∀ k, k < n → kd k = kd' k) : binM tx len nm kd n p = binM tx len nm' kd' n p := by
  unfold binM; rw [newM_congr h]; split; · rfl
  · rw [oldM_congr h h']
theorem pieceM_congr (h : ∀ k, k < n → nm k = nm' k) : pieceM tx len nm n p = pieceM tx len nm' n p := by unfold pieceM; rw [newM_congr h]
theorem atpM_congr (h : ∀ k, k < n → nm k = nm' k) (h' : ∀ k, k < n → kd k = kd' k) : atpM tx len nm kd n p = atpM tx len nm' kd' n p := by
  unfold atpM; rw [newM_congr h]; split; · rfl
  · rw [oldM_congr h h']
theorem wayM_congr (h : ∀ k, k < n → nm k = nm' k) (h' : ∀ k, k < n → kd k = kd' k) : wayM tx len nm kd n p = wayM tx len nm' kd' n p := by
  unfold wayM; rw [oldM_congr h h']; split; · rfl
  · rw [oldM_congr h h']
theorem srvM_congr (h : ∀ k, k < n → nm k = nm' k) (h' : ∀ k, k < n → kd k = kd' k) : srvM tx len nm kd n p = srvM tx len nm' kd' n p := by
  unfold srvM; rw [oldM_congr h h']; split; · rfl
  · rw [oldM_congr h h']
theorem lftM_congr (h : ∀ k, k < n → nm k = nm' k) (h' : ∀ k, k < n → kd k = kd' k) : lftM tx len nm kd n p = lftM tx len nm' kd' n p := by
  unfold lftM; rw [newM_congr h]; split; · rfl
  · rw [stpM_congr h h']
end CG
/-- the reference's rows of an edition in the making -/
def RT (ar : Nat → Nat → Int32) (ps : List Pl) : Prop := ∀ k P, ps[k]? = some P → (ar 37 k = P.1 0 ∧ ar 36 k = P.1 1 ∧ ar 38 k = P.1 2 ∧ ar 39 k = P.1 3 ∧ ar 40 k = P.1 4 ∧ ar 41 k = P.1 5 ∧ ar 42 k = P.1 6 ∧ ar 43 k = P.1 7) ∧ ar 34 k = nI P.2.length ∧ P.2.length ≤ 4 ∧ ∀ i, i < P.2.length → ar 35 (4 * k + i) = nI (P.2.getD i 0)
theorem RT.nm {ar : Nat → Nat → Int32} {ps : List Pl} (h : RT ar ps) : ∀ k, k < ps.length → ar 37 k = atP ps 0 k := fun k hk => by
  have e := List.getElem?_eq_getElem hk
  rw [atP_some e]; exact (h k _ e).1.1
theorem RT.kd {ar : Nat → Nat → Int32} {ps : List Pl} (h : RT ar ps) : ∀ k, k < ps.length → ar 36 k = atP ps 1 k := fun k hk => by
  have e := List.getElem?_eq_getElem hk
  rw [atP_some e]; exact (h k _ e).1.2.1
theorem RT.xy {ar : Nat → Nat → Int32} {ps : List Pl} (h : RT ar ps) {k : Nat} (hk : k < ps.length) : ar 38 k = atP ps 2 k ∧ ar 39 k = atP ps 3 k := by
  have e := List.getElem?_eq_getElem hk
  rw [atP_some e, atP_some e]; exact ⟨(h k _ e).1.2.2.1, (h k _ e).1.2.2.2.1⟩
theorem RT.same {ar ar' : Nat → Nat → Int32} {ps : List Pl} (h : RT ar ps) (e : ∀ k, 34 ≤ k → k ≤ 43 → ar' k = ar k) : RT ar' ps := by
  intro k P hk
  rw [e 34 (by omega) (by omega), e 35 (by omega) (by omega), e 36 (by omega) (by omega), e 37 (by omega) (by omega), e 38 (by omega) (by omega), e 39 (by omega) (by omega), e 40 (by omega) (by omega), e 41 (by omega) (by omega), e 42 (by omega) (by omega), e 43 (by omega) (by omega)]
  exact h k P hk
theorem RT.push {ar ar' : Nat → Nat → Int32} {ps : List Pl} {P : Pl} {n : Nat} (h : RT ar ps) (hn : ps.length = n) (hold : ∀ k, 34 ≤ k → k ≤ 43 → k ≠ 35 → ∀ i, i < n → ar' k i = ar k i) (hst : ∀ i, i < 4 * n → ar' 35 i = ar 35 i)
    (hnew : ar' 37 n = P.1 0 ∧ ar' 36 n = P.1 1 ∧ ar' 38 n = P.1 2 ∧ ar' 39 n = P.1 3 ∧ ar' 40 n = P.1 4 ∧ ar' 41 n = P.1 5 ∧ ar' 42 n = P.1 6 ∧ ar' 43 n = P.1 7) (hs : ar' 34 n = nI P.2.length) (h4 : P.2.length ≤ 4) (hsn : ∀ i, i < P.2.length → ar' 35 (4 * n + i) = nI (P.2.getD i 0)) : RT ar' (ps ++ [P]) := by
  subst hn
  intro k P' hk
  by_cases e : k < ps.length
  · rw [List.getElem?_append_left e] at hk
    obtain ⟨a, b, c, d⟩ := h k P' hk
    refine ⟨?_, ?_, c, fun i hi => ?_⟩
    · rw [hold 37 (by omega) (by omega) (by omega) k e, hold 36 (by omega) (by omega) (by omega) k e, hold 38 (by omega) (by omega) (by omega) k e, hold 39 (by omega) (by omega) (by omega) k e, hold 40 (by omega) (by omega) (by omega) k e, hold 41 (by omega) (by omega) (by omega) k e, hold 42 (by omega) (by omega) (by omega) k e, hold 43 (by omega) (by omega) (by omega) k e]
      exact a
    · rw [hold 34 (by omega) (by omega) (by omega) k e]; exact b
    · rw [hst _ (by omega)]; exact d i hi
  · have hk2 := (List.getElem?_eq_some_iff.mp hk).1
    rw [List.length_append] at hk2
    have hk3 : k = ps.length := by have : k < ps.length + 1 := hk2; omega
    subst hk3
    rw [List.getElem?_append_right (Nat.le_refl _), Nat.sub_self] at hk
    cases hk
    exact ⟨hnew, hs, h4, hsn⟩
section OK
variable {tx : Nat → Int32} {len n p : Nat} {nm kd : Nat → Int32}
theorem rackM_ok {v : Int32} {x y w h q : Nat} (e : rackM tx len nm n p = .ok (v, x, y, w, h, q)) : p + 3 < q ∧ q ≤ len ∧ x ≤ 39 ∧ y ≤ 19 ∧ 1 ≤ w ∧ x + w ≤ 40 ∧ 1 ≤ h ∧ y + h ≤ 20 ∧ fI nm n v = none := by
  unfold rackM at e
  split at e
  · cases e
  · rename_i e1
    split at e
    · cases e
    · rename_i e2
      cases e
      have o1 := newM_ok e1
      have o2 := areaM_ok e2
      exact ⟨by omega, by omega, by omega, by omega, by omega, by omega, by omega, by omega, o1.2.2.2⟩
theorem binM_ok {v : Int32} {r l x y w h q : Nat} (e : binM tx len nm kd n p = .ok (v, r, l, x, y, w, h, q)) : p + 3 < q ∧ q ≤ len ∧ x ≤ 39 ∧ y ≤ 19 ∧ 1 ≤ w ∧ x + w ≤ 40 ∧ 1 ≤ h ∧ y + h ≤ 20 ∧ fI nm n v = none ∧ r < n ∧ kd r = nI 0 ∧ 1 ≤ l ∧ l ≤ 9 := by
  unfold binM at e
  split at e
  · cases e
  · rename_i e1
    split at e
    · cases e
    · rename_i e2
      split at e
      · cases e
      · rename_i e3
        split at e
        · cases e
        · rename_i e4
          cases e
          have o1 := newM_ok e1
          have o2 := oldM_ok e2
          have o3 := numM_ok e3
          have o4 := areaM_ok e4
          exact ⟨by omega, by omega, by omega, by omega, by omega, by omega, by omega, by omega, o1.2.2.2, o2.2.2.2.1, o2.2.2.2.2, by omega, by omega⟩
theorem pieceM_ok {v : Int32} {x y q : Nat} (e : pieceM tx len nm n p = .ok (v, x, y, q)) : p + 3 < q ∧ q ≤ len ∧ x ≤ 39 ∧ y ≤ 19 ∧ fI nm n v = none := by
  unfold pieceM at e
  split at e
  · cases e
  · rename_i e1
    split at e
    · cases e
    · rename_i e2
      split at e
      · cases e
      · rename_i e3
        split at e
        · cases e
        · rename_i e4
          cases e
          have o1 := newM_ok e1
          have o2 := numM_ok e2
          have o3 := numM_ok e3
          obtain ⟨rfl, hc⟩ := skM_inv e4
          have := tkc hc (by decide)
          exact ⟨by omega, by omega, by omega, by omega, o1.2.2.2⟩
theorem atpM_ok {v : Int32} {r q : Nat} (e : atpM tx len nm kd n p = .ok (v, r, q)) : p + 3 < q ∧ q ≤ len ∧ r < n ∧ kd r = nI 2 ∧ fI nm n v = none := by
  unfold atpM at e
  split at e
  · cases e
  · rename_i e1
    split at e
    · cases e
    · rename_i e2
      split at e
      · cases e
      · rename_i e3
        cases e
        have o1 := newM_ok e1
        have o2 := oldM_ok e2
        obtain ⟨rfl, hc⟩ := skM_inv e3
        have := tkc hc (by decide)
        exact ⟨by omega, by omega, o2.2.2.2.1, o2.2.2.2.2, o1.2.2.2⟩
theorem lftM_ok {v : Int32} {l : List Nat} {q : Nat} (e : lftM tx len nm kd n p = .ok (v, l, q)) : p + 3 < q ∧ q ≤ len ∧ 1 ≤ l.length ∧ l.length ≤ 4 ∧ (∀ a ∈ l, a < n ∧ kd a = nI 2) ∧ fI nm n v = none := by
  unfold lftM at e
  split at e
  · cases e
  · rename_i e1
    split at e
    · cases e
    · rename_i e2
      cases e
      have o1 := newM_ok e1
      have o2 := stpM_ok 6 [] _ _ _ (by decide) (fun a ha => by cases ha) e2
      have o3 := o2.2.2.2.2.2 rfl
      exact ⟨by omega, o2.2.1, o2.2.2.1, o2.2.2.2.1, o2.2.2.2.2.1, o1.2.2.2⟩
theorem wayM_ok {a b q : Nat} {t : Bool} (e : wayM tx len nm kd n p = .ok (a, b, t, q)) : p + 4 < q ∧ q ≤ len ∧ a < n ∧ b < n ∧ kd a = nI 2 ∧ kd b = nI 2 ∧ b ≠ a := by
  unfold wayM at e
  split at e
  · cases e
  · rename_i e1
    split at e
    · cases e
    · rename_i e2
      split at e
      · cases e
      · rename_i hne
        split at e
        · cases e
        · rename_i e3
          split at e
          · split at e
            · cases e
            · rename_i e4
              cases e
              have o1 := oldM_ok e1
              have o2 := oldM_ok e2
              obtain ⟨rfl, hc⟩ := skM_inv e3
              obtain ⟨rfl, hc2⟩ := skM_inv e4
              have := tkc hc2 (by decide)
              exact ⟨by omega, by omega, o1.2.2.2.1, o2.2.2.2.1, o1.2.2.2.2, o2.2.2.2.2, hne⟩
          · cases e
theorem srvM_ok {a b q : Nat} (e : srvM tx len nm kd n p = .ok (a, b, q)) : p + 4 < q ∧ q ≤ len ∧ a < n ∧ b < n ∧ kd a = nI 1 ∧ kd b = nI 2 := by
  unfold srvM at e
  split at e
  · cases e
  · rename_i e1
    split at e
    · cases e
    · rename_i e2
      split at e
      · cases e
      · rename_i e3
        cases e
        have o1 := oldM_ok e1
        have o2 := oldM_ok e2
        obtain ⟨rfl, hc⟩ := skM_inv e3
        have := tkc hc (by decide)
        exact ⟨by omega, by omega, o1.2.2.2.1, o2.2.2.2.1, o1.2.2.2.2, o2.2.2.2.2⟩
end OK
