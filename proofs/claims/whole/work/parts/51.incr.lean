/-! AN EDITION GROWS: lines, links, stops -/
theorem wA_old {ws : List (Nat × Nat × Bool)} {w : Nat × Nat × Bool} {i : Nat} (h : i < ws.length) : wA (ws ++ [w]) i = wA ws i ∧ wB (ws ++ [w]) i = wB ws i ∧ wT (ws ++ [w]) i = wT ws i := by
  unfold wA wB wT
  rw [List.getD_eq_getElem?_getD, List.getElem?_append_left h, ← List.getD_eq_getElem?_getD]
  exact ⟨rfl, rfl, rfl⟩
theorem wA_new {ws : List (Nat × Nat × Bool)} {w : Nat × Nat × Bool} : wA (ws ++ [w]) ws.length = w.1 ∧ wB (ws ++ [w]) ws.length = w.2.1 ∧ wT (ws ++ [w]) ws.length = w.2.2 := by
  unfold wA wB wT
  rw [List.getD_eq_getElem?_getD, List.getElem?_append_right (Nat.le_refl _), Nat.sub_self]
  exact ⟨rfl, rfl, rfl⟩
theorem vA_old {vs : List (Nat × Nat)} {w : Nat × Nat} {i : Nat} (h : i < vs.length) : vA (vs ++ [w]) i = vA vs i ∧ vB (vs ++ [w]) i = vB vs i := by
  unfold vA vB
  rw [List.getD_eq_getElem?_getD, List.getElem?_append_left h, ← List.getD_eq_getElem?_getD]
  exact ⟨rfl, rfl⟩
theorem vA_new {vs : List (Nat × Nat)} {w : Nat × Nat} : vA (vs ++ [w]) vs.length = w.1 ∧ vB (vs ++ [w]) vs.length = w.2 := by
  unfold vA vB
  rw [List.getD_eq_getElem?_getD, List.getElem?_append_right (Nat.le_refl _), Nat.sub_self]
  exact ⟨rfl, rfl⟩
theorem linE_way {E : Ed} {a b : Nat} {t : Bool} {k : Nat} : linE (E.1, E.2.1 ++ [(a, b, t)], E.2.2) k = linE E k + (if a = k ∨ b = k then 1 else 0) := by
  have e : cntP (E.2.1 ++ [(a, b, t)]).length (fun i => wA (E.2.1 ++ [(a, b, t)]) i = k ∨ wB (E.2.1 ++ [(a, b, t)]) i = k) = cntP E.2.1.length (fun i => wA E.2.1 i = k ∨ wB E.2.1 i = k) + (if a = k ∨ b = k then 1 else 0) := by
    rw [List.length_append]
    have h := cntP_eq (f := fun i => wA (E.2.1 ++ [(a, b, t)]) i = k ∨ wB (E.2.1 ++ [(a, b, t)]) i = k) (g := fun i => wA E.2.1 i = k ∨ wB E.2.1 i = k) E.2.1.length (fun i hi => by obtain ⟨e1, e2, _⟩ := wA_old (w := (a, b, t)) hi; rw [e1, e2])
    obtain ⟨n1, n2, _⟩ := @wA_new E.2.1 (a, b, t)
    show cntP (E.2.1.length + 1) _ = _
    by_cases q : a = k ∨ b = k
    · rw [cntP_y (by rw [n1, n2]; exact q), h, if_pos q]
    · rw [cntP_n (by rw [n1, n2]; exact q), h, if_neg q]; rfl
  unfold linE
  rw [e]
  dsimp only
  omega
theorem linE_srv {E : Ed} {a b : Nat} {k : Nat} : linE (E.1, E.2.1, E.2.2 ++ [(a, b)]) k = linE E k + (if a = k then 1 else 0) := by
  have e : cntP (E.2.2 ++ [(a, b)]).length (fun i => vA (E.2.2 ++ [(a, b)]) i = k) = cntP E.2.2.length (fun i => vA E.2.2 i = k) + (if a = k then 1 else 0) := by
    rw [List.length_append]
    have h := cntP_eq (f := fun i => vA (E.2.2 ++ [(a, b)]) i = k) (g := fun i => vA E.2.2 i = k) E.2.2.length (fun i hi => by obtain ⟨e1, _⟩ := vA_old (w := (a, b)) hi; rw [e1])
    obtain ⟨n1, n2⟩ := @vA_new E.2.2 (a, b)
    show cntP (E.2.2.length + 1) _ = _
    by_cases q : a = k
    · rw [cntP_y (by rw [n1]; exact q), h, if_pos q]
    · rw [cntP_n (by rw [n1]; exact q), h, if_neg q]; rfl
  unfold linE
  rw [e]
  dsimp only
  omega
theorem linE_pl {E : Ed} (h : EdW E) {P : Pl} {k : Nat} (hk : k < E.1.length) : linE (E.1 ++ [P], E.2.1, E.2.2) k = linE E k := by
  unfold linE
  dsimp only
  rw [stP_old hk]
theorem linE_new {E : Ed} (h : EdW E) {P : Pl} : linE (E.1 ++ [P], E.2.1, E.2.2) E.1.length = P.2.length := by
  unfold linE
  dsimp only
  rw [stP_new, cntP_0 _ (fun i hi q => ?_), cntP_0 _ (fun i hi q => ?_)]
  · rfl
  · have := (h.2.2.2 _ _ (v_mem hi)).1; omega
  · have := h.2.2.1 _ _ _ (w_mem hi)
    rcases q with q | q <;> omega
theorem lnkE_way {E : Ed} {a b : Nat} {t : Bool} {k : Nat} : lnkE (E.1, E.2.1 ++ [(a, b, t)], E.2.2) k ↔ lnkE E k ∨ a = k ∨ b = k := by
  constructor
  · rintro (⟨i, h1, h2⟩ | h)
    · dsimp only at h1 h2
      rw [List.length_append] at h1
      by_cases e : i < E.2.1.length
      · obtain ⟨e1, e2, _⟩ := wA_old (w := (a, b, t)) e
        rw [e1, e2] at h2
        exact Or.inl (Or.inl ⟨i, e, h2⟩)
      · have h1 : i < E.2.1.length + 1 := h1
        have e' : i = E.2.1.length := by omega
        subst e'
        obtain ⟨n1, n2, _⟩ := @wA_new E.2.1 (a, b, t)
        rw [n1, n2] at h2
        exact Or.inr h2
    · exact Or.inl (Or.inr h)
  · rintro ((⟨i, h1, h2⟩ | h) | h)
    · obtain ⟨e1, e2, _⟩ := wA_old (w := (a, b, t)) h1
      exact Or.inl ⟨i, by dsimp only; rw [List.length_append]; omega, by dsimp only; rw [e1, e2]; exact h2⟩
    · exact Or.inr h
    · obtain ⟨n1, n2, _⟩ := @wA_new E.2.1 (a, b, t)
      exact Or.inl ⟨E.2.1.length, by dsimp only; rw [List.length_append]; exact Nat.lt_succ_self _, by dsimp only; rw [n1, n2]; exact h⟩
theorem lnkE_pl {E : Ed} {P : Pl} {k : Nat} (hs : P.1 1 ≠ nI 6 → P.2 = []) : lnkE (E.1 ++ [P], E.2.1, E.2.2) k ↔ lnkE E k ∨ k ∈ P.2 := by
  constructor
  · rintro (h | ⟨j, h1, h2⟩)
    · exact Or.inl (Or.inl h)
    · dsimp only at h1 h2
      have hj := stP_lt h2
      rw [List.length_append] at hj
      by_cases e : j < E.1.length
      · rw [atP_old e] at h1
        rw [stP_old e] at h2
        exact Or.inl (Or.inr ⟨j, h1, h2⟩)
      · have hj : j < E.1.length + 1 := hj
        have e' : j = E.1.length := by omega
        subst e'
        rw [stP_new] at h2
        exact Or.inr h2
  · rintro ((h | ⟨j, h1, h2⟩) | h)
    · exact Or.inl h
    · have hj := stP_lt h2
      exact Or.inr ⟨j, by dsimp only; rw [atP_old hj]; exact h1, by dsimp only; rw [stP_old hj]; exact h2⟩
    · refine Or.inr ⟨E.1.length, ?_, by dsimp only; rw [stP_new]; exact h⟩
      dsimp only
      rw [atP_new]
      apply Classical.byContradiction
      intro q
      rw [hs q] at h
      exact absurd h List.not_mem_nil
/-- lifts and their stops, in the order of the text -/
def stsN (ps : List Pl) : Nat → List (Nat × Nat)
  | 0 => []
  | n + 1 => stsN ps n ++ (stP ps n).map (fun s => (n, s))
def sts (ps : List Pl) : List (Nat × Nat) := stsN ps ps.length
theorem stsN_old {ps : List Pl} {P : Pl} : ∀ n, n ≤ ps.length → stsN (ps ++ [P]) n = stsN ps n
  | 0, _ => rfl
  | n + 1, h => by
    show stsN (ps ++ [P]) n ++ _ = stsN ps n ++ _
    rw [stsN_old n (by omega), stP_old (by omega)]
theorem sts_new {ps : List Pl} {P : Pl} : sts (ps ++ [P]) = sts ps ++ P.2.map (fun s => (ps.length, s)) := by
  unfold sts
  rw [List.length_append]
  show stsN (ps ++ [P]) ps.length ++ _ = _
  rw [stsN_old _ (Nat.le_refl _), stP_new]
theorem stsN_mem {ps : List Pl} {k s : Nat} : ∀ n, (k, s) ∈ stsN ps n ↔ k < n ∧ s ∈ stP ps k
  | 0 => ⟨fun h => absurd h List.not_mem_nil, fun h => absurd h.1 (Nat.not_lt_zero k)⟩
  | n + 1 => by
    show (k, s) ∈ stsN ps n ++ _ ↔ _
    rw [List.mem_append, stsN_mem n, List.mem_map]
    constructor
    · rintro (h | ⟨s', h1, h2⟩)
      · exact ⟨by omega, h.2⟩
      · cases h2; exact ⟨by omega, h1⟩
    · rintro ⟨h1, h2⟩
      by_cases e : k = n
      · subst e; exact Or.inr ⟨s, h2, rfl⟩
      · exact Or.inl ⟨by omega, h2⟩
theorem sts_mem {ps : List Pl} {k s : Nat} : (k, s) ∈ sts ps ↔ s ∈ stP ps k := by
  unfold sts
  rw [stsN_mem]
  exact ⟨fun h => h.2, fun h => ⟨stP_lt h, h⟩⟩
theorem stsN_len {E : Ed} (h : EdW E) : ∀ n, n ≤ E.1.length → (stsN E.1 n).length ≤ 4 * n
  | 0, _ => Nat.le_refl _
  | n + 1, hn => by
    have := stsN_len h n (by omega)
    show (stsN E.1 n ++ (stP E.1 n).map _).length ≤ _
    rw [List.length_append, List.length_map]
    obtain ⟨kd, x, y, w, hh, lv, a1, a2, a3, a4, a5, a6, a7, a8, a9, b1, b2, b3, b4, b5, b6, b7, b8, b9⟩ := h.pl (show n < E.1.length by omega)
    by_cases e : kd = 6
    · have := (b9 e).2.1; omega
    · rw [b6 e]; show _ + 0 ≤ _; omega
theorem flt_len {E : Ed} {n : Nat} : (fltN E n).length ≤ 3 * n := by
  induction n with
  | zero => exact Nat.le_refl _
  | succ n ih =>
    show (fltN E n ++ fltI E n).length ≤ _
    have h1 := ift_le (atP E.1 1 n = nI 1 ∧ ¬ insE E.1 n (rO E.1 n)) (nI 1, nI n, atP E.1 7 n)
    have h2 := ift_le ((atP E.1 1 n = nI 0 ∨ atP E.1 1 n = nI 1) ∧ fmE E.1 n ≠ none) (nI 2, nI n, fO (fmE E.1 n))
    have h3 := ift_le (atP E.1 1 n = nI 1 ∧ ¬ srvE E n) (nI 3, nI n, -1)
    have h45 : (flt4 E n).length + (flt5 E n).length ≤ 1 ∧ ((flt4 E n).length + (flt5 E n).length = 1 → flt1 E n = [] ∧ flt3 E n = []) := by
      unfold flt4 flt5 flt1 flt3
      have hk : ∀ a b, a < 7 → b < 7 → a ≠ b → ¬ nI a = nI b := fun a b ha hb hne q => hne (nI6 (by omega) (by omega) q)
      by_cases c4 : atP E.1 1 n = nI 3 ∨ atP E.1 1 n = nI 4 ∨ atP E.1 1 n = nI 5
      · have n2 : ¬ atP E.1 1 n = nI 2 := by rcases c4 with c | c | c <;> rw [c] <;> decide
        have n1 : ¬ atP E.1 1 n = nI 1 := by rcases c4 with c | c | c <;> rw [c] <;> decide
        rw [ift_n (c := atP E.1 1 n = nI 2 ∧ lnkE E n ∧ ¬ extE E n) (fun q => n2 q.1), ift_n (c := atP E.1 1 n = nI 1 ∧ ¬ insE E.1 n (rO E.1 n)) (fun q => n1 q.1), ift_n (c := atP E.1 1 n = nI 1 ∧ ¬ srvE E n) (fun q => n1 q.1)]
        exact ⟨ift_le _ _, fun _ => ⟨rfl, rfl⟩⟩
      · rw [ift_n (fun q => c4 q.1)]
        refine ⟨by have := ift_le (atP E.1 1 n = nI 2 ∧ lnkE E n ∧ ¬ extE E n) (nI 5, nI n, -1); show 0 + _ ≤ 1; omega, fun q => ?_⟩
        have c2 : atP E.1 1 n = nI 2 := by
          apply Classical.byContradiction
          intro z
          rw [ift_n (fun w => z w.1)] at q
          exact absurd q (by decide)
        rw [ift_n (fun w => absurd (w.1.symm.trans c2) (by decide)), ift_n (fun w => absurd (w.1.symm.trans c2) (by decide))]
        exact ⟨rfl, rfl⟩
    have e : (fltI E n).length = (flt1 E n).length + (flt2 E n).length + (flt3 E n).length + (flt4 E n).length + (flt5 E n).length := by
      unfold fltI
      rw [List.length_append, List.length_append, List.length_append, List.length_append]
    have h1' : (flt1 E n).length ≤ 1 := h1
    have h2' : (flt2 E n).length ≤ 1 := h2
    have h3' : (flt3 E n).length ≤ 1 := h3
    rw [List.length_append, e]
    by_cases q : (flt4 E n).length + (flt5 E n).length = 1
    · obtain ⟨z1, z2⟩ := h45.2 q
      rw [z1, z2]
      show _ + (0 + _ + 0 + _ + _) ≤ _
      omega
    · omega
