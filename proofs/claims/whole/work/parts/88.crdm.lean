section RDM
variable {tx : Nat → Int32} {len : Nat} {nm kd : Nat → Int32} {n p : Nat}
theorem binC (hn31 : n < 2 ^ 30) (hp : p ≤ len) (hl : len < 2 ^ 30) : (∀ v r l x y w h q, binM tx len nm kd n p = .ok (v, r, l, x, y, w, h, q) → ∃ p1 p2 p3, nwC tx len nm n (p, -1) = (v, p1, -1) ∧ usC tx len nm kd n (nI 0) (-1) (p1, -1) = (nI r, p2, -1) ∧ nuC tx len (nI 1) (nI 9) (p2, -1) = (l, p3, -1) ∧ areaM tx len p3 = .ok (x, y, w, h, q)) ∧ (∀ q, binM tx len nm kd n p = .error q → (skC tx len (nI 10) (ar4 tx len (nuC tx len (nI 1) (nI 9) (usC tx len nm kd n (nI 0) (-1) (nwC tx len nm n (p, -1)).2).2).2).2).2 = nI q ∧ q ≤ len) := by
  refine ⟨fun v r l x y w h q e => ?_, fun q e => ?_⟩
  · unfold binM at e
    split at e
    · cases e
    rename_i v' p1 e1
    split at e
    · cases e
    rename_i r' f' p2 e2
    split at e
    · cases e
    rename_i l' p3 e3
    split at e
    · cases e
    rename_i e4
    cases e
    have o1 := newM_ok e1
    have o2 := oldM_ok e2
    exact ⟨p1, p2, p3, nwC_ok e1, usC_ok e2 (nI_nm1 (by have := (oldM_ok e2).2.2.2.1; omega)), nuC_ok (by omega) (by omega) e3, e4⟩
  · unfold binM at e
    split at e
    · rename_i q' e1
      cases e
      obtain ⟨a, b⟩ := nwC_er hp (by omega) e1
      have h2 := usC_st (nm := nm) (kd := kd) (n := n) (c := nI 0) (bar := -1) (by omega) (bad_st (tx := tx) (len := len) a)
      have h3 := nuC_st (lo := nI 1) (hi := nI 9) (by omega) (bad_st (tx := tx) (len := len) h2)
      exact ⟨areaC_bad (by omega) (bad_st h3), b⟩
    rename_i v' p1 e1
    have o1 := newM_ok e1
    rw [nwC_ok e1]
    dsimp only
    split at e
    · rename_i q' e2
      cases e
      obtain ⟨a, b⟩ := usC_er (bar := -1) (by omega) (by omega) e2
      have h3 := nuC_st (lo := nI 1) (hi := nI 9) (by omega) (bad_st (tx := tx) (len := len) a)
      exact ⟨areaC_bad (by omega) (bad_st h3), b⟩
    rename_i r' f' p2 e2
    have o2 := oldM_ok e2
    rw [usC_ok e2 (nI_nm1 (by have := (oldM_ok e2).2.2.2.1; omega))]
    dsimp only
    split at e
    · rename_i q' e3
      cases e
      have hq := numM_le (by omega) e3
      exact ⟨areaC_bad (by omega) (nuC_er (by omega) (by omega) (by omega) (by omega) e3), hq⟩
    rename_i l' p3 e3
    have o3 := numM_ok e3
    rw [nuC_ok (by omega) (by omega) e3]
    dsimp only
    split at e
    · rename_i q' e4
      cases e
      exact areaC_er (by omega) hl e4
    · cases e
theorem pieceC (hn31 : n < 2 ^ 30) (hp : p ≤ len) (hl : len < 2 ^ 30) : (∀ v x y q, pieceM tx len nm n p = .ok (v, x, y, q) → ∃ p1 p2 p3, nwC tx len nm n (p, -1) = (v, p1, -1) ∧ nuC tx len (nI 0) (nI 39) (p1, -1) = (x, p2, -1) ∧ nuC tx len (nI 0) (nI 19) (p2, -1) = (y, p3, -1) ∧ skC tx len (nI 10) (p3, -1) = (q, -1)) ∧ (∀ q, pieceM tx len nm n p = .error q → (skC tx len (nI 10) (nuC tx len (nI 0) (nI 19) (nuC tx len (nI 0) (nI 39) (nwC tx len nm n (p, -1)).2).2).2).2 = nI q ∧ q ≤ len) := by
  refine ⟨fun v x y q e => ?_, fun q e => ?_⟩
  · unfold pieceM at e
    split at e
    · cases e
    rename_i v' p1 e1
    split at e
    · cases e
    rename_i x' p2 e2
    split at e
    · cases e
    rename_i y' p3 e3
    split at e
    · cases e
    rename_i p4 e4
    cases e
    exact ⟨p1, p2, p3, nwC_ok e1, nuC_ok (by omega) (by omega) e2, nuC_ok (by omega) (by omega) e3, skC_ok e4⟩
  · unfold pieceM at e
    split at e
    · rename_i q' e1
      cases e
      obtain ⟨a, b⟩ := nwC_er hp (by omega) e1
      have h2 := nuC_st (lo := nI 0) (hi := nI 39) (by omega) (bad_st (tx := tx) (len := len) a)
      have h3 := nuC_st (lo := nI 0) (hi := nI 19) (by omega) (bad_st (tx := tx) (len := len) h2)
      exact ⟨skC_st (by omega) h3, b⟩
    rename_i v' p1 e1
    have o1 := newM_ok e1
    rw [nwC_ok e1]
    dsimp only
    split at e
    · rename_i q' e2
      cases e
      have hq := numM_le (by omega) e2
      have h3 := nuC_st (lo := nI 0) (hi := nI 19) (by omega) (nuC_er (tx := tx) (len := len) (by omega) (by omega) (by omega) (by omega) e2)
      exact ⟨skC_st (by omega) h3, hq⟩
    rename_i x' p2 e2
    have o2 := numM_ok e2
    rw [nuC_ok (by omega) (by omega) e2]
    dsimp only
    split at e
    · rename_i q' e3
      cases e
      have hq := numM_le (by omega) e3
      exact ⟨skC_bad (by omega) (Or.inr rfl) (nuC_er (by omega) (by omega) (by omega) (by omega) e3), hq⟩
    rename_i y' p3 e3
    have o3 := numM_ok e3
    rw [nuC_ok (by omega) (by omega) e3]
    dsimp only
    split at e
    · rename_i q' e4
      cases e
      have hq := skM_lt (tx := tx) (len := len) (by omega) e4
      rw [skC_er e4]
      exact ⟨rfl, hq⟩
    · cases e
theorem atpC (hn31 : n < 2 ^ 30) (hp : p ≤ len) (hl : len < 2 ^ 30) : (∀ v r q, atpM tx len nm kd n p = .ok (v, r, q) → ∃ p1 p2, nwC tx len nm n (p, -1) = (v, p1, -1) ∧ usC tx len nm kd n (nI 2) (-1) (p1, -1) = (nI r, p2, -1) ∧ skC tx len (nI 10) (p2, -1) = (q, -1)) ∧ (∀ q, atpM tx len nm kd n p = .error q → (skC tx len (nI 10) (usC tx len nm kd n (nI 2) (-1) (nwC tx len nm n (p, -1)).2).2).2 = nI q ∧ q ≤ len) := by
  refine ⟨fun v r q e => ?_, fun q e => ?_⟩
  · unfold atpM at e
    split at e
    · cases e
    rename_i v' p1 e1
    split at e
    · cases e
    rename_i r' f' p2 e2
    split at e
    · cases e
    rename_i p3 e3
    cases e
    exact ⟨p1, p2, nwC_ok e1, usC_ok e2 (nI_nm1 (by have := (oldM_ok e2).2.2.2.1; omega)), skC_ok e3⟩
  · unfold atpM at e
    split at e
    · rename_i q' e1
      cases e
      obtain ⟨a, b⟩ := nwC_er hp (by omega) e1
      have h2 := usC_st (nm := nm) (kd := kd) (n := n) (c := nI 2) (bar := -1) (by omega) (bad_st (tx := tx) (len := len) a)
      exact ⟨skC_st (by omega) h2, b⟩
    rename_i v' p1 e1
    have o1 := newM_ok e1
    rw [nwC_ok e1]
    dsimp only
    split at e
    · rename_i q' e2
      cases e
      obtain ⟨a, b⟩ := usC_er (bar := -1) (by omega) (by omega) e2
      exact ⟨skC_st (by omega) a, b⟩
    rename_i r' f' p2 e2
    have o2 := oldM_ok e2
    rw [usC_ok e2 (nI_nm1 (by have := (oldM_ok e2).2.2.2.1; omega))]
    dsimp only
    split at e
    · rename_i q' e4
      cases e
      have hq := skM_lt (tx := tx) (len := len) (by omega) e4
      rw [skC_er e4]
      exact ⟨rfl, hq⟩
    · cases e
end RDM
