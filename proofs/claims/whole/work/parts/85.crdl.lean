/-! LINES as the class reads them -/
noncomputable def ar1 (tx : Nat → Int32) (len : Nat) (s : Nat × Int32) : Nat × Nat × Int32 := nuC tx len (nI 0) (nI 39) s
noncomputable def ar2 (tx : Nat → Int32) (len : Nat) (s : Nat × Int32) : Nat × Nat × Int32 := nuC tx len (nI 0) (nI 19) (ar1 tx len s).2
noncomputable def ar3 (tx : Nat → Int32) (len : Nat) (s : Nat × Int32) : Nat × Nat × Int32 := nuC tx len (nI 1) (nI 40 - nI (ar1 tx len s).1) (ar2 tx len s).2
noncomputable def ar4 (tx : Nat → Int32) (len : Nat) (s : Nat × Int32) : Nat × Nat × Int32 := nuC tx len (nI 1) (nI 20 - nI (ar2 tx len s).1) (ar3 tx len s).2
section RDL
variable {tx : Nat → Int32} {len : Nat}
theorem bad_st {q : Nat} {s : Nat × Int32} (h : s.2 = nI q) : bad tx len q s := Or.inl h
theorem numM_le {low high p q : Nat} (hp : p ≤ len) (h : numM tx len low high p = .error q) : q ≤ len := by
  unfold numM at h
  split at h
  · rename_i e he; cases h; exact skM_lt hp he
  · rename_i f hf
    have hfl : f ≤ len := by obtain ⟨e, c⟩ := skM_inv hf; have := tkc c (by decide); omega
    have hnl := (numL_le (tx := tx) len f 0 hfl)
    split at h
    · cases h; exact hfl
    · split at h
      · rename_i h1 h2
        cases h
        split <;> omega
      · split at h
        · cases h
        · cases h; exact hfl
theorem areaC_bad {q : Nat} {s : Nat × Int32} (hq : q < 2 ^ 31) (h : bad tx len q s) : (skC tx len (nI 10) (ar4 tx len s).2).2 = nI q := by
  have h1 : (ar1 tx len s).2.2 = nI q := nuC_st hq h
  have h2 : (ar2 tx len s).2.2 = nI q := nuC_st hq (bad_st h1)
  have h3 : (ar3 tx len s).2.2 = nI q := nuC_st hq (bad_st h2)
  have h4 : (ar4 tx len s).2.2 = nI q := nuC_st hq (bad_st h3)
  exact skC_st hq h4
theorem areaC_ok {p x y w h q : Nat} (e : areaM tx len p = .ok (x, y, w, h, q)) : (ar1 tx len (p, -1)).1 = x ∧ (ar2 tx len (p, -1)).1 = y ∧ (ar3 tx len (p, -1)).1 = w ∧ (ar4 tx len (p, -1)).1 = h ∧ skC tx len (nI 10) (ar4 tx len (p, -1)).2 = (q, -1) := by
  unfold areaM at e
  split at e
  · cases e
  rename_i x' p1 e1
  split at e
  · cases e
  rename_i y' p2 e2
  split at e
  · cases e
  rename_i w' p3 e3
  split at e
  · cases e
  rename_i h' p4 e4
  split at e
  · cases e
  rename_i p5 e5
  cases e
  have o1 := numM_ok e1
  have o2 := numM_ok e2
  have n1 : ar1 tx len (p, -1) = (x, p1, -1) := nuC_ok (by omega) (by omega) e1
  have n2 : ar2 tx len (p, -1) = (y, p2, -1) := by unfold ar2; rw [n1]; exact nuC_ok (by omega) (by omega) e2
  have n3 : ar3 tx len (p, -1) = (w, p3, -1) := by unfold ar3; rw [n1, n2]; dsimp only; rw [nI_sub (by omega)]; exact nuC_ok (by omega) (by omega) e3
  have n4 : ar4 tx len (p, -1) = (h, p4, -1) := by unfold ar4; rw [n2, n3]; dsimp only; rw [nI_sub (by omega)]; exact nuC_ok (by omega) (by omega) e4
  rw [n1, n2, n3, n4]
  exact ⟨rfl, rfl, rfl, rfl, skC_ok e5⟩
theorem areaC_er {p q : Nat} (hp : p ≤ len) (hl : len < 2 ^ 30) (e : areaM tx len p = .error q) : (skC tx len (nI 10) (ar4 tx len (p, -1)).2).2 = nI q ∧ q ≤ len := by
  unfold areaM at e
  split at e
  · rename_i q' e1
    cases e
    have hq := numM_le hp e1
    have b1 : bad tx len q (ar1 tx len (p, -1)).2 := nuC_er hp (by omega) (by omega) (by omega) e1
    have h2 : (ar2 tx len (p, -1)).2.2 = nI q := nuC_st (by omega) b1
    have h3 : (ar3 tx len (p, -1)).2.2 = nI q := nuC_st (by omega) (bad_st h2)
    have h4 : (ar4 tx len (p, -1)).2.2 = nI q := nuC_st (by omega) (bad_st h3)
    exact ⟨skC_st (by omega) h4, hq⟩
  rename_i x' p1 e1
  have o1 := numM_ok e1
  have n1 : ar1 tx len (p, -1) = (x', p1, -1) := nuC_ok (by omega) (by omega) e1
  split at e
  · rename_i q' e2
    cases e
    have hq := numM_le (by omega) e2
    have b2 : bad tx len q (ar2 tx len (p, -1)).2 := by unfold ar2; rw [n1]; exact nuC_er (by omega) (by omega) (by omega) (by omega) e2
    have h3 : (ar3 tx len (p, -1)).2.2 = nI q := nuC_st (by omega) b2
    have h4 : (ar4 tx len (p, -1)).2.2 = nI q := nuC_st (by omega) (bad_st h3)
    exact ⟨skC_st (by omega) h4, hq⟩
  rename_i y' p2 e2
  have o2 := numM_ok e2
  have n2 : ar2 tx len (p, -1) = (y', p2, -1) := by unfold ar2; rw [n1]; exact nuC_ok (by omega) (by omega) e2
  split at e
  · rename_i q' e3
    cases e
    have hq := numM_le (by omega) e3
    have b3 : bad tx len q (ar3 tx len (p, -1)).2 := by unfold ar3; rw [n1, n2]; dsimp only; rw [nI_sub (by omega)]; exact nuC_er (by omega) (by omega) (by omega) (by omega) e3
    have h4 : (ar4 tx len (p, -1)).2.2 = nI q := nuC_st (by omega) b3
    exact ⟨skC_st (by omega) h4, hq⟩
  rename_i w' p3 e3
  have o3 := numM_ok e3
  have n3 : ar3 tx len (p, -1) = (w', p3, -1) := by unfold ar3; rw [n1, n2]; dsimp only; rw [nI_sub (by omega)]; exact nuC_ok (by omega) (by omega) e3
  split at e
  · rename_i q' e4
    cases e
    have hq := numM_le (by omega) e4
    have b4 : bad tx len q (ar4 tx len (p, -1)).2 := by unfold ar4; rw [n2, n3]; dsimp only; rw [nI_sub (by omega)]; exact nuC_er (by omega) (by omega) (by omega) (by omega) e4
    exact ⟨skC_bad (by omega) (Or.inr rfl) b4, hq⟩
  rename_i h' p4 e4
  have o4 := numM_ok e4
  have n4 : ar4 tx len (p, -1) = (h', p4, -1) := by unfold ar4; rw [n2, n3]; dsimp only; rw [nI_sub (by omega)]; exact nuC_ok (by omega) (by omega) e4
  split at e
  · rename_i q' e5
    cases e
    have hq := skM_lt (tx := tx) (len := len) (by omega) e5
    rw [n4]
    dsimp only
    rw [skC_er e5]
    exact ⟨rfl, hq⟩
  · cases e
/-- a rack's line: what is left of it when it ends -/
theorem rackC {nm : Nat → Int32} {n p : Nat} (hp : p ≤ len) (hl : len < 2 ^ 30) : (∀ v x y w h q, rackM tx len nm n p = .ok (v, x, y, w, h, q) → ∃ p1, nwC tx len nm n (p, -1) = (v, p1, -1) ∧ areaM tx len p1 = .ok (x, y, w, h, q)) ∧ (∀ q, rackM tx len nm n p = .error q → (skC tx len (nI 10) (ar4 tx len (nwC tx len nm n (p, -1)).2).2).2 = nI q ∧ q ≤ len) := by
  refine ⟨fun v x y w h q e => ?_, fun q e => ?_⟩
  · unfold rackM at e
    split at e
    · cases e
    rename_i v' p1 e1
    split at e
    · cases e
    rename_i e2
    cases e
    exact ⟨p1, nwC_ok e1, e2⟩
  · unfold rackM at e
    split at e
    · rename_i q' e1
      cases e
      obtain ⟨a, b⟩ := nwC_er hp (by omega) e1
      exact ⟨areaC_bad (by omega) (bad_st a), b⟩
    rename_i v' p1 e1
    have o := newM_ok e1
    split at e
    · rename_i q' e2
      cases e
      rw [nwC_ok e1]
      exact areaC_er (by omega) hl e2
    · cases e
end RDL
