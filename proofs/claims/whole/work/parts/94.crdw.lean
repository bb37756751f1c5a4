/-! ways, serves and lifts as the class reads them (pure) -/
noncomputable def wkC (tx : Nat → Int32) (len : Nat) (s : Nat × Int32) : Nat × Int32 := @ite _ (tk tx len s.1 = nI 62 ∨ tk tx len s.1 = nI 61) (Classical.propDecidable _) (s.1 + 1, s.2) (s.1, rfC s.2 s.1)
theorem wkC_y {tx : Nat → Int32} {len : Nat} {s : Nat × Int32} (h : tk tx len s.1 = nI 62 ∨ tk tx len s.1 = nI 61) : wkC tx len s = (s.1 + 1, s.2) := if_pos h
theorem wkC_n {tx : Nat → Int32} {len : Nat} {s : Nat × Int32} (h : ¬ (tk tx len s.1 = nI 62 ∨ tk tx len s.1 = nI 61)) : wkC tx len s = (s.1, rfC s.2 s.1) := if_neg h
theorem wkC_st {tx : Nat → Int32} {len : Nat} {s : Nat × Int32} {q : Nat} (hq : q < 2 ^ 31) (h : s.2 = nI q) : (wkC tx len s).2 = nI q := by
  unfold wkC
  split
  · exact h
  · show rfC s.2 s.1 = nI q
    rw [h]; exact rf_st hq
theorem oldM_f {tx : Nat → Int32} {len : Nat} {nm kd : Nat → Int32} {n : Nat} {c : Int32} {p k f q : Nat} (h : oldM tx len nm kd n c p = .ok (k, f, q)) : f ≤ len := by
  unfold oldM at h
  split at h
  · cases h
  · rename_i v f' q' e1
    split at h
    · cases h
    · split at h
      · cases h
        have := nameM_ok e1
        omega
      · cases h
theorem wayC9 {tx : Nat → Int32} {len : Nat} {nm kd : Nat → Int32} {n p : Nat} (hn31 : n < 2 ^ 30) (hp : p ≤ len) (hl : len < 2 ^ 30) {n1 n2 : Int32 × Nat × Int32} {s3 : Nat × Int32} (g1 : usC tx len nm kd n (nI 2) (-1) (p, -1) = n1) (g2 : usC tx len nm kd n (nI 2) n1.1 n1.2 = n2) (g3 : skC tx len (nI 32) n2.2 = s3) : (∀ a b t q, wayM tx len nm kd n p = .ok (a, b, t, q) → n1.1 = nI a ∧ n2.1 = nI b ∧ t = decide (tk tx len s3.1 = nI 61) ∧ skC tx len (nI 10) (wkC tx len s3) = (q, -1)) ∧ (∀ q, wayM tx len nm kd n p = .error q → (skC tx len (nI 10) (wkC tx len s3)).2 = nI q ∧ q ≤ len) := by
  refine ⟨fun a b t q e => ?_, fun q e => ?_⟩
  · unfold wayM at e
    split at e
    · cases e
    rename_i a' f1 p1 e1
    split at e
    · cases e
    rename_i b' f2 p2 e2
    split at e
    · cases e
    rename_i hba
    split at e
    · cases e
    rename_i p3 e3
    split at e
    · rename_i hc
      split at e
      · cases e
      rename_i p4 e4
      cases e
      have o1 := oldM_ok e1
      have o2 := oldM_ok e2
      have y1 : n1 = (nI a, p1, -1) := g1.symm.trans (usC_ok e1 (nI_nm1 (by have := o1.2.2.2.1; omega)))
      subst y1
      have y2 : n2 = (nI b, p2, -1) := g2.symm.trans (usC_ok e2 (fun z => hba (yE (by have := o2.2.2.2.1; omega) (by have := o1.2.2.2.1; omega) z)))
      subst y2
      have y3 : s3 = (p3, -1) := g3.symm.trans (skC_ok e3)
      subst y3
      refine ⟨rfl, rfl, rfl, ?_⟩
      rw [wkC_y hc]
      exact skC_ok e4
    · cases e
  · unfold wayM at e
    split at e
    · rename_i q' e1
      cases e
      obtain ⟨a, b⟩ := usC_er (bar := -1) hp (by omega) e1
      rw [g1] at a
      have h2 := usC_st (nm := nm) (kd := kd) (n := n) (c := nI 2) (bar := n1.1) (by omega) (bad_st (tx := tx) (len := len) a)
      rw [g2] at h2
      have h3 := skC_st (tx := tx) (len := len) (c := nI 32) (by omega) h2
      rw [g3] at h3
      exact ⟨skC_st (by omega) (wkC_st (by omega) h3), b⟩
    rename_i a' f1 p1 e1
    have o1 := oldM_ok e1
    have y1 : n1 = (nI a', p1, -1) := g1.symm.trans (usC_ok e1 (nI_nm1 (by have := o1.2.2.2.1; omega)))
    subst y1
    dsimp only at g2
    split at e
    · rename_i q' e2
      cases e
      obtain ⟨a, b⟩ := usC_er (bar := nI a') (by omega) (by omega) e2
      rw [g2] at a
      have h3 := skC_st (tx := tx) (len := len) (c := nI 32) (by omega) a
      rw [g3] at h3
      exact ⟨skC_st (by omega) (wkC_st (by omega) h3), b⟩
    rename_i b' f2 p2 e2
    have o2 := oldM_ok e2
    have o2f := oldM_f e2
    split at e
    · rename_i hba
      cases e
      have a := usC_bar (bar := nI a') e2 (by rw [hba])
      rw [g2] at a
      have h3 := skC_st (tx := tx) (len := len) (c := nI 32) (by omega) a
      rw [g3] at h3
      exact ⟨skC_st (by omega) (wkC_st (by omega) h3), by omega⟩
    rename_i hba
    have y2 : n2 = (nI b', p2, -1) := g2.symm.trans (usC_ok e2 (fun z => hba (yE (by have := o2.2.2.2.1; omega) (by have := o1.2.2.2.1; omega) z)))
    subst y2
    dsimp only at g3
    split at e
    · rename_i q' e3
      cases e
      have hq := skM_lt (tx := tx) (len := len) (by omega) e3
      rw [skC_er e3] at g3
      subst g3
      exact ⟨skC_st (by omega) (wkC_st (by omega) rfl), hq⟩
    rename_i p3 e3
    have y3 : s3 = (p3, -1) := g3.symm.trans (skC_ok e3)
    subst y3
    have hp3 : p3 ≤ len := by obtain ⟨e, c⟩ := skM_inv e3; have := tkc c (by decide); omega
    split at e
    · rename_i hc
      have hp4 : p3 + 1 ≤ len := hc.elim (fun z => tkc z (by decide)) (fun z => tkc z (by decide))
      split at e
      · rename_i q' e4
        cases e
        have hq := skM_lt (tx := tx) (len := len) (by omega) e4
        rw [wkC_y hc]
        dsimp only
        rw [skC_er e4]
        exact ⟨rfl, hq⟩
      · cases e
    · rename_i hc
      cases e
      rw [wkC_n hc]
      exact ⟨skC_st (by omega) rf_m1, hp3⟩
theorem srvC9 {tx : Nat → Int32} {len : Nat} {nm kd : Nat → Int32} {n p : Nat} (hn31 : n < 2 ^ 30) (hp : p ≤ len) (hl : len < 2 ^ 30) {n1 n2 : Int32 × Nat × Int32} (g1 : usC tx len nm kd n (nI 1) (-1) (p, -1) = n1) (g2 : usC tx len nm kd n (nI 2) (-1) n1.2 = n2) : (∀ a b q, srvM tx len nm kd n p = .ok (a, b, q) → n1.1 = nI a ∧ n2.1 = nI b ∧ skC tx len (nI 10) n2.2 = (q, -1)) ∧ (∀ q, srvM tx len nm kd n p = .error q → (skC tx len (nI 10) n2.2).2 = nI q ∧ q ≤ len) := by
  refine ⟨fun a b q e => ?_, fun q e => ?_⟩
  · unfold srvM at e
    split at e
    · cases e
    rename_i a' f1 p1 e1
    split at e
    · cases e
    rename_i b' f2 p2 e2
    split at e
    · cases e
    rename_i p3 e3
    cases e
    have o1 := oldM_ok e1
    have o2 := oldM_ok e2
    have y1 : n1 = (nI a, p1, -1) := g1.symm.trans (usC_ok e1 (nI_nm1 (by have := o1.2.2.2.1; omega)))
    subst y1
    have y2 : n2 = (nI b, p2, -1) := g2.symm.trans (usC_ok e2 (nI_nm1 (by have := o2.2.2.2.1; omega)))
    subst y2
    exact ⟨rfl, rfl, skC_ok e3⟩
  · unfold srvM at e
    split at e
    · rename_i q' e1
      cases e
      obtain ⟨a, b⟩ := usC_er (bar := -1) hp (by omega) e1
      rw [g1] at a
      have h2 := usC_st (nm := nm) (kd := kd) (n := n) (c := nI 2) (bar := -1) (by omega) (bad_st (tx := tx) (len := len) a)
      rw [g2] at h2
      exact ⟨skC_st (by omega) h2, b⟩
    rename_i a' f1 p1 e1
    have o1 := oldM_ok e1
    have y1 : n1 = (nI a', p1, -1) := g1.symm.trans (usC_ok e1 (nI_nm1 (by have := o1.2.2.2.1; omega)))
    subst y1
    dsimp only at g2
    split at e
    · rename_i q' e2
      cases e
      obtain ⟨a, b⟩ := usC_er (bar := -1) (by omega) (by omega) e2
      rw [g2] at a
      exact ⟨skC_st (by omega) a, b⟩
    rename_i b' f2 p2 e2
    have o2 := oldM_ok e2
    have y2 : n2 = (nI b', p2, -1) := g2.symm.trans (usC_ok e2 (nI_nm1 (by have := o2.2.2.2.1; omega)))
    subst y2
    split at e
    · rename_i q' e3
      cases e
      have hq := skM_lt (tx := tx) (len := len) (by omega) e3
      dsimp only
      rw [skC_er e3]
      exact ⟨rfl, hq⟩
    · cases e
/-- the stops behind the first -/
noncomputable def lsC (tx : Nat → Int32) (len : Nat) (nm kd : Nat → Int32) (n : Nat) : Nat → List Int32 → Nat × Int32 → List Int32 × Nat × Int32
  | 0, l, s => (l, s)
  | k + 1, l, s => @ite _ (s.2 = -1 ∧ tk tx len s.1 = nI 32) (Classical.propDecidable _) (lsC tx len nm kd n k (l ++ [(usC tx len nm kd n (nI 2) (-1) s).1]) (usC tx len nm kd n (nI 2) (-1) s).2) (l, s)
theorem lsC_y {tx : Nat → Int32} {len : Nat} {nm kd : Nat → Int32} {n k : Nat} {l : List Int32} {s : Nat × Int32} (h : s.2 = -1 ∧ tk tx len s.1 = nI 32) : lsC tx len nm kd n (k + 1) l s = lsC tx len nm kd n k (l ++ [(usC tx len nm kd n (nI 2) (-1) s).1]) (usC tx len nm kd n (nI 2) (-1) s).2 := if_pos h
theorem lsC_n {tx : Nat → Int32} {len : Nat} {nm kd : Nat → Int32} {n k : Nat} {l : List Int32} {s : Nat × Int32} (h : ¬ (s.2 = -1 ∧ tk tx len s.1 = nI 32)) : lsC tx len nm kd n (k + 1) l s = (l, s) := if_neg h
theorem lsC_bad {tx : Nat → Int32} {len : Nat} {nm kd : Nat → Int32} {n : Nat} {l : List Int32} {s : Nat × Int32} (h : s.2 ≠ -1) : ∀ k, lsC tx len nm kd n k l s = (l, s)
  | 0 => rfl
  | k + 1 => lsC_n (fun z => h z.1)
theorem oldM_32 {tx : Nat → Int32} {len : Nat} {nm kd : Nat → Int32} {n : Nat} {c : Int32} {p : Nat} (h : ¬ tk tx len p = nI 32) : oldM tx len nm kd n c p = .error p := by
  have e : skM tx len (nI 32) p = .error p := by unfold skM; rw [if_neg h]
  unfold oldM nameM
  rw [e]
theorem stpC {tx : Nat → Int32} {len : Nat} {nm kd : Nat → Int32} {n : Nat} (hn31 : n < 2 ^ 30) (hl : len < 2 ^ 30) : ∀ (k : Nat) (acc : List Nat) (p : Nat), acc.length + k = 4 → acc ≠ [] → p ≤ len → (∀ l q, stpM tx len nm kd n (k + 2) acc p = .ok (l, q) → ∃ p', lsC tx len nm kd n k (acc.map nI) (p, -1) = (l.map nI, p', -1) ∧ skC tx len (nI 10) (p', -1) = (q, -1)) ∧ (∀ q, stpM tx len nm kd n (k + 2) acc p = .error q → (skC tx len (nI 10) (lsC tx len nm kd n k (acc.map nI) (p, -1)).2).2 = nI q ∧ q ≤ len)
  | 0, acc, p, h4, hne, hp => by
    have e : stpM tx len nm kd n (0 + 2) acc p = @ite _ (tk tx len p = nI 10) (Classical.propDecidable _) (.ok (acc, p + 1)) (.error p) := by
      unfold stpM
      by_cases q : tk tx len p = nI 10
      · rw [if_pos ⟨hne, q⟩, if_pos q]
      · rw [if_neg (fun z => q z.2), if_pos (by omega), if_neg q]
    rw [e]
    by_cases q : tk tx len p = nI 10
    · rw [if_pos q]
      refine ⟨fun l q' e => ?_, fun q' e => (by cases e)⟩
      cases e
      exact ⟨p, rfl, if_pos q⟩
    · rw [if_neg q]
      refine ⟨fun l q' e => (by cases e), fun q' e => ?_⟩
      cases e
      refine ⟨?_, hp⟩
      show (skC tx len (nI 10) (p, -1)).2 = nI p
      unfold skC
      rw [if_neg q]
      exact rf_m1
  | k + 1, acc, p, h4, hne, hp => by
    have e : stpM tx len nm kd n (k + 1 + 2) acc p = @ite _ (tk tx len p = nI 10) (Classical.propDecidable _) (.ok (acc, p + 1)) (match oldM tx len nm kd n (nI 2) p with
      | .error q => .error q
      | .ok (a, _, p1) => stpM tx len nm kd n (k + 2) (acc ++ [a]) p1) := by
      show stpM tx len nm kd n ((k + 2) + 1) acc p = _
      unfold stpM
      by_cases q : tk tx len p = nI 10
      · rw [if_pos ⟨hne, q⟩, if_pos q]
      · rw [if_neg (fun z => q z.2), if_neg (by omega), if_neg q]
        rfl
    rw [e]
    by_cases q : tk tx len p = nI 10
    · rw [if_pos q]
      refine ⟨fun l q' e => ?_, fun q' e => (by cases e)⟩
      cases e
      rw [lsC_n (fun z => by have := z.2.symm.trans q; exact absurd this (by decide))]
      exact ⟨p, rfl, if_pos q⟩
    · rw [if_neg q]
      by_cases q2 : tk tx len p = nI 32
      · rw [lsC_y (s := (p, -1)) ⟨rfl, q2⟩]
        cases eo : oldM tx len nm kd n (nI 2) p with
        | error q' =>
          refine ⟨fun l q e => (by cases e), fun q e => ?_⟩
          cases e
          obtain ⟨a, b⟩ := usC_er (bar := -1) hp (by omega) eo
          rw [lsC_bad (by rw [a]; exact nI_nm1 (by omega))]
          exact ⟨skC_st (by omega) a, b⟩
        | ok z =>
          obtain ⟨a, f, p1⟩ := z
          have o1 := oldM_ok eo
          rw [usC_ok eo (nI_nm1 (by have := o1.2.2.2.1; omega))]
          have ih := stpC (tx := tx) (nm := nm) (kd := kd) hn31 hl k (acc ++ [a]) p1 (by rw [List.length_append]; show acc.length + 1 + k = 4; omega) (by simp) (by omega)
          rw [List.map_append] at ih
          exact ih
      · rw [oldM_32 q2, lsC_n (fun z => q2 z.2)]
        refine ⟨fun l q e => (by cases e), fun q' e => ?_⟩
        cases e
        refine ⟨?_, hp⟩
        show (skC tx len (nI 10) (p, -1)).2 = nI p
        unfold skC
        rw [if_neg q]
        exact rf_m1
theorem lftC9 {tx : Nat → Int32} {len : Nat} {nm kd : Nat → Int32} {n p : Nat} (hn31 : n < 2 ^ 30) (hp : p ≤ len) (hl : len < 2 ^ 30) {n1 n2 : Int32 × Nat × Int32} {z3 : List Int32 × Nat × Int32} (g1 : nwC tx len nm n (p, -1) = n1) (g2 : usC tx len nm kd n (nI 2) (-1) n1.2 = n2) (g3 : lsC tx len nm kd n 3 [n2.1] n2.2 = z3) : (∀ v l q, lftM tx len nm kd n p = .ok (v, l, q) → n1.1 = v ∧ z3.1 = l.map nI ∧ skC tx len (nI 10) z3.2 = (q, -1)) ∧ (∀ q, lftM tx len nm kd n p = .error q → (skC tx len (nI 10) z3.2).2 = nI q ∧ q ≤ len) := by
  have e6 : ∀ p1, stpM tx len nm kd n 6 [] p1 = (match oldM tx len nm kd n (nI 2) p1 with
      | .error q => .error q
      | .ok (a, _, p2) => stpM tx len nm kd n (3 + 2) [a] p2) := by
    intro p1
    show stpM tx len nm kd n (5 + 1) [] p1 = _
    unfold stpM
    rw [if_neg (fun z => z.1 rfl), if_neg (by decide)]
    rfl
  refine ⟨fun v l q e => ?_, fun q e => ?_⟩
  · unfold lftM at e
    split at e
    · cases e
    rename_i v' p1 e1
    split at e
    · cases e
    rename_i l' p2 e2
    cases e
    rw [e6] at e2
    split at e2
    · cases e2
    rename_i a f p3 eo
    have o0 := newM_ok e1
    have o1 := oldM_ok eo
    have y1 : n1 = (v, p1, -1) := g1.symm.trans (nwC_ok e1)
    subst y1
    have y2 : n2 = (nI a, p3, -1) := g2.symm.trans (usC_ok eo (nI_nm1 (by have := o1.2.2.2.1; omega)))
    subst y2
    obtain ⟨p', w1, w2⟩ := (stpC hn31 hl 3 [a] p3 rfl (by simp) (by omega)).1 l q e2
    have y3 : z3 = (l.map nI, p', -1) := g3.symm.trans w1
    subst y3
    exact ⟨rfl, rfl, w2⟩
  · unfold lftM at e
    split at e
    · rename_i q' e1
      cases e
      obtain ⟨a, b⟩ := nwC_er hp (by omega) e1
      rw [g1] at a
      have h2 := usC_st (nm := nm) (kd := kd) (n := n) (c := nI 2) (bar := -1) (by omega) (bad_st (tx := tx) (len := len) a)
      rw [g2] at h2
      rw [lsC_bad (by rw [h2]; exact nI_nm1 (by omega))] at g3
      subst g3
      exact ⟨skC_st (by omega) h2, b⟩
    rename_i v' p1 e1
    have o1 := newM_ok e1
    have y1 : n1 = (v', p1, -1) := g1.symm.trans (nwC_ok e1)
    subst y1
    dsimp only at g2
    split at e
    · rename_i q' e2
      cases e
      rw [e6] at e2
      split at e2
      · rename_i q2 eo
        cases e2
        obtain ⟨a, b⟩ := usC_er (bar := -1) (by omega) (by omega) eo
        rw [g2] at a
        rw [lsC_bad (by rw [a]; exact nI_nm1 (by omega))] at g3
        subst g3
        exact ⟨skC_st (by omega) a, b⟩
      · rename_i a f p3 eo
        have o2 := oldM_ok eo
        have y2 : n2 = (nI a, p3, -1) := g2.symm.trans (usC_ok eo (nI_nm1 (by have := o2.2.2.2.1; omega)))
        subst y2
        have w := (stpC hn31 hl 3 [a] p3 rfl (by simp) (by omega)).2 q e2
        subst g3
        exact w
    · cases e
