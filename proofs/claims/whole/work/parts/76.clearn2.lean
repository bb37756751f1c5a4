theorem b0f {y : Nat} : (0 : Nat).testBit y = true ↔ False := by
  rw [Nat.zero_testBit]
  exact ⟨fun z => (by cases z), False.elim⟩
theorem uN_or {f : Nat → Nat} {a m x y : Nat} : (uN f a (f a ||| m) x).testBit y = true ↔ (f x).testBit y = true ∨ (x = a ∧ m.testBit y = true) := by
  unfold uN
  by_cases q : x = a
  · rw [if_pos q, Nat.testBit_or, Bool.or_eq_true, q]
    exact ⟨fun z => z.imp id (fun z => ⟨rfl, z⟩), fun z => z.imp id (fun z => z.2)⟩
  · rw [if_neg q]
    exact ⟨Or.inl, fun z => z.elim id (fun z => absurd z.1 q)⟩
theorem c_llifts {h h1 : sm_H} {Q : Nat → Option Value → sm_H → Prop} {go on bk sl n dk : Nat} {onf bkf slf : Nat → Nat} (d1 : on ≠ bk) (d2 : on ≠ sl) (d3 : bk ≠ sl) (w : LGW h h1 go on bk sl n dk onf bkf slf) {lo hi ed lp lw lv ls ep ew ev es : Nat} {pa wa va sa : Nat → Nat} {E : Ed} {un : Nat → Int32} (X : EdF h ed lp lw lv ls ep ew ev es pa wa va sa E un) (O : EdO h (inI lo hi) ed lp lw lv ls ep ew ev es pa wa va sa E) (hWd : EdW E) (hn : E.1.length ≤ 60) (hgo : ∀ a, inI lo hi a → a ≠ go ∧ a ≠ on ∧ a ≠ bk ∧ a ≠ sl) (hzg : hZ h ≠ go ∧ hZ h ≠ on ∧ hZ h ≠ bk ∧ hZ h ≠ sl) (s1 : ∀ x y, (onf x).testBit y = true ↔ wsX E.2.1 E.2.1.length x y) (s2 : ∀ x y, (bkf x).testBit y = true ↔ wsX E.2.1 E.2.1.length y x) (s3 : ∀ x y, (slf x).testBit y = true ↔ False) (K : ∀ h2 onf' bkf' slf', LGW h h2 go on bk sl n dk onf' bkf' slf' → (∀ x y, (onf' x).testBit y = true ↔ onB E x y) → (∀ x y, (bkf' x).testBit y = true ↔ onB E y x) → Q 0 none h2) : sm_wp 32 0 [.ref go, .ref ed, jk, jk] [] h1 Q := by
  have nst : (sts E.1).length ≤ 4 * E.1.length := stsN_len hWd _ (Nat.le_refl _)
  have hst : ∀ i, i < (sts E.1).length → vA (sts E.1) i < E.1.length ∧ atP E.1 1 (vA (sts E.1) i) = nI 6 ∧ vB (sts E.1) i ∈ stP E.1 (vA (sts E.1) i) ∧ vB (sts E.1) i < E.1.length := fun i hi => by
    have hm := sts_mem.mp (v_mem hi)
    have hk := stP_lt hm
    obtain ⟨j, q1, q2⟩ := s_ex hm
    obtain ⟨h6, hb⟩ := hWd.st6 hk q1
    exact ⟨hk, h6, hm, by rw [q2] at hb; exact hb⟩
  have fin : ∀ x y, (wsX E.2.1 E.2.1.length x y ∨ ∃ j, j < (sts E.1).length ∧ vB (sts E.1) j = x ∧ y ∈ stP E.1 (vA (sts E.1) j)) ↔ onB E x y := fun x y => by
    constructor
    · rintro (⟨j, h1, ⟨a, b⟩ | ⟨t, a, b⟩⟩ | ⟨j, h1, h2, h3⟩)
      · exact Or.inl ⟨wT E.2.1 j, by rw [← a, ← b]; exact w_mem h1⟩
      · refine Or.inr (Or.inl ?_)
        have := w_mem h1
        rw [a, b, t] at this
        exact this
      · obtain ⟨r1, r2, r3, r4⟩ := hst j h1
        exact Or.inr (Or.inr ⟨_, r2, by rw [← h2]; exact r3, h3⟩)
    · rintro (⟨t, q⟩ | q | ⟨k, q1, q2, q3⟩)
      · obtain ⟨i, a, b, c, d⟩ := w_ex q
        exact Or.inl ⟨i, a, Or.inl ⟨b, c⟩⟩
      · obtain ⟨i, a, b, c, d⟩ := w_ex q
        exact Or.inl ⟨i, a, Or.inr ⟨d, c, b⟩⟩
      · obtain ⟨i, a, b, c⟩ := v_ex (sts_mem.mpr q2)
        exact Or.inr ⟨i, a, c, by rw [b]; exact q3⟩
  have sym : ∀ x y, (∃ j, j < (sts E.1).length ∧ vB (sts E.1) j = x ∧ y ∈ stP E.1 (vA (sts E.1) j)) → ∃ j, j < (sts E.1).length ∧ vB (sts E.1) j = y ∧ x ∈ stP E.1 (vA (sts E.1) j) := fun x y ⟨j, h1, h2, h3⟩ => by
    obtain ⟨r1, r2, r3, r4⟩ := hst j h1
    obtain ⟨i, a, b, c⟩ := v_ex (sts_mem.mpr h3)
    exact ⟨i, a, c, by rw [b, ← h2]; exact r3⟩
  refine wp_kn k_32 rfl rfl ?_
  refine wp_pure k_32 rfl rfl ?_
  refine dn (n := (sts E.1).length) (P := fun i => ∀ (x3 : Value) (h2 : sm_H) (slf : Nat → Nat), LGW h h2 go on bk sl n dk onf bkf slf → (∀ k s, (slf k).testBit s = true ↔ ∃ j, j < i ∧ vA (sts E.1) j = k ∧ vB (sts E.1) j = s) → sm_wp 32 2 [.ref go, .ref ed, .int (nI i), x3] [] h2 Q) ?_ ?_ 0 (Nat.zero_le _) jk h1 slf w (fun x y => (s3 x y).trans ⟨False.elim, fun ⟨j, hj, _⟩ => absurd hj (Nat.not_lt_zero j)⟩)
  · intro x3 h2 slf w2 q3
    have sz : samA h h2 (hZ h) := w2.1.2.2.2 _ hzg.1 hzg.2.1 hzg.2.2.1 hzg.2.2.2
    have X2 := (EdFO.same X O (fun b hb => w2.1.2.2.2 b (hgo b hb).1 (hgo b hb).2.1 (hgo b hb).2.2.1 (hgo b hb).2.2.2) sz w2.1.2.2.1 (by rw [w2.1.1]; exact Nat.le_refl _)).1
    obtain ⟨⟨e0, e1, e2, e3, e4⟩, ⟨l1, l2, l3, l4⟩, hP, hW, hV, hS⟩ := id X2
    have q3' : ∀ k s, (slf k).testBit s = true ↔ s ∈ stP E.1 k := fun k s => (q3 k s).trans ⟨fun ⟨j, a, b, c⟩ => by rw [← b, ← c]; exact (hst j a).2.2.1, fun q => by
      obtain ⟨i, a, b, c⟩ := v_ex (sts_mem.mpr q)
      exact ⟨i, a, b, c⟩⟩
    refine wp_pure k_32 rfl rfl ?_
    refine wp_pure k_32 rfl rfl ?_
    refine wp_get k_32 rfl e0 e4 ?_
    refine wp_iv k_32 rfl [] rfl l4.1 (r := [.int (nI ((sts E.1).length))]) (Nat.le_of_ble_eq_true rfl) (Nat.le_of_ble_eq_true rfl) rfl ?_
    refine c_size l4 ⟨rfl, ?_⟩
    refine wp_br k_32 rfl rfl rfl rfl (fun _ => ?_) (fun z => absurd (Int32.le_refl _) z)
    refine wp_kn k_32 rfl rfl ?_
    refine wp_pure k_32 rfl rfl ?_
    refine dn (n := (sts E.1).length) (P := fun i => ∀ (x3 : Value) (h3 : sm_H) (onf bkf : Nat → Nat), LGW h h3 go on bk sl n dk onf bkf slf → (∀ x y, (onf x).testBit y = true ↔ wsX E.2.1 E.2.1.length x y ∨ ∃ j, j < i ∧ vB (sts E.1) j = x ∧ y ∈ stP E.1 (vA (sts E.1) j)) → (∀ x y, (bkf x).testBit y = true ↔ wsX E.2.1 E.2.1.length y x ∨ ∃ j, j < i ∧ vB (sts E.1) j = x ∧ y ∈ stP E.1 (vA (sts E.1) j)) → sm_wp 32 51 [.ref go, .ref ed, .int (nI i), x3] [] h3 Q) ?_ ?_ 0 (Nat.zero_le _) x3 h2 onf bkf w2 (fun x y => (s1 x y).trans ⟨Or.inl, fun z => z.elim id (fun ⟨j, hj, _⟩ => absurd hj (Nat.not_lt_zero j))⟩) (fun x y => (s2 x y).trans ⟨Or.inl, fun z => z.elim id (fun ⟨j, hj, _⟩ => absurd hj (Nat.not_lt_zero j))⟩)
    · intro x3 h3 onf bkf w3 q1 q2
      have sz : samA h h3 (hZ h) := w3.1.2.2.2 _ hzg.1 hzg.2.1 hzg.2.2.1 hzg.2.2.2
      have X2 := (EdFO.same X O (fun b hb => w3.1.2.2.2 b (hgo b hb).1 (hgo b hb).2.1 (hgo b hb).2.2.1 (hgo b hb).2.2.2) sz w3.1.2.2.1 (by rw [w3.1.1]; exact Nat.le_refl _)).1
      obtain ⟨⟨e0, e1, e2, e3, e4⟩, ⟨l1, l2, l3, l4⟩, hP, hW, hV, hS⟩ := id X2
      refine wp_pure k_32 rfl rfl ?_
      refine wp_pure k_32 rfl rfl ?_
      refine wp_get k_32 rfl e0 e4 ?_
      refine wp_iv k_32 rfl [] rfl l4.1 (r := [.int (nI ((sts E.1).length))]) (Nat.le_of_ble_eq_true rfl) (Nat.le_of_ble_eq_true rfl) rfl ?_
      refine c_size l4 ⟨rfl, ?_⟩
      refine wp_br k_32 rfl rfl rfl rfl (fun _ => ?_) (fun z => absurd (Int32.le_refl _) z)
      refine wp_vrt k_32 rfl rfl (K h3 onf bkf slf w3 (fun x y => (q1 x y).trans (fin x y)) (fun x y => (q2 x y).trans ?_))
      rw [← fin y x]
      exact ⟨fun z => z.imp id (sym x y), fun z => z.imp id (sym y x)⟩
    · intro i hi9 ih x3 h3 onf bkf w3 q1 q2
      have sz : samA h h3 (hZ h) := w3.1.2.2.2 _ hzg.1 hzg.2.1 hzg.2.2.1 hzg.2.2.2
      have X2 := (EdFO.same X O (fun b hb => w3.1.2.2.2 b (hgo b hb).1 (hgo b hb).2.1 (hgo b hb).2.2.1 (hgo b hb).2.2.2) sz w3.1.2.2.1 (by rw [w3.1.1]; exact Nat.le_refl _)).1
      obtain ⟨⟨e0, e1, e2, e3, e4⟩, ⟨l1, l2, l3, l4⟩, hP, hW, hV, hS⟩ := id X2
      obtain ⟨r1, r2, r3, r4⟩ := hst i hi9
      have la := w3.2.2.2.2.2.1 (vB (sts E.1) i)
      have lb := w3.2.2.2.2.2.2.1 (vB (sts E.1) i)
      have lc := w3.2.2.2.2.2.2.2.1 (vA (sts E.1) i)
      refine wp_pure k_32 rfl rfl ?_
      refine wp_pure k_32 rfl rfl ?_
      refine wp_get k_32 rfl e0 e4 ?_
      refine wp_iv k_32 rfl [] rfl l4.1 (r := [.int (nI i)]) (Nat.le_of_ble_eq_true rfl) (Nat.le_of_ble_eq_true rfl) rfl ?_
      refine c_size l4 ⟨rfl, ?_⟩
      refine wp_br k_32 rfl rfl rfl rfl (fun z => absurd z (nI_ge hi9 (by omega))) (fun _ => ?_)
      refine wp_pure k_32 rfl rfl ?_
      refine wp_get k_32 rfl e0 e4 ?_
      refine wp_pure k_32 rfl rfl ?_
      refine wp_iv k_32 rfl [.int (nI i)] rfl l4.1 (r := []) (Nat.le_of_ble_eq_true rfl) (Nat.le_of_ble_eq_true rfl) rfl ?_
      refine c_get l4 (by omega) ⟨rfl, ?_⟩
      refine wp_cc k_32 rfl (hS i (by omega)).1 ?_
      refine wp_pure k_32 rfl rfl ?_
      refine wp_pure k_32 rfl rfl ?_
      refine wp_get k_32 rfl w3.2.1.1 w3.2.1.2.1 ?_
      refine wp_pure k_32 rfl rfl ?_
      refine wp_get k_32 rfl (hS i (by omega)).1 (hS i (by omega)).2.2.1 ?_
      refine wp_pure k_32 rfl rfl ?_
      refine wp_lald k_32 rfl (cTy w3.2.2.1.1 rfl) (nLt w3.2.2.1.2.1 (show vB (sts E.1) i < 60 by omega)) (nLb w3.2.2.1.2.1 (by omega)) (w3.2.2.1.2.2 (vB (sts E.1) i) (by omega)) ?_
      refine wp_pure k_32 rfl rfl ?_
      refine wp_get k_32 rfl w3.2.1.1 w3.2.1.2.2.2.1 ?_
      refine wp_pure k_32 rfl rfl ?_
      refine wp_get k_32 rfl (hS i (by omega)).1 (hS i (by omega)).2.1 ?_
      refine wp_lald k_32 rfl (cTy w3.2.2.2.2.1.1 rfl) (nLt w3.2.2.2.2.1.2.1 (show vA (sts E.1) i < 60 by omega)) (nLb w3.2.2.2.2.1.2.1 (by omega)) (w3.2.2.2.2.1.2.2 (vA (sts E.1) i) (by omega)) ?_
      refine wp_lorN k_32 rfl (by omega) (by omega) ?_
      refine wp_last k_32 rfl w3.2.2.1.1 (nLt w3.2.2.1.2.1 (show vB (sts E.1) i < 60 by omega)) (nLb w3.2.2.1.2.1 (by omega)) ?_
      refine wp_pure k_32 rfl rfl ?_
      refine wp_get k_32 rfl w3.2.1.1 w3.2.1.2.2.1 ?_
      refine wp_pure k_32 rfl rfl ?_
      refine wp_get k_32 rfl (hS i (by omega)).1 (hS i (by omega)).2.2.1 ?_
      refine wp_pure k_32 rfl rfl ?_
      refine wp_lald (h := putA h3 on (vB (sts E.1) i) (.long (lN ((onf (vB (sts E.1) i)) ||| (slf (vA (sts E.1) i)))))) k_32 rfl (cTy w3.2.2.2.1.1 rfl) (nLt w3.2.2.2.1.2.1 (show vB (sts E.1) i < 60 by omega)) (nLb w3.2.2.2.1.2.1 (by omega)) ((hA_putA_a (Ne.symm d1)).trans (w3.2.2.2.1.2.2 (vB (sts E.1) i) (by omega))) ?_
      refine wp_pure k_32 rfl rfl ?_
      refine wp_get k_32 rfl w3.2.1.1 w3.2.1.2.2.2.1 ?_
      refine wp_pure k_32 rfl rfl ?_
      refine wp_get k_32 rfl (hS i (by omega)).1 (hS i (by omega)).2.1 ?_
      refine wp_lald (h := putA h3 on (vB (sts E.1) i) (.long (lN ((onf (vB (sts E.1) i)) ||| (slf (vA (sts E.1) i)))))) k_32 rfl (cTy w3.2.2.2.2.1.1 rfl) (nLt w3.2.2.2.2.1.2.1 (show vA (sts E.1) i < 60 by omega)) (nLb w3.2.2.2.2.1.2.1 (by omega)) ((hA_putA_a (Ne.symm d2)).trans (w3.2.2.2.2.1.2.2 (vA (sts E.1) i) (by omega))) ?_
      refine wp_lorN k_32 rfl (by omega) (by omega) ?_
      refine wp_last (h := putA h3 on (vB (sts E.1) i) (.long (lN ((onf (vB (sts E.1) i)) ||| (slf (vA (sts E.1) i)))))) k_32 rfl w3.2.2.2.1.1 (nLt w3.2.2.2.1.2.1 (show vB (sts E.1) i < 60 by omega)) (nLb w3.2.2.2.1.2.1 (by omega)) ?_
      refine wp_inc k_32 rfl rfl rfl ?_
      refine wp_br k_32 rfl rfl rfl rfl (fun _ => ?_) (fun z => absurd trivial z)
      refine ih _ _ (uN onf (vB (sts E.1) i) (onf (vB (sts E.1) i) ||| slf (vA (sts E.1) i))) (uN bkf (vB (sts E.1) i) (bkf (vB (sts E.1) i) ||| slf (vA (sts E.1) i))) ((w3.pon d1 d2 (Nat.or_lt_two_pow la lc)).pbk d1 d3 (Nat.or_lt_two_pow lb lc)) (fun x y => ?_) (fun x y => ?_)
      · rw [uN_or, q1, q3']
        constructor
        · rintro ((z | ⟨j, z1, z2, z3⟩) | ⟨z1, z2⟩)
          · exact Or.inl z
          · exact Or.inr ⟨j, by omega, z2, z3⟩
          · exact Or.inr ⟨i, by omega, z1.symm, z2⟩
        · rintro (z | ⟨j, z1, z2, z3⟩)
          · exact Or.inl (Or.inl z)
          · by_cases e : j = i
            · subst e; exact Or.inr ⟨z2.symm, z3⟩
            · exact Or.inl (Or.inr ⟨j, by omega, z2, z3⟩)
      · rw [uN_or, q2, q3']
        constructor
        · rintro ((z | ⟨j, z1, z2, z3⟩) | ⟨z1, z2⟩)
          · exact Or.inl z
          · exact Or.inr ⟨j, by omega, z2, z3⟩
          · exact Or.inr ⟨i, by omega, z1.symm, z2⟩
        · rintro (z | ⟨j, z1, z2, z3⟩)
          · exact Or.inl (Or.inl z)
          · by_cases e : j = i
            · subst e; exact Or.inr ⟨z2.symm, z3⟩
            · exact Or.inl (Or.inr ⟨j, by omega, z2, z3⟩)
  · intro i hi9 ih x3 h2 slf w2 q3
    have sz : samA h h2 (hZ h) := w2.1.2.2.2 _ hzg.1 hzg.2.1 hzg.2.2.1 hzg.2.2.2
    have X2 := (EdFO.same X O (fun b hb => w2.1.2.2.2 b (hgo b hb).1 (hgo b hb).2.1 (hgo b hb).2.2.1 (hgo b hb).2.2.2) sz w2.1.2.2.1 (by rw [w2.1.1]; exact Nat.le_refl _)).1
    obtain ⟨⟨e0, e1, e2, e3, e4⟩, ⟨l1, l2, l3, l4⟩, hP, hW, hV, hS⟩ := id X2
    obtain ⟨r1, r2, r3, r4⟩ := hst i hi9
    have pb : 2 ^ (vB (sts E.1) i) < 2 ^ 60 := pow_lt (by omega)
    have lc := w2.2.2.2.2.2.2.2.1 (vA (sts E.1) i)
    refine wp_pure k_32 rfl rfl ?_
    refine wp_pure k_32 rfl rfl ?_
    refine wp_get k_32 rfl e0 e4 ?_
    refine wp_iv k_32 rfl [] rfl l4.1 (r := [.int (nI i)]) (Nat.le_of_ble_eq_true rfl) (Nat.le_of_ble_eq_true rfl) rfl ?_
    refine c_size l4 ⟨rfl, ?_⟩
    refine wp_br k_32 rfl rfl rfl rfl (fun z => absurd z (nI_ge hi9 (by omega))) (fun _ => ?_)
    refine wp_pure k_32 rfl rfl ?_
    refine wp_get k_32 rfl e0 e4 ?_
    refine wp_pure k_32 rfl rfl ?_
    refine wp_iv k_32 rfl [.int (nI i)] rfl l4.1 (r := []) (Nat.le_of_ble_eq_true rfl) (Nat.le_of_ble_eq_true rfl) rfl ?_
    refine c_get l4 (by omega) ⟨rfl, ?_⟩
    refine wp_cc k_32 rfl (hS i (by omega)).1 ?_
    refine wp_pure k_32 rfl rfl ?_
    refine wp_pure k_32 rfl rfl ?_
    refine wp_get k_32 rfl w2.2.1.1 w2.2.1.2.2.2.1 ?_
    refine wp_pure k_32 rfl rfl ?_
    refine wp_get k_32 rfl (hS i (by omega)).1 (hS i (by omega)).2.1 ?_
    refine wp_pure k_32 rfl rfl ?_
    refine wp_lald k_32 rfl (cTy w2.2.2.2.2.1.1 rfl) (nLt w2.2.2.2.2.1.2.1 (show vA (sts E.1) i < 60 by omega)) (nLb w2.2.2.2.2.1.2.1 (by omega)) (w2.2.2.2.2.1.2.2 (vA (sts E.1) i) (by omega)) ?_
    refine wp_pure k_32 rfl rfl ?_
    refine wp_pure k_32 rfl rfl ?_
    refine wp_get k_32 rfl (hS i (by omega)).1 (hS i (by omega)).2.2.1 ?_
    refine wp_lshl1 k_32 rfl (by omega) ?_
    refine wp_lorN k_32 rfl (by omega) (by omega) ?_
    refine wp_last k_32 rfl w2.2.2.2.2.1.1 (nLt w2.2.2.2.2.1.2.1 (show vA (sts E.1) i < 60 by omega)) (nLb w2.2.2.2.2.1.2.1 (by omega)) ?_
    refine wp_inc k_32 rfl rfl rfl ?_
    refine wp_br k_32 rfl rfl rfl rfl (fun _ => ?_) (fun z => absurd trivial z)
    refine ih _ _ (uN slf (vA (sts E.1) i) (slf (vA (sts E.1) i) ||| 2 ^ (vB (sts E.1) i))) (w2.psl d2 d3 (Nat.or_lt_two_pow lc pb)) (fun k s => ?_)
    rw [uN_bit, q3]
    constructor
    · rintro (⟨j, z1, z2, z3⟩ | ⟨z1, z2⟩)
      · exact ⟨j, by omega, z2, z3⟩
      · exact ⟨i, by omega, z1.symm, z2.symm⟩
    · rintro ⟨j, z1, z2, z3⟩
      by_cases e : j = i
      · subst e; exact Or.inr ⟨z2.symm, z3.symm⟩
      · exact Or.inl ⟨j, by omega, z2, z3⟩
theorem c_learn {h : sm_H} {Q : Nat → Option Value → sm_H → Prop} {go on bk sl n0 : Nat} (d1 : on ≠ bk) (d2 : on ≠ sl) (d3 : bk ≠ sl) (g0 : hC h go = 19) (g1 : hF h 384 go = .ref on) (g2 : hF h 385 go = .ref bk) (g3 : hF h 386 go = .ref sl) (g4 : hF h 387 go = .int (nI n0)) (o1 : hC h on = 2) (o2 : hL h on = 60) (p1 : hC h bk = 2) (p2 : hL h bk = 60) (r1 : hC h sl = 2) (r2 : hL h sl = 60) {lo hi ed lp lw lv ls ep ew ev es : Nat} {pa wa va sa : Nat → Nat} {E : Ed} {un : Nat → Int32} (X : EdF h ed lp lw lv ls ep ew ev es pa wa va sa E un) (O : EdO h (inI lo hi) ed lp lw lv ls ep ew ev es pa wa va sa E) (hWd : EdW E) (hn : E.1.length ≤ 60) (hgo : ∀ a, inI lo hi a → a ≠ go ∧ a ≠ on ∧ a ≠ bk ∧ a ≠ sl) (hzg : hZ h ≠ go ∧ hZ h ≠ on ∧ hZ h ≠ bk ∧ hZ h ≠ sl) (K : ∀ h' onf bkf dk rc ex, GoR h' go on bk sl E onf bkf dk rc ex → hT h' = hT h → hU h' = hU h → hZ h' = hZ h → (∀ a, a ≠ go → a ≠ on → a ≠ bk → a ≠ sl → samA h h' a) → Q 0 none h') : sm_wp 28 0 [.ref go, .ref ed, jk, jk] [] h Q := by
  refine wp_pure k_28 rfl rfl ?_
  refine wp_iv k_28 rfl [] rfl g0 (r := []) (Nat.le_of_ble_eq_true rfl) (Nat.le_of_ble_eq_true rfl) rfl ?_
  refine c_forget d1 d2 d3 g0 g1 g2 g3 g4 o1 o2 p1 p2 r1 r2 (fun h1 w1 => ⟨rfl, ?_⟩)
  have sz : samA h h1 (hZ h) := w1.1.2.2.2 _ hzg.1 hzg.2.1 hzg.2.2.1 hzg.2.2.2
  have X2 := (EdFO.same X O (fun b hb => w1.1.2.2.2 b (hgo b hb).1 (hgo b hb).2.1 (hgo b hb).2.2.1 (hgo b hb).2.2.2) sz w1.1.2.2.1 (by rw [w1.1.1]; exact Nat.le_refl _)).1
  obtain ⟨⟨e0, e1, e2, e3, e4⟩, ⟨l1, l2, l3, l4⟩, hP, hW, hV, hS⟩ := id X2
  refine wp_pure k_28 rfl rfl ?_
  refine wp_pure k_28 rfl rfl ?_
  refine wp_get k_28 rfl e0 e1 ?_
  refine wp_iv k_28 rfl [] rfl l1.1 (r := [.ref go]) (Nat.le_of_ble_eq_true rfl) (Nat.le_of_ble_eq_true rfl) rfl ?_
  refine c_size l1 ⟨rfl, ?_⟩
  refine wp_put k_28 rfl w1.2.1.1 rfl rfl ?_
  have w2 := w1.psz (v := E.1.length)
  refine wp_pure k_28 rfl rfl ?_
  refine wp_pure k_28 rfl rfl ?_
  refine wp_iv k_28 rfl [.ref ed] rfl w1.2.1.1 (r := []) (Nat.le_of_ble_eq_true rfl) (Nat.le_of_ble_eq_true rfl) rfl ?_
  refine c_lways d1 d2 d3 w2 X O hWd hn hgo hzg (fun _ _ => b0f) (fun _ _ => b0f) (fun h3 onf3 bkf3 w3 t1 t2 => ⟨rfl, ?_⟩)
  refine wp_pure k_28 rfl rfl ?_
  refine wp_pure k_28 rfl rfl ?_
  refine wp_iv k_28 rfl [.ref ed] rfl w3.2.1.1 (r := []) (Nat.le_of_ble_eq_true rfl) (Nat.le_of_ble_eq_true rfl) rfl ?_
  refine c_llifts d1 d2 d3 w3 X O hWd hn hgo hzg t1 t2 (fun _ _ => b0f) (fun h4 onf bkf slf w4 t3 t4 => ⟨rfl, ?_⟩)
  refine wp_kn k_28 rfl rfl ?_
  refine wp_pure k_28 rfl rfl ?_
  refine dn (n := E.1.length) (P := fun i => ∀ (x3 : Value) (h2 : sm_H) (dk : Nat), LGW h h2 go on bk sl E.1.length dk onf bkf slf → (∀ d, dk.testBit d = true ↔ ∃ k, k < i ∧ atP E.1 1 k = nI 3 ∧ atP E.1 7 k = nI d ∧ d < E.1.length) → sm_wp 28 27 [.ref go, .ref ed, .int (nI i), x3] [] h2 Q) ?_ ?_ 0 (Nat.zero_le _) jk h4 0 w4 (fun d => b0f.trans ⟨False.elim, fun ⟨k, hk, _⟩ => absurd hk (Nat.not_lt_zero k)⟩)
  · intro x3 h2 dk w2 td
    have sz : samA h h2 (hZ h) := w2.1.2.2.2 _ hzg.1 hzg.2.1 hzg.2.2.1 hzg.2.2.2
    have X2 := (EdFO.same X O (fun b hb => w2.1.2.2.2 b (hgo b hb).1 (hgo b hb).2.1 (hgo b hb).2.2.1 (hgo b hb).2.2.2) sz w2.1.2.2.1 (by rw [w2.1.1]; exact Nat.le_refl _)).1
    obtain ⟨⟨e0, e1, e2, e3, e4⟩, ⟨l1, l2, l3, l4⟩, hP, hW, hV, hS⟩ := id X2
    refine wp_pure k_28 rfl rfl ?_
    refine wp_pure k_28 rfl rfl ?_
    refine wp_get k_28 rfl w2.2.1.1 w2.2.1.2.2.2.2.1 ?_
    refine wp_br k_28 rfl rfl rfl rfl (fun _ => ?_) (fun z => absurd (Int32.le_refl _) z)
    refine wp_pure k_28 rfl rfl ?_
    refine wp_pure k_28 rfl rfl ?_
    refine wp_pure k_28 rfl rfl ?_
    refine wp_get k_28 rfl w2.2.1.1 w2.2.1.2.1 ?_
    refine wp_pure k_28 rfl rfl ?_
    refine wp_get k_28 rfl w2.2.1.1 w2.2.1.2.2.2.2.2 ?_
    refine wp_iv k_28 rfl [.ref on, .long (lN dk)] rfl w2.2.1.1 (r := [.ref go]) (Nat.le_of_ble_eq_true rfl) (Nat.le_of_ble_eq_true rfl) rfl ?_
    refine c_spread w2.2.1.1 w2.2.1.2.2.2.2.1 hn w2.2.2.1.1 w2.2.2.1.2.1 w2.2.2.1.2.2 w2.2.2.2.2.2.2.2.2 w2.2.2.2.2.2.1 (fun k1 hk1 => ⟨rfl, ?_⟩)
    refine wp_put k_28 rfl w2.2.1.1 rfl rfl ?_
    refine wp_pure k_28 rfl rfl ?_
    refine wp_pure k_28 rfl rfl ?_
    refine wp_pure k_28 rfl rfl ?_
    refine wp_get k_28 rfl w2.2.1.1 ((hF_putF_f (by decide)).trans w2.2.1.2.2.1) ?_
    refine wp_pure k_28 rfl rfl ?_
    refine wp_get k_28 rfl w2.2.1.1 ((hF_putF_f (by decide)).trans w2.2.1.2.2.2.2.2) ?_
    refine wp_iv k_28 rfl [.ref bk, .long (lN dk)] rfl w2.2.1.1 (r := [.ref go]) (Nat.le_of_ble_eq_true rfl) (Nat.le_of_ble_eq_true rfl) rfl ?_
    refine c_spread (h := putF h2 389 go (.long (lN (blN onf E.1.length dk k1)))) w2.2.1.1 ((hF_putF_f (by decide)).trans w2.2.1.2.2.2.2.1) hn w2.2.2.2.1.1 w2.2.2.2.1.2.1 w2.2.2.2.1.2.2 w2.2.2.2.2.2.2.2.2 w2.2.2.2.2.2.2.1 (fun k2 hk2 => ⟨rfl, ?_⟩)
    refine wp_put k_28 rfl w2.2.1.1 rfl rfl ?_
    have td' : ∀ d, dk.testBit d = true ↔ dkE E d := td
    refine wp_vrt k_28 rfl rfl (K _ onf bkf dk (blN onf E.1.length dk k1) (blN bkf E.1.length dk k2) ⟨⟨w2.2.1.1, (hF_putF_f (by decide)).trans ((hF_putF_f (by decide)).trans w2.2.1.2.1), (hF_putF_f (by decide)).trans ((hF_putF_f (by decide)).trans w2.2.1.2.2.1), (hF_putF_f (by decide)).trans ((hF_putF_f (by decide)).trans w2.2.1.2.2.2.1), (hF_putF_f (by decide)).trans ((hF_putF_f (by decide)).trans w2.2.1.2.2.2.2.1), (hF_putF_f (by decide)).trans ((hF_putF_f (by decide)).trans w2.2.1.2.2.2.2.2), (hF_putF_f (by decide)).trans hF_putF, hF_putF⟩, w2.2.2.1, w2.2.2.2.1, ⟨w2.2.2.2.2.1.1, w2.2.2.2.2.1.2.1⟩, t3, t4, td', fun p => rch_bits hWd hn t3 td' hk1, fun p => ext_bits hWd hn t4 td' hk2⟩ w2.1.1 w2.1.2.1 w2.1.2.2.1 (fun a q1 q2 q3 q4 => (w2.1.2.2.2 a q1 q2 q3 q4).trans ((samA.putF q1).trans (samA.putF q1))))
  · intro i hi9 ih x3 h2 dk w2 td
    have sz : samA h h2 (hZ h) := w2.1.2.2.2 _ hzg.1 hzg.2.1 hzg.2.2.1 hzg.2.2.2
    have X2 := (EdFO.same X O (fun b hb => w2.1.2.2.2 b (hgo b hb).1 (hgo b hb).2.1 (hgo b hb).2.2.1 (hgo b hb).2.2.2) sz w2.1.2.2.1 (by rw [w2.1.1]; exact Nat.le_refl _)).1
    obtain ⟨⟨e0, e1, e2, e3, e4⟩, ⟨l1, l2, l3, l4⟩, hP, hW, hV, hS⟩ := id X2
    refine wp_pure k_28 rfl rfl ?_
    refine wp_pure k_28 rfl rfl ?_
    refine wp_get k_28 rfl w2.2.1.1 w2.2.1.2.2.2.2.1 ?_
    refine wp_br k_28 rfl rfl rfl rfl (fun z => absurd z (nI_ge hi9 (by omega))) (fun _ => ?_)
    refine wp_pure k_28 rfl rfl ?_
    refine wp_get k_28 rfl e0 e1 ?_
    refine wp_pure k_28 rfl rfl ?_
    refine wp_iv k_28 rfl [.int (nI i)] rfl l1.1 (r := []) (Nat.le_of_ble_eq_true rfl) (Nat.le_of_ble_eq_true rfl) rfl ?_
    refine c_get l1 (by omega) ⟨rfl, ?_⟩
    refine wp_cc k_28 rfl (hP i (by omega)).1 ?_
    refine wp_pure k_28 rfl rfl ?_
    refine wp_pure k_28 rfl rfl ?_
    refine wp_get k_28 rfl (hP i (by omega)).1 ((hP i (by omega)).2.1 1 (by decide)) ?_
    refine wp_kn k_28 rfl rfl ?_
    refine wp_br k_28 rfl rfl rfl rfl (fun (z52 : ¬ atP E.1 1 i = nI 3) => ?_) (fun (z52 : ¬ (¬ atP E.1 1 i = nI 3)) => ?_)
    · refine wp_inc k_28 rfl rfl rfl ?_
      refine wp_br k_28 rfl rfl rfl rfl (fun _ => ?_) (fun z => absurd trivial z)
      refine ih _ h2 dk w2 (fun d => (td d).trans ⟨fun ⟨k, z1, z2⟩ => ⟨k, by omega, z2⟩, fun ⟨k, z1, z2, z3⟩ => ⟨k, by
        have : k ≠ i := fun e => z52 (by rw [← e]; exact z2)
        omega, z2, z3⟩⟩)
    · have k3 := Classical.not_not.mp z52
      obtain ⟨r9, hr9, hr9l, _⟩ := hWd.of3 hi9 (Or.inl k3)
      refine wp_pure k_28 rfl rfl ?_
      refine wp_pure k_28 rfl rfl ?_
      refine wp_get k_28 rfl w2.2.1.1 w2.2.1.2.2.2.2.2 ?_
      refine wp_pure k_28 rfl rfl ?_
      refine wp_pure k_28 rfl rfl ?_
      refine wp_get k_28 rfl (hP i (by omega)).1 (((hP i (by omega)).2.1 7 (by decide)).trans (congrArg Value.int hr9)) ?_
      refine wp_lshl1 k_28 rfl (by omega) ?_
      refine wp_lorN k_28 rfl (by have := w2.2.2.2.2.2.2.2.2; omega) (by have := pow_lt (p := r9) (n := 60) (by omega); omega) ?_
      refine wp_put k_28 rfl w2.2.1.1 rfl rfl ?_
      refine wp_inc k_28 rfl rfl rfl ?_
      refine wp_br k_28 rfl rfl rfl rfl (fun _ => ?_) (fun z => absurd trivial z)
      refine ih _ _ (dk ||| 2 ^ r9) (w2.pdk (Nat.or_lt_two_pow w2.2.2.2.2.2.2.2.2 (pow_lt (by omega)))) (fun d => ?_)
      rw [Nat.testBit_or, Bool.or_eq_true, bit1, td]
      constructor
      · rintro (⟨k, z1, z2⟩ | z)
        · exact ⟨k, by omega, z2⟩
        · subst z; exact ⟨i, by omega, k3, hr9, hr9l⟩
      · rintro ⟨k, z1, z2, z3, z4⟩
        by_cases e : k = i
        · subst e; exact Or.inr ((nI_eq (by omega) (by omega)).mp (z3.symm.trans hr9))
        · exact Or.inl ⟨k, by omega, z2, z3, z4⟩
