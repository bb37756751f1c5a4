/-! the class asks an edition -/
theorem c_find {h : sm_H} {Q : Nat → Option Value → sm_H → Prop} {ed lp ep : Nat} {pa : Nat → Nat} {bt : Nat → Nat → Nat} {E : Ed} {un : Nat → Int32} (X : EdF h ed lp ep pa bt E un) {c : Int32} (K : Q 0 (some (fV pa (fI (atP E.1 0) E.1.length c))) h) : sm_wp 18 0 [.ref ed, .int c, jk, jk] [] h Q := by
  obtain ⟨⟨e0, e1, e2, e3⟩, l1, hP, hBt⟩ := id X
  have n1 := l1.2.2.2.2.1
  refine wp_kn k_18 rfl rfl ?_
  refine wp_pure k_18 rfl rfl ?_
  refine dn (n := E.1.length) (P := fun i => ∀ (x3 : Value), (∀ j, j < i → ¬ atP E.1 0 j = c) → sm_wp 18 2 [.ref ed, .int c, .int (nI i), x3] [] h Q) ?_ ?_ 0 (Nat.zero_le _) (jk) (fun j hj => absurd hj (Nat.not_lt_zero j))
  · intro x3 hI
    refine wp_pure k_18 rfl rfl ?_
    refine wp_pure k_18 rfl rfl ?_
    refine wp_get k_18 rfl e0 e1 ?_
    refine wp_iv k_18 rfl [] rfl l1.1 (r := [.int (nI (E.1.length))]) (Nat.le_of_ble_eq_true rfl) (Nat.le_of_ble_eq_true rfl) rfl ?_
    refine c_size l1 ⟨rfl, ?_⟩
    refine wp_br k_18 rfl rfl rfl rfl (fun _ => ?_) (fun z => absurd (Int32.le_refl _) z)
    refine wp_pure k_18 rfl rfl ?_
    have e := fI_none (f := atP E.1 0) (n := E.1.length) (c := c) hI
    rw [e] at K
    exact wp_rt k_18 rfl rfl rfl rfl rfl rfl rfl (K)
  · intro i hi ih x3 hI
    refine wp_pure k_18 rfl rfl ?_
    refine wp_pure k_18 rfl rfl ?_
    refine wp_get k_18 rfl e0 e1 ?_
    refine wp_iv k_18 rfl [] rfl l1.1 (r := [.int (nI i)]) (Nat.le_of_ble_eq_true rfl) (Nat.le_of_ble_eq_true rfl) rfl ?_
    refine c_size l1 ⟨rfl, ?_⟩
    refine wp_br k_18 rfl rfl rfl rfl (fun z => absurd z (nI_ge hi (by omega))) (fun _ => ?_)
    refine wp_pure k_18 rfl rfl ?_
    refine wp_get k_18 rfl e0 e1 ?_
    refine wp_pure k_18 rfl rfl ?_
    refine wp_iv k_18 rfl [.int (nI i)] rfl l1.1 (r := []) (Nat.le_of_ble_eq_true rfl) (Nat.le_of_ble_eq_true rfl) rfl ?_
    refine c_get l1 (by omega) ⟨rfl, ?_⟩
    refine wp_cc k_18 rfl (hP i (by omega)).1 ?_
    refine wp_pure k_18 rfl rfl ?_
    refine wp_pure k_18 rfl rfl ?_
    refine wp_get k_18 rfl (hP i (by omega)).1 ((hP i (by omega)).2.1 0 (by decide)) ?_
    refine wp_pure k_18 rfl rfl ?_
    refine wp_br k_18 rfl rfl rfl rfl (fun (z30 : ¬ atP E.1 0 i = c) => ?_) (fun (z30 : ¬ (¬ atP E.1 0 i = c)) => ?_)
    · refine wp_inc k_18 rfl rfl rfl ?_
      refine wp_br k_18 rfl rfl rfl rfl (fun _ => ?_) (fun z => absurd trivial z)
      exact ih (.ref (pa i)) (fun j hj => by
        by_cases q : j = i
        · rw [q]; exact z30
        · exact hI j (by omega))
    · refine wp_pure k_18 rfl rfl ?_
      have e := fI_some (f := atP E.1 0) hi (Classical.not_not.mp z30) hI
      rw [e] at K
      exact wp_rt k_18 rfl rfl rfl rfl rfl rfl rfl (K)
theorem c_bit {h : sm_H} {Q : Nat → Option Value → sm_H → Prop} {p n : Nat} (hc : hC h p = 22) (hn : hF h 779 p = .int (nI n)) (K : Q 0 (some (.long (lN (btN n)))) h) : sm_wp 30 0 [.ref p] [] h Q := by
  refine wp_pure k_30 rfl rfl ?_
  refine wp_pure k_30 rfl rfl ?_
  refine wp_get k_30 rfl hc hn ?_
  refine wp_pure k_30 rfl rfl ?_
  rw [← btN_eq] at K
  exact wp_rt k_30 rfl rfl rfl rfl rfl rfl rfl (K)
theorem c_bit2 {h : sm_H} {Q : Nat → Option Value → sm_H → Prop} {p n : Nat} (hc : hC h p = 22) (hn : hF h 779 p = .int (nI n)) (h64 : n < 64) (K : Q 0 (some (.long (lN (2 ^ n)))) h) : sm_wp 30 0 [.ref p] [] h Q := c_bit hc hn (by rw [btN_2 h64]; exact K)
theorem c_baseN {h : sm_H} {Q : Nat → Option Value → sm_H → Prop} {ed lp ep : Nat} {pa : Nat → Nat} {bt : Nat → Nat → Nat} {E : Ed} {un : Nat → Int32} (X : EdF h ed lp ep pa bt E un) {k : Nat} (hk : k < E.1.length) (hb : atP E.1 7 k = -1 ∨ ∃ r, atP E.1 7 k = nI r ∧ r < E.1.length) (K : Q 0 (some (.int (atP E.1 7 k))) h) : sm_wp 31 0 [.ref (pa k)] [] h Q := by
  obtain ⟨⟨e0, e1, e2, e3⟩, l1, hP, hBt⟩ := id X
  have n1 := l1.2.2.2.2.1
  rcases hb with hb | ⟨r, hb, hr⟩
  · rw [hb] at K
    refine wp_pure k_31 rfl rfl ?_
    refine wp_get k_31 rfl (hP k (by omega)).1 ((hP k (by omega)).2.2.1.trans (bsV_n hb)) ?_
    refine wp_br k_31 rfl rfl rfl rfl (fun _ => ?_) (fun z => absurd trivial z)
    refine wp_km k_31 rfl rfl ?_
    refine wp_br k_31 rfl rfl rfl rfl (fun _ => ?_) (fun z => absurd trivial z)
    exact wp_irt k_31 rfl rfl rfl K
  · rw [hb] at K
    refine wp_pure k_31 rfl rfl ?_
    refine wp_get k_31 rfl (hP k (by omega)).1 ((hP k (by omega)).2.2.1.trans (bsV_y hb (by omega))) ?_
    refine wp_br k_31 rfl rfl rfl rfl (fun _ => ?_) (fun z => absurd trivial z)
    refine wp_pure k_31 rfl rfl ?_
    refine wp_get k_31 rfl (hP k (by omega)).1 ((hP k (by omega)).2.2.1.trans (bsV_y hb (by omega))) ?_
    refine wp_get k_31 rfl (hP r (by omega)).1 (hP r (by omega)).2.2.2.2.2.2.1 ?_
    exact wp_irt k_31 rfl rfl rfl K
theorem c_plN {h : sm_H} {Q : Nat → Option Value → sm_H → Prop} {ed lp ep : Nat} {pa : Nat → Nat} {bt : Nat → Nat → Nat} {E : Ed} {un : Nat → Int32} (X : EdF h ed lp ep pa bt E un) {i : Int32} (K1 : ∀ k, k < E.1.length → i = nI k → Q 0 (some (.ref (pa k))) h) (K0 : ¬ (∃ k, k < E.1.length ∧ i = nI k) → Q 0 (some .null) h) : sm_wp 23 0 [.ref ed, .int i] [] h Q := by
  obtain ⟨⟨e0, e1, e2, e3⟩, l1, hP, hBt⟩ := id X
  have n1 := l1.2.2.2.2.1
  by_cases z1 : i < 0
  · skip
    refine wp_pure k_23 rfl rfl ?_
    refine wp_br k_23 rfl rfl rfl rfl (fun _ => ?_) (fun z => absurd z1 z)
    refine wp_pure k_23 rfl rfl ?_
    exact wp_rt k_23 rfl rfl rfl rfl rfl rfl rfl (K0 (fun ⟨k, hk, e⟩ => nI_pos (n := k) (by omega) (by rw [← e]; exact z1)))
  obtain ⟨k, hk, rfl⟩ := nI_of z1
  refine wp_pure k_23 rfl rfl ?_
  refine wp_br k_23 rfl rfl rfl rfl (fun z => absurd z z1) (fun _ => ?_)
  refine wp_pure k_23 rfl rfl ?_
  refine wp_pure k_23 rfl rfl ?_
  refine wp_get k_23 rfl e0 e1 ?_
  refine wp_iv k_23 rfl [] rfl l1.1 (r := [.int (nI k)]) (Nat.le_of_ble_eq_true rfl) (Nat.le_of_ble_eq_true rfl) rfl ?_
  refine c_size l1 ⟨rfl, ?_⟩
  refine wp_br k_23 rfl rfl rfl rfl (fun (z12 : nI (E.1.length) ≤ nI k) => ?_) (fun (z12 : ¬ (nI (E.1.length) ≤ nI k)) => ?_)
  · have y12 : E.1.length ≤ k := yLe (by omega) (by omega) z12
    refine wp_pure k_23 rfl rfl ?_
    exact wp_rt k_23 rfl rfl rfl rfl rfl rfl rfl (K0 (fun ⟨k9, hk9, e⟩ => by have := (nI_eq hk (by omega)).mp e; omega))
  · have y12 : k < E.1.length := yNLe (by omega) (by omega) z12
    refine wp_pure k_23 rfl rfl ?_
    refine wp_get k_23 rfl e0 e1 ?_
    refine wp_pure k_23 rfl rfl ?_
    refine wp_iv k_23 rfl [.int (nI k)] rfl l1.1 (r := []) (Nat.le_of_ble_eq_true rfl) (Nat.le_of_ble_eq_true rfl) rfl ?_
    refine c_get l1 (by omega) ⟨rfl, ?_⟩
    refine wp_cc k_23 rfl (hP k (by omega)).1 ?_
    refine wp_br k_23 rfl rfl rfl rfl (fun _ => ?_) (fun z => absurd trivial z)
    exact wp_rt k_23 rfl rfl rfl rfl rfl rfl rfl (K1 k y12 rfl)
theorem c_findPiece {h : sm_H} {Q : Nat → Option Value → sm_H → Prop} {ed lp ep : Nat} {pa : Nat → Nat} {bt : Nat → Nat → Nat} {E : Ed} {un : Nat → Int32} (X : EdF h ed lp ep pa bt E un) {i : Int32} (K : Q 0 (some (fV pa (pcX E.1 i))) h) : sm_wp 24 0 [.ref ed, .int i, jk, jk, jk] [] h Q := by
  obtain ⟨⟨e0, e1, e2, e3⟩, l1, hP, hBt⟩ := id X
  have n1 := l1.2.2.2.2.1
  have key : ∀ o, (∀ k, o = some k → k < E.1.length ∧ atP E.1 1 k = nI 2 ∧ nI (cntP k (fun j => atP E.1 1 j = nI 2)) = i) → (o = none → ∀ k, k < E.1.length → ¬ (atP E.1 1 k = nI 2 ∧ nI (cntP k (fun j => atP E.1 1 j = nI 2)) = i)) → (∀ k, o = some k → ∀ j, j < k → ¬ (atP E.1 1 j = nI 2 ∧ nI (cntP j (fun j => atP E.1 1 j = nI 2)) = i)) → o = pcX E.1 i := by
    intro o h1 h2 h3
    unfold pcX
    by_cases z : i < 0
    · rw [if_pos z]
      cases o with
      | none => rfl
      | some k => exact absurd (show nI (cntP k (fun j => atP E.1 1 j = nI 2)) < 0 by rw [(h1 k rfl).2.2]; exact z) (nI_pos (n := cntP k (fun j => atP E.1 1 j = nI 2)) (by have := cntP_le k (fun j => atP E.1 1 j = nI 2); have := (h1 k rfl).1; omega))
    · rw [if_neg z]
      obtain ⟨r, hr, rfl⟩ := nI_of z
      rw [nI_clamp hr]
      have cv : ∀ k, k < E.1.length → (nI (cntP k (fun j => atP E.1 1 j = nI 2)) = nI r ↔ cntP k (fun j => atP E.1 1 j = nI 2) = r) := fun k hk => nI_eq (by have := cntP_le k (fun j => atP E.1 1 j = nI 2); omega) hr
      cases o with
      | none => exact (fstP_none (fun k hk q => h2 rfl k hk ⟨q.1, (cv k hk).mpr q.2⟩)).symm
      | some k =>
        obtain ⟨a, b, c⟩ := h1 k rfl
        exact (fstP_some a ⟨b, (cv k a).mp c⟩ (fun j hj q => h3 k rfl j hj ⟨q.1, (cv j (by omega)).mpr q.2⟩)).symm
  refine wp_kn k_24 rfl rfl ?_
  refine wp_pure k_24 rfl rfl ?_
  refine wp_kn k_24 rfl rfl ?_
  refine wp_pure k_24 rfl rfl ?_
  refine dn (n := E.1.length) (P := fun k => ∀ (x4 : Value), (∀ j, j < k → ¬ (atP E.1 1 j = nI 2 ∧ nI (cntP j (fun j => atP E.1 1 j = nI 2)) = i)) → sm_wp 24 4 [.ref ed, .int i, .int (nI (cntP k (fun j => atP E.1 1 j = nI 2))), .int (nI k), x4] [] h Q) ?_ ?_ 0 (Nat.zero_le _) (jk) (fun j hj => absurd hj (Nat.not_lt_zero j))
  · intro x4 hI
    refine wp_pure k_24 rfl rfl ?_
    refine wp_pure k_24 rfl rfl ?_
    refine wp_get k_24 rfl e0 e1 ?_
    refine wp_iv k_24 rfl [] rfl l1.1 (r := [.int (nI (E.1.length))]) (Nat.le_of_ble_eq_true rfl) (Nat.le_of_ble_eq_true rfl) rfl ?_
    refine c_size l1 ⟨rfl, ?_⟩
    refine wp_br k_24 rfl rfl rfl rfl (fun _ => ?_) (fun z => absurd (Int32.le_refl _) z)
    refine wp_pure k_24 rfl rfl ?_
    have e := key none (fun k q => by cases q) (fun _ k hk => hI k hk) (fun k q => by cases q)
    rw [← e] at K
    exact wp_rt k_24 rfl rfl rfl rfl rfl rfl rfl (K)
  · intro k hk0 ih x4 hI
    refine wp_pure k_24 rfl rfl ?_
    refine wp_pure k_24 rfl rfl ?_
    refine wp_get k_24 rfl e0 e1 ?_
    refine wp_iv k_24 rfl [] rfl l1.1 (r := [.int (nI k)]) (Nat.le_of_ble_eq_true rfl) (Nat.le_of_ble_eq_true rfl) rfl ?_
    refine c_size l1 ⟨rfl, ?_⟩
    refine wp_br k_24 rfl rfl rfl rfl (fun z => absurd z (nI_ge hk0 (by omega))) (fun _ => ?_)
    refine wp_pure k_24 rfl rfl ?_
    refine wp_get k_24 rfl e0 e1 ?_
    refine wp_pure k_24 rfl rfl ?_
    refine wp_iv k_24 rfl [.int (nI k)] rfl l1.1 (r := []) (Nat.le_of_ble_eq_true rfl) (Nat.le_of_ble_eq_true rfl) rfl ?_
    refine c_get l1 (by omega) ⟨rfl, ?_⟩
    refine wp_cc k_24 rfl (hP k (by omega)).1 ?_
    refine wp_pure k_24 rfl rfl ?_
    refine wp_pure k_24 rfl rfl ?_
    refine wp_get k_24 rfl (hP k (by omega)).1 ((hP k (by omega)).2.1 1 (by decide)) ?_
    refine wp_kn k_24 rfl rfl ?_
    refine wp_br k_24 rfl rfl rfl rfl (fun (z34 : ¬ atP E.1 1 k = nI 2) => ?_) (fun (z34 : ¬ (¬ atP E.1 1 k = nI 2)) => ?_)
    · refine wp_inc k_24 rfl rfl rfl ?_
      refine wp_br k_24 rfl rfl rfl rfl (fun _ => ?_) (fun z => absurd trivial z)
      rw [cntP_n (f := fun j => atP E.1 1 j = nI 2) z34] at ih
      exact ih (.ref (pa k)) (fun j hj => by
        by_cases q : j = k
        · rw [q]; exact fun w => z34 w.1
        · exact hI j (by omega))
    · refine wp_pure k_24 rfl rfl ?_
      refine wp_pure k_24 rfl rfl ?_
      refine wp_br k_24 rfl rfl rfl rfl (fun (z39 : ¬ nI (cntP k (fun j => atP E.1 1 j = nI 2)) = i) => ?_) (fun (z39 : ¬ (¬ nI (cntP k (fun j => atP E.1 1 j = nI 2)) = i)) => ?_)
      · refine wp_inc k_24 rfl rfl rfl ?_
        refine wp_inc k_24 rfl rfl rfl ?_
        refine wp_br k_24 rfl rfl rfl rfl (fun _ => ?_) (fun z => absurd trivial z)
        rw [cntP_y (f := fun j => atP E.1 1 j = nI 2) (Classical.not_not.mp z34)] at ih
        exact ih (.ref (pa k)) (fun j hj => by
          by_cases q : j = k
          · rw [q]; exact fun w => z39 w.2
          · exact hI j (by omega))
      · refine wp_pure k_24 rfl rfl ?_
        have e := key (some k) (fun k9 q => by cases q; exact ⟨hk0, Classical.not_not.mp z34, Classical.not_not.mp z39⟩) (fun q => by cases q) (fun k9 q => by cases q; exact hI)
        rw [← e] at K
        exact wp_rt k_24 rfl rfl rfl rfl rfl rfl rfl (K)
theorem c_contains {h : sm_H} {Q : Nat → Option Value → sm_H → Prop} {ed lp ep : Nat} {pa : Nat → Nat} {bt : Nat → Nat → Nat} {E : Ed} {un : Nat → Int32} (X : EdF h ed lp ep pa bt E un) {i j : Nat} (hi : i < E.1.length) (hj : j < E.1.length) (K1 : insE E.1 i j → Q 0 (some (.int (nI 1))) h) (K0 : ¬ insE E.1 i j → Q 0 (some (.int (nI 0))) h) : sm_wp 49 0 [.ref (pa j), .ref (pa i)] [] h Q := by
  obtain ⟨⟨e0, e1, e2, e3⟩, l1, hP, hBt⟩ := id X
  have n1 := l1.2.2.2.2.1
  refine wp_pure k_49 rfl rfl ?_
  refine wp_get k_49 rfl (hP i (by omega)).1 ((hP i (by omega)).2.1 2 (by decide)) ?_
  refine wp_pure k_49 rfl rfl ?_
  refine wp_get k_49 rfl (hP j (by omega)).1 ((hP j (by omega)).2.1 2 (by decide)) ?_
  refine wp_br k_49 rfl rfl rfl rfl (fun (z8 : atP E.1 2 i < atP E.1 2 j) => ?_) (fun (z8 : ¬ (atP E.1 2 i < atP E.1 2 j)) => ?_)
  · refine wp_kn k_49 rfl rfl ?_
    exact wp_irt k_49 rfl rfl rfl (K0 (fun q => Int32.not_le.mpr z8 q.1))
  · refine wp_pure k_49 rfl rfl ?_
    refine wp_get k_49 rfl (hP i (by omega)).1 ((hP i (by omega)).2.1 2 (by decide)) ?_
    refine wp_pure k_49 rfl rfl ?_
    refine wp_get k_49 rfl (hP i (by omega)).1 ((hP i (by omega)).2.1 4 (by decide)) ?_
    refine wp_iadd k_49 rfl ?_
    refine wp_pure k_49 rfl rfl ?_
    refine wp_get k_49 rfl (hP j (by omega)).1 ((hP j (by omega)).2.1 2 (by decide)) ?_
    refine wp_pure k_49 rfl rfl ?_
    refine wp_get k_49 rfl (hP j (by omega)).1 ((hP j (by omega)).2.1 4 (by decide)) ?_
    refine wp_iadd k_49 rfl ?_
    refine wp_br k_49 rfl rfl rfl rfl (fun (z29 : (atP E.1 2 j) + (atP E.1 4 j) < (atP E.1 2 i) + (atP E.1 4 i)) => ?_) (fun (z29 : ¬ ((atP E.1 2 j) + (atP E.1 4 j) < (atP E.1 2 i) + (atP E.1 4 i))) => ?_)
    · refine wp_kn k_49 rfl rfl ?_
      exact wp_irt k_49 rfl rfl rfl (K0 (fun q => Int32.not_le.mpr z29 q.2.2.1))
    · refine wp_pure k_49 rfl rfl ?_
      refine wp_get k_49 rfl (hP i (by omega)).1 ((hP i (by omega)).2.1 3 (by decide)) ?_
      refine wp_pure k_49 rfl rfl ?_
      refine wp_get k_49 rfl (hP j (by omega)).1 ((hP j (by omega)).2.1 3 (by decide)) ?_
      refine wp_br k_49 rfl rfl rfl rfl (fun (z40 : atP E.1 3 i < atP E.1 3 j) => ?_) (fun (z40 : ¬ (atP E.1 3 i < atP E.1 3 j)) => ?_)
      · refine wp_kn k_49 rfl rfl ?_
        exact wp_irt k_49 rfl rfl rfl (K0 (fun q => Int32.not_le.mpr z40 q.2.1))
      · refine wp_pure k_49 rfl rfl ?_
        refine wp_get k_49 rfl (hP i (by omega)).1 ((hP i (by omega)).2.1 3 (by decide)) ?_
        refine wp_pure k_49 rfl rfl ?_
        refine wp_get k_49 rfl (hP i (by omega)).1 ((hP i (by omega)).2.1 5 (by decide)) ?_
        refine wp_iadd k_49 rfl ?_
        refine wp_pure k_49 rfl rfl ?_
        refine wp_get k_49 rfl (hP j (by omega)).1 ((hP j (by omega)).2.1 3 (by decide)) ?_
        refine wp_pure k_49 rfl rfl ?_
        refine wp_get k_49 rfl (hP j (by omega)).1 ((hP j (by omega)).2.1 5 (by decide)) ?_
        refine wp_iadd k_49 rfl ?_
        refine wp_br k_49 rfl rfl rfl rfl (fun (z61 : (atP E.1 3 j) + (atP E.1 5 j) < (atP E.1 3 i) + (atP E.1 5 i)) => ?_) (fun (z61 : ¬ ((atP E.1 3 j) + (atP E.1 5 j) < (atP E.1 3 i) + (atP E.1 5 i))) => ?_)
        · refine wp_kn k_49 rfl rfl ?_
          exact wp_irt k_49 rfl rfl rfl (K0 (fun q => Int32.not_le.mpr z61 q.2.2.2))
        · refine wp_kn k_49 rfl rfl ?_
          refine wp_br k_49 rfl rfl rfl rfl (fun _ => ?_) (fun z => absurd trivial z)
          exact wp_irt k_49 rfl rfl rfl (K1 ⟨Int32.not_lt.mp z8, Int32.not_lt.mp z40, Int32.not_lt.mp z29, Int32.not_lt.mp z61⟩)
theorem c_shares {h : sm_H} {Q : Nat → Option Value → sm_H → Prop} {ed lp ep : Nat} {pa : Nat → Nat} {bt : Nat → Nat → Nat} {E : Ed} {un : Nat → Int32} (X : EdF h ed lp ep pa bt E un) {i j : Nat} (hi : i < E.1.length) (hj : j < E.1.length) (K1 : mtsE E.1 i j → Q 0 (some (.int (nI 1))) h) (K0 : ¬ mtsE E.1 i j → Q 0 (some (.int (nI 0))) h) : sm_wp 48 0 [.ref (pa j), .ref (pa i)] [] h Q := by
  obtain ⟨⟨e0, e1, e2, e3⟩, l1, hP, hBt⟩ := id X
  have n1 := l1.2.2.2.2.1
  refine wp_pure k_48 rfl rfl ?_
  refine wp_get k_48 rfl (hP j (by omega)).1 ((hP j (by omega)).2.1 2 (by decide)) ?_
  refine wp_pure k_48 rfl rfl ?_
  refine wp_get k_48 rfl (hP i (by omega)).1 ((hP i (by omega)).2.1 2 (by decide)) ?_
  refine wp_pure k_48 rfl rfl ?_
  refine wp_get k_48 rfl (hP i (by omega)).1 ((hP i (by omega)).2.1 4 (by decide)) ?_
  refine wp_iadd k_48 rfl ?_
  refine wp_br k_48 rfl rfl rfl rfl (fun (z13 : (atP E.1 2 i) + (atP E.1 4 i) ≤ atP E.1 2 j) => ?_) (fun (z13 : ¬ ((atP E.1 2 i) + (atP E.1 4 i) ≤ atP E.1 2 j)) => ?_)
  · refine wp_kn k_48 rfl rfl ?_
    exact wp_irt k_48 rfl rfl rfl (K0 (fun q => Int32.not_le.mpr q.2.1 z13))
  · refine wp_pure k_48 rfl rfl ?_
    refine wp_get k_48 rfl (hP i (by omega)).1 ((hP i (by omega)).2.1 2 (by decide)) ?_
    refine wp_pure k_48 rfl rfl ?_
    refine wp_get k_48 rfl (hP j (by omega)).1 ((hP j (by omega)).2.1 2 (by decide)) ?_
    refine wp_pure k_48 rfl rfl ?_
    refine wp_get k_48 rfl (hP j (by omega)).1 ((hP j (by omega)).2.1 4 (by decide)) ?_
    refine wp_iadd k_48 rfl ?_
    refine wp_br k_48 rfl rfl rfl rfl (fun (z29 : (atP E.1 2 j) + (atP E.1 4 j) ≤ atP E.1 2 i) => ?_) (fun (z29 : ¬ ((atP E.1 2 j) + (atP E.1 4 j) ≤ atP E.1 2 i)) => ?_)
    · refine wp_kn k_48 rfl rfl ?_
      exact wp_irt k_48 rfl rfl rfl (K0 (fun q => Int32.not_le.mpr q.1 z29))
    · refine wp_pure k_48 rfl rfl ?_
      refine wp_get k_48 rfl (hP j (by omega)).1 ((hP j (by omega)).2.1 3 (by decide)) ?_
      refine wp_pure k_48 rfl rfl ?_
      refine wp_get k_48 rfl (hP i (by omega)).1 ((hP i (by omega)).2.1 3 (by decide)) ?_
      refine wp_pure k_48 rfl rfl ?_
      refine wp_get k_48 rfl (hP i (by omega)).1 ((hP i (by omega)).2.1 5 (by decide)) ?_
      refine wp_iadd k_48 rfl ?_
      refine wp_br k_48 rfl rfl rfl rfl (fun (z45 : (atP E.1 3 i) + (atP E.1 5 i) ≤ atP E.1 3 j) => ?_) (fun (z45 : ¬ ((atP E.1 3 i) + (atP E.1 5 i) ≤ atP E.1 3 j)) => ?_)
      · refine wp_kn k_48 rfl rfl ?_
        exact wp_irt k_48 rfl rfl rfl (K0 (fun q => Int32.not_le.mpr q.2.2.2 z45))
      · refine wp_pure k_48 rfl rfl ?_
        refine wp_get k_48 rfl (hP i (by omega)).1 ((hP i (by omega)).2.1 3 (by decide)) ?_
        refine wp_pure k_48 rfl rfl ?_
        refine wp_get k_48 rfl (hP j (by omega)).1 ((hP j (by omega)).2.1 3 (by decide)) ?_
        refine wp_pure k_48 rfl rfl ?_
        refine wp_get k_48 rfl (hP j (by omega)).1 ((hP j (by omega)).2.1 5 (by decide)) ?_
        refine wp_iadd k_48 rfl ?_
        refine wp_br k_48 rfl rfl rfl rfl (fun (z61 : (atP E.1 3 j) + (atP E.1 5 j) ≤ atP E.1 3 i) => ?_) (fun (z61 : ¬ ((atP E.1 3 j) + (atP E.1 5 j) ≤ atP E.1 3 i)) => ?_)
        · refine wp_kn k_48 rfl rfl ?_
          exact wp_irt k_48 rfl rfl rfl (K0 (fun q => Int32.not_le.mpr q.2.2.1 z61))
        · refine wp_kn k_48 rfl rfl ?_
          refine wp_br k_48 rfl rfl rfl rfl (fun _ => ?_) (fun z => absurd trivial z)
          exact wp_irt k_48 rfl rfl rfl (K1 ⟨Int32.not_le.mp z29, Int32.not_le.mp z13, Int32.not_le.mp z61, Int32.not_le.mp z45⟩)
theorem c_points {h : sm_H} {Q : Nat → Option Value → sm_H → Prop} {ed lp ep : Nat} {pa : Nat → Nat} {bt : Nat → Nat → Nat} {E : Ed} {un : Nat → Int32} (X : EdF h ed lp ep pa bt E un) {ed2 lp2 ep2 : Nat} {pa2 : Nat → Nat} {bt2 : Nat → Nat → Nat} {E2 : Ed} {un2 : Nat → Int32} (X2 : EdF h ed2 lp2 ep2 pa2 bt2 E2 un2) {k i : Nat} (hk : k < E.1.length) (hi : i < E2.1.length) (K1 : atP E.1 2 k = atP E2.1 2 i ∧ atP E.1 3 k = atP E2.1 3 i ∧ atP E.1 4 k = atP E2.1 4 i ∧ atP E.1 5 k = atP E2.1 5 i → Q 0 (some (.int (nI 1))) h) (K0 : ¬ (atP E.1 2 k = atP E2.1 2 i ∧ atP E.1 3 k = atP E2.1 3 i ∧ atP E.1 4 k = atP E2.1 4 i ∧ atP E.1 5 k = atP E2.1 5 i) → Q 0 (some (.int (nI 0))) h) : sm_wp 50 0 [.ref (pa k), .ref (pa2 i)] [] h Q := by
  obtain ⟨⟨e0, e1, e2, e3⟩, l1, hP, hBt⟩ := id X
  have n1 := l1.2.2.2.2.1
  obtain ⟨⟨e02, e12, e22, e32⟩, l12, hP2, hBt2⟩ := id X2
  have n12 := l12.2.2.2.2.1
  refine wp_pure k_50 rfl rfl ?_
  refine wp_get k_50 rfl (hP k (by omega)).1 ((hP k (by omega)).2.1 2 (by decide)) ?_
  refine wp_pure k_50 rfl rfl ?_
  refine wp_get k_50 rfl (hP2 i (by omega)).1 ((hP2 i (by omega)).2.1 2 (by decide)) ?_
  refine wp_br k_50 rfl rfl rfl rfl (fun (z8 : ¬ atP E.1 2 k = atP E2.1 2 i) => ?_) (fun (z8 : ¬ (¬ atP E.1 2 k = atP E2.1 2 i)) => ?_)
  · refine wp_kn k_50 rfl rfl ?_
    exact wp_irt k_50 rfl rfl rfl (K0 (fun q => z8 q.1))
  · refine wp_pure k_50 rfl rfl ?_
    refine wp_get k_50 rfl (hP k (by omega)).1 ((hP k (by omega)).2.1 3 (by decide)) ?_
    refine wp_pure k_50 rfl rfl ?_
    refine wp_get k_50 rfl (hP2 i (by omega)).1 ((hP2 i (by omega)).2.1 3 (by decide)) ?_
    refine wp_br k_50 rfl rfl rfl rfl (fun (z19 : ¬ atP E.1 3 k = atP E2.1 3 i) => ?_) (fun (z19 : ¬ (¬ atP E.1 3 k = atP E2.1 3 i)) => ?_)
    · refine wp_kn k_50 rfl rfl ?_
      exact wp_irt k_50 rfl rfl rfl (K0 (fun q => z19 q.2.1))
    · refine wp_pure k_50 rfl rfl ?_
      refine wp_get k_50 rfl (hP k (by omega)).1 ((hP k (by omega)).2.1 4 (by decide)) ?_
      refine wp_pure k_50 rfl rfl ?_
      refine wp_get k_50 rfl (hP2 i (by omega)).1 ((hP2 i (by omega)).2.1 4 (by decide)) ?_
      refine wp_br k_50 rfl rfl rfl rfl (fun (z30 : ¬ atP E.1 4 k = atP E2.1 4 i) => ?_) (fun (z30 : ¬ (¬ atP E.1 4 k = atP E2.1 4 i)) => ?_)
      · refine wp_kn k_50 rfl rfl ?_
        exact wp_irt k_50 rfl rfl rfl (K0 (fun q => z30 q.2.2.1))
      · refine wp_pure k_50 rfl rfl ?_
        refine wp_get k_50 rfl (hP k (by omega)).1 ((hP k (by omega)).2.1 5 (by decide)) ?_
        refine wp_pure k_50 rfl rfl ?_
        refine wp_get k_50 rfl (hP2 i (by omega)).1 ((hP2 i (by omega)).2.1 5 (by decide)) ?_
        refine wp_br k_50 rfl rfl rfl rfl (fun (z41 : ¬ atP E.1 5 k = atP E2.1 5 i) => ?_) (fun (z41 : ¬ (¬ atP E.1 5 k = atP E2.1 5 i)) => ?_)
        · refine wp_kn k_50 rfl rfl ?_
          exact wp_irt k_50 rfl rfl rfl (K0 (fun q => z41 q.2.2.2))
        · refine wp_kn k_50 rfl rfl ?_
          refine wp_br k_50 rfl rfl rfl rfl (fun _ => ?_) (fun z => absurd trivial z)
          exact wp_irt k_50 rfl rfl rfl (K1 ⟨Classical.not_not.mp z8, Classical.not_not.mp z19, Classical.not_not.mp z30, Classical.not_not.mp z41⟩)
theorem c_rackOf {h : sm_H} {Q : Nat → Option Value → sm_H → Prop} {ed lp ep : Nat} {pa : Nat → Nat} {bt : Nat → Nat → Nat} {E : Ed} {un : Nat → Int32} (X : EdF h ed lp ep pa bt E un) {ed2 lp2 ep2 : Nat} {pa2 : Nat → Nat} {bt2 : Nat → Nat → Nat} {E2 : Ed} {un2 : Nat → Int32} (X2 : EdF h ed2 lp2 ep2 pa2 bt2 E2 un2) {k i r1 r2 : Nat} (hk : k < E.1.length) (hi : i < E2.1.length) (hr1 : atP E.1 7 k = nI r1) (hr1l : r1 < E.1.length) (hr2 : atP E2.1 7 i = nI r2) (hr2l : r2 < E2.1.length) (K1 : atP E.1 0 r1 = atP E2.1 0 r2 → Q 0 (some (.int (nI 1))) h) (K0 : ¬ atP E.1 0 r1 = atP E2.1 0 r2 → Q 0 (some (.int (nI 0))) h) : sm_wp 32 0 [.ref (pa k), .ref (pa2 i)] [] h Q := by
  obtain ⟨⟨e0, e1, e2, e3⟩, l1, hP, hBt⟩ := id X
  have n1 := l1.2.2.2.2.1
  obtain ⟨⟨e02, e12, e22, e32⟩, l12, hP2, hBt2⟩ := id X2
  have n12 := l12.2.2.2.2.1
  refine wp_pure k_32 rfl rfl ?_
  refine wp_get k_32 rfl (hP k (by omega)).1 ((hP k (by omega)).2.2.1.trans (bsV_y hr1 (by omega))) ?_
  refine wp_br k_32 rfl rfl rfl rfl (fun _ => ?_) (fun z => absurd trivial z)
  refine wp_pure k_32 rfl rfl ?_
  refine wp_get k_32 rfl (hP2 i (by omega)).1 ((hP2 i (by omega)).2.2.1.trans (bsV_y hr2 (by omega))) ?_
  refine wp_br k_32 rfl rfl rfl rfl (fun _ => ?_) (fun z => absurd trivial z)
  refine wp_pure k_32 rfl rfl ?_
  refine wp_get k_32 rfl (hP k (by omega)).1 ((hP k (by omega)).2.2.1.trans (bsV_y hr1 (by omega))) ?_
  refine wp_get k_32 rfl (hP r1 (by omega)).1 ((hP r1 (by omega)).2.1 0 (by decide)) ?_
  refine wp_pure k_32 rfl rfl ?_
  refine wp_get k_32 rfl (hP2 i (by omega)).1 ((hP2 i (by omega)).2.2.1.trans (bsV_y hr2 (by omega))) ?_
  refine wp_get k_32 rfl (hP2 r2 (by omega)).1 ((hP2 r2 (by omega)).2.1 0 (by decide)) ?_
  refine wp_br k_32 rfl rfl rfl rfl (fun (z28 : ¬ atP E.1 0 r1 = atP E2.1 0 r2) => ?_) (fun (z28 : ¬ (¬ atP E.1 0 r1 = atP E2.1 0 r2)) => ?_)
  · refine wp_kn k_32 rfl rfl ?_
    exact wp_irt k_32 rfl rfl rfl (K0 z28)
  · refine wp_kn k_32 rfl rfl ?_
    refine wp_br k_32 rfl rfl rfl rfl (fun _ => ?_) (fun z => absurd trivial z)
    exact wp_irt k_32 rfl rfl rfl (K1 (Classical.not_not.mp z28))
theorem c_keeps {h : sm_H} {Q : Nat → Option Value → sm_H → Prop} {ed lp ep : Nat} {pa : Nat → Nat} {bt : Nat → Nat → Nat} {E : Ed} {un : Nat → Int32} (X : EdF h ed lp ep pa bt E un) {ed2 lp2 ep2 : Nat} {pa2 : Nat → Nat} {bt2 : Nat → Nat → Nat} {E2 : Ed} {un2 : Nat → Int32} (X2 : EdF h ed2 lp2 ep2 pa2 bt2 E2 un2) (hWd : EdW E) (hWd2 : EdW (E2.1, [], [])) {i : Nat} (hi : i < E2.1.length) (hb : atP E2.1 1 i = nI 1) (K1 : kepE E.1 E2.1 i → Q 0 (some (.int (nI 1))) h) (K0 : ¬ kepE E.1 E2.1 i → Q 0 (some (.int (nI 0))) h) : sm_wp 25 0 [.ref ed, .ref (pa2 i), jk] [] h Q := by
  obtain ⟨⟨e0, e1, e2, e3⟩, l1, hP, hBt⟩ := id X
  have n1 := l1.2.2.2.2.1
  obtain ⟨⟨e02, e12, e22, e32⟩, l12, hP2, hBt2⟩ := id X2
  have n12 := l12.2.2.2.2.1
  obtain ⟨r2, hr2, hr2l, _⟩ := hWd2.of1 (k := i) hi hb
  have hr2 : atP E2.1 7 i = nI r2 := hr2
  have hr2l : r2 < E2.1.length := hr2l
  have ho2 : rO E2.1 i = r2 := by unfold rO; rw [hr2]; exact nI_clamp (by omega)
  obtain ⟨kf0, kf1⟩ := kepE_find (E := E) hWd (old := E2.1) (i := i)
  cases hf : fI (atP E.1 0) E.1.length (atP E2.1 0 i) with
  | none =>
    refine wp_pure k_25 rfl rfl ?_
    refine wp_pure k_25 rfl rfl ?_
    refine wp_get k_25 rfl (hP2 i (by omega)).1 ((hP2 i (by omega)).2.1 0 (by decide)) ?_
    refine wp_iv k_25 rfl [.int (atP E2.1 0 i)] rfl e0 (r := []) (Nat.le_of_ble_eq_true rfl) (Nat.le_of_ble_eq_true rfl) rfl ?_
    refine c_find X ?_
    rw [hf]
    refine ⟨rfl, ?_⟩
    refine wp_pure k_25 rfl rfl ?_
    refine wp_pure k_25 rfl rfl ?_
    refine wp_br k_25 rfl rfl rfl rfl (fun _ => ?_) (fun z => absurd trivial z)
    refine wp_kn k_25 rfl rfl ?_
    exact wp_irt k_25 rfl rfl rfl (K0 (kf0 hf))
  | some k =>
    have hk : k < E.1.length := (fI_spec hf).1
    have kk := kf1 k hf
    refine wp_pure k_25 rfl rfl ?_
    refine wp_pure k_25 rfl rfl ?_
    refine wp_get k_25 rfl (hP2 i (by omega)).1 ((hP2 i (by omega)).2.1 0 (by decide)) ?_
    refine wp_iv k_25 rfl [.int (atP E2.1 0 i)] rfl e0 (r := []) (Nat.le_of_ble_eq_true rfl) (Nat.le_of_ble_eq_true rfl) rfl ?_
    refine c_find X ?_
    rw [hf]
    refine ⟨rfl, ?_⟩
    refine wp_pure k_25 rfl rfl ?_
    refine wp_pure k_25 rfl rfl ?_
    refine wp_br k_25 rfl rfl rfl rfl (fun _ => ?_) (fun z => absurd trivial z)
    refine wp_pure k_25 rfl rfl ?_
    refine wp_get k_25 rfl (hP k (by omega)).1 ((hP k (by omega)).2.1 1 (by decide)) ?_
    refine wp_kn k_25 rfl rfl ?_
    refine wp_br k_25 rfl rfl rfl rfl (fun (z18 : ¬ atP E.1 1 k = nI 1) => ?_) (fun (z18 : ¬ (¬ atP E.1 1 k = nI 1)) => ?_)
    · refine wp_kn k_25 rfl rfl ?_
      exact wp_irt k_25 rfl rfl rfl (K0 (fun q => z18 (kk.mp q).1))
    · have k1 := Classical.not_not.mp z18
      obtain ⟨r1, hr1, hr1l, _⟩ := hWd.of1 hk k1
      have ho1 : rO E.1 k = r1 := by unfold rO; rw [hr1]; exact nI_clamp (by omega)
      refine wp_pure k_25 rfl rfl ?_
      refine wp_get k_25 rfl (hP k (by omega)).1 ((hP k (by omega)).2.1 6 (by decide)) ?_
      refine wp_pure k_25 rfl rfl ?_
      refine wp_get k_25 rfl (hP2 i (by omega)).1 ((hP2 i (by omega)).2.1 6 (by decide)) ?_
      refine wp_br k_25 rfl rfl rfl rfl (fun (z29 : ¬ atP E.1 6 k = atP E2.1 6 i) => ?_) (fun (z29 : ¬ (¬ atP E.1 6 k = atP E2.1 6 i)) => ?_)
      · refine wp_kn k_25 rfl rfl ?_
        exact wp_irt k_25 rfl rfl rfl (K0 (fun q => z29 (kk.mp q).2.1))
      · refine wp_pure k_25 rfl rfl ?_
        refine wp_pure k_25 rfl rfl ?_
        refine wp_iv k_25 rfl [.ref (pa2 i)] rfl (hP k (by omega)).1 (r := []) (Nat.le_of_ble_eq_true rfl) (Nat.le_of_ble_eq_true rfl) rfl ?_
        refine c_points X X2 hk hi (fun zp => ⟨rfl, ?_⟩) (fun zp => ⟨rfl, ?_⟩)
        · refine wp_br k_25 rfl rfl rfl rfl (fun z => absurd z (show ¬ ((nI 1 : Int32) = 0) by decide)) (fun _ => ?_)
          refine wp_pure k_25 rfl rfl ?_
          refine wp_pure k_25 rfl rfl ?_
          refine wp_iv k_25 rfl [.ref (pa2 i)] rfl (hP k (by omega)).1 (r := []) (Nat.le_of_ble_eq_true rfl) (Nat.le_of_ble_eq_true rfl) rfl ?_
          refine c_rackOf X X2 hk hi hr1 hr1l hr2 hr2l (fun zr => ⟨rfl, ?_⟩) (fun zr => ⟨rfl, ?_⟩)
          · refine wp_br k_25 rfl rfl rfl rfl (fun z => absurd z (show ¬ ((nI 1 : Int32) = 0) by decide)) (fun _ => ?_)
            refine wp_kn k_25 rfl rfl ?_
            refine wp_br k_25 rfl rfl rfl rfl (fun _ => ?_) (fun z => absurd trivial z)
            exact wp_irt k_25 rfl rfl rfl (K1 (kk.mpr ⟨k1, Classical.not_not.mp z29, zp.1, zp.2.1, zp.2.2.1, zp.2.2.2, by unfold rkN; rw [ho1, ho2]; exact zr⟩))
          · refine wp_br k_25 rfl rfl rfl rfl (fun _ => ?_) (fun z => absurd (show (nI 0 : Int32) = 0 by decide) z)
            refine wp_kn k_25 rfl rfl ?_
            exact wp_irt k_25 rfl rfl rfl (K0 (fun q => zr (by have e := (kk.mp q).2.2.2.2.2.2; unfold rkN at e; rw [ho1, ho2] at e; exact e)))
        · refine wp_br k_25 rfl rfl rfl rfl (fun _ => ?_) (fun z => absurd (show (nI 0 : Int32) = 0 by decide) z)
          refine wp_kn k_25 rfl rfl ?_
          exact wp_irt k_25 rfl rfl rfl (K0 (fun q => zp ⟨(kk.mp q).2.2.1, (kk.mp q).2.2.2.1, (kk.mp q).2.2.2.2.1, (kk.mp q).2.2.2.2.2.1⟩))
theorem c_tooL {h : sm_H} {Q : Nat → Option Value → sm_H → Prop} {ed lp ep : Nat} {pa : Nat → Nat} {bt : Nat → Nat → Nat} {E : Ed} {un : Nat → Int32} (X : EdF h ed lp ep pa bt E un) (hl2 : E.2.1.length + E.2.2.length < 2 ^ 30) (K1 : 60 < E.2.1.length + E.2.2.length ∨ 60 < E.1.length → Q 0 (some (.int (nI 1))) h) (K0 : ¬ (60 < E.2.1.length + E.2.2.length ∨ 60 < E.1.length) → Q 0 (some (.int (nI 0))) h) : sm_wp 22 0 [.ref ed] [] h Q := by
  obtain ⟨⟨e0, e1, e2, e3⟩, l1, hP, hBt⟩ := id X
  have n1 := l1.2.2.2.2.1
  refine wp_pure k_22 rfl rfl ?_
  refine wp_get k_22 rfl e0 e1 ?_
  refine wp_iv k_22 rfl [] rfl l1.1 (r := []) (Nat.le_of_ble_eq_true rfl) (Nat.le_of_ble_eq_true rfl) rfl ?_
  refine c_size l1 ⟨rfl, ?_⟩
  refine wp_kn k_22 rfl rfl ?_
  refine wp_br k_22 rfl rfl rfl rfl (fun (z9 : nI 60 < nI (E.1.length)) => ?_) (fun (z9 : ¬ (nI 60 < nI (E.1.length))) => ?_)
  · have y9 : 60 < E.1.length := yL (by omega) (by omega) z9
    refine wp_kn k_22 rfl rfl ?_
    refine wp_br k_22 rfl rfl rfl rfl (fun _ => ?_) (fun z => absurd trivial z)
    exact wp_irt k_22 rfl rfl rfl (K1 (by omega))
  · have y9 : E.1.length ≤ 60 := yNL (by omega) (by omega) z9
    refine wp_pure k_22 rfl rfl ?_
    refine wp_get k_22 rfl e0 e2 ?_
    refine wp_pure k_22 rfl rfl ?_
    refine wp_get k_22 rfl e0 e3 ?_
    refine wp_addN k_22 rfl ?_
    refine wp_kn k_22 rfl rfl ?_
    refine wp_br k_22 rfl rfl rfl rfl (fun (z23 : nI ((E.2.1.length) + (E.2.2.length)) ≤ nI 60) => ?_) (fun (z23 : ¬ (nI ((E.2.1.length) + (E.2.2.length)) ≤ nI 60)) => ?_)
    · have y23 : (E.2.1.length) + (E.2.2.length) ≤ 60 := yLe (by omega) (by omega) z23
      refine wp_kn k_22 rfl rfl ?_
      exact wp_irt k_22 rfl rfl rfl (K0 (by omega))
    · have y23 : 60 < (E.2.1.length) + (E.2.2.length) := yNLe (by omega) (by omega) z23
      refine wp_kn k_22 rfl rfl ?_
      refine wp_br k_22 rfl rfl rfl rfl (fun _ => ?_) (fun z => absurd trivial z)
      exact wp_irt k_22 rfl rfl rfl (K1 (by omega))
