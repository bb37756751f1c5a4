/-! the class answers -/
theorem toI_nI {n : Nat} (h : n < 2 ^ 31) : (nI n).toInt = (n : Int) := nI_toInt h
theorem toI_out {a : Int32} {n : Nat} (hn : n < 2 ^ 31) (h : ¬ ∃ w, w ≤ n ∧ a = nI w) : a.toInt < 0 ∨ (n : Int) < a.toInt := by
  by_cases z : a < 0
  · exact Or.inl (Int32.lt_iff_toInt_lt.mp z)
  · obtain ⟨j, hj, rfl⟩ := nI_of z
    rw [toI_nI hj]
    refine Or.inr ?_
    have : ¬ j ≤ n := fun q => h ⟨j, q, rfl⟩
    omega
theorem c_named {h : sm_H} {Q : Nat → Option Value → sm_H → Prop} {x : Nat} {σ : Sg} {P : Nat → Prop} (C : CR h x σ P) (S : SI σ) {c : Int32} (K : Q 0 (some (.int (fIv (fI (atP (cE σ).1 0) (cE σ).1.length c)))) h) : sm_wp 1 0 [.ref x, .int c, jk] [] h Q := by
  obtain ⟨sg, eds, ee, go, ins, lf, ef, pl, pls, fnd, efd, ea, fa, fda, lo, hi, dk, rc, ex, c1, c2, c3, c4, c5, c6, c7, c8, c9⟩ := id C
  obtain ⟨x0, x1, x2, x3, x4, x5, x6, x7, x8⟩ := c1
  obtain ⟨E9, _, hE9, rE⟩ := c7.2 (sE σ) (by have := S.2.2.2.1; unfold sE; omega)
  have hE9 := hE9 rfl
  subst hE9
  obtain ⟨_, lp, ep, pa, bt, X, _⟩ := rE
  generalize ea (sE σ) = ed at *
  obtain ⟨⟨e0, e1, e2, e3⟩, l1, hP, hBt⟩ := id X
  have n6 : (cE σ).1.length ≤ 60 := S.2.2.2.2.2.1
  cases hf : fI (atP (cE σ).1 0) (cE σ).1.length c with
  | none =>
    rw [hf] at K
    refine wp_pure k_1 rfl rfl ?_
    refine wp_get k_1 rfl x0 x4 ?_
    refine wp_pure k_1 rfl rfl ?_
    refine wp_iv k_1 rfl [.int c] rfl e0 (r := []) (Nat.le_of_ble_eq_true rfl) (Nat.le_of_ble_eq_true rfl) rfl ?_
    refine c_find X ?_
    rw [hf]
    refine ⟨rfl, ?_⟩
    refine wp_pure k_1 rfl rfl ?_
    refine wp_pure k_1 rfl rfl ?_
    refine wp_br k_1 rfl rfl rfl rfl (fun _ => ?_) (fun z => absurd trivial z)
    refine wp_km k_1 rfl rfl ?_
    refine wp_br k_1 rfl rfl rfl rfl (fun _ => ?_) (fun z => absurd trivial z)
    exact wp_irt k_1 rfl rfl rfl K
  | some k =>
    rw [hf] at K
    have hk := (fI_spec hf).1
    refine wp_pure k_1 rfl rfl ?_
    refine wp_get k_1 rfl x0 x4 ?_
    refine wp_pure k_1 rfl rfl ?_
    refine wp_iv k_1 rfl [.int c] rfl e0 (r := []) (Nat.le_of_ble_eq_true rfl) (Nat.le_of_ble_eq_true rfl) rfl ?_
    refine c_find X ?_
    rw [hf]
    refine ⟨rfl, ?_⟩
    refine wp_pure k_1 rfl rfl ?_
    refine wp_pure k_1 rfl rfl ?_
    refine wp_br k_1 rfl rfl rfl rfl (fun _ => ?_) (fun z => absurd trivial z)
    refine wp_pure k_1 rfl rfl ?_
    refine wp_get k_1 rfl (hP k (by omega)).1 (hP k (by omega)).2.2.2.2.2.2.1 ?_
    exact wp_irt k_1 rfl rfl rfl K
theorem c_check {h : sm_H} {Q : Nat → Option Value → sm_H → Prop} {x : Nat} {σ : Sg} {P : Nat → Prop} (C : CR h x σ P) (S : SI σ) (K : Q 0 (some (.int (nI (fltE (cE σ)).length))) h) : sm_wp 2 0 [.ref x] [] h Q := by
  obtain ⟨sg, eds, ee, go, ins, lf, ef, pl, pls, fnd, efd, ea, fa, fda, lo, hi, dk, rc, ex, c1, c2, c3, c4, c5, c6, c7, c8, c9⟩ := id C
  obtain ⟨x0, x1, x2, x3, x4, x5, x6, x7, x8⟩ := c1
  obtain ⟨E9, _, hE9, rE⟩ := c7.2 (sE σ) (by have := S.2.2.2.1; unfold sE; omega)
  have hE9 := hE9 rfl
  subst hE9
  obtain ⟨_, lp, ep, pa, bt, X, _⟩ := rE
  generalize ea (sE σ) = ed at *
  obtain ⟨⟨e0, e1, e2, e3⟩, l1, hP, hBt⟩ := id X
  have n6 : (cE σ).1.length ≤ 60 := S.2.2.2.2.2.1
  refine wp_pure k_2 rfl rfl ?_
  refine wp_get k_2 rfl x0 x6 ?_
  refine wp_get k_2 rfl c6.1 c6.2.1 ?_
  refine wp_iv k_2 rfl [] rfl c6.2.2.1.1 (r := []) (Nat.le_of_ble_eq_true rfl) (Nat.le_of_ble_eq_true rfl) rfl ?_
  refine c_size c6.2.2.1 ⟨rfl, ?_⟩
  exact wp_irt k_2 rfl rfl rfl K
theorem c_count {h : sm_H} {Q : Nat → Option Value → sm_H → Prop} {x : Nat} {σ : Sg} {P : Nat → Prop} (C : CR h x σ P) (S : SI σ) {a : Int32} (K : Q 0 (some (.int (cntV σ a))) h) : sm_wp 4 0 [.ref x, .int a] [] h Q := by
  obtain ⟨sg, eds, ee, go, ins, lf, ef, pl, pls, fnd, efd, ea, fa, fda, lo, hi, dk, rc, ex, c1, c2, c3, c4, c5, c6, c7, c8, c9⟩ := id C
  obtain ⟨x0, x1, x2, x3, x4, x5, x6, x7, x8⟩ := c1
  obtain ⟨E9, _, hE9, rE⟩ := c7.2 (sE σ) (by have := S.2.2.2.1; unfold sE; omega)
  have hE9 := hE9 rfl
  subst hE9
  obtain ⟨_, lp, ep, pa, bt, X, _⟩ := rE
  generalize ea (sE σ) = ed at *
  obtain ⟨⟨e0, e1, e2, e3⟩, l1, hP, hBt⟩ := id X
  have n6 : (cE σ).1.length ≤ 60 := S.2.2.2.2.2.1
  by_cases q : ∃ w, w ≤ 4 ∧ a = nI w
  · obtain ⟨w, hw, rfl⟩ := q
    have hs : w = 0 ∨ w = 1 ∨ w = 2 ∨ w = 3 ∨ w = 4 := by omega
    rcases hs with rfl | rfl | rfl | rfl | rfl
    · skip
      refine wp_pure k_4 rfl rfl ?_
      refine wp_sw k_4 rfl rfl rfl rfl rfl ?_
      refine wp_pure k_4 rfl rfl ?_
      refine wp_get k_4 rfl x0 x4 ?_
      refine wp_get k_4 rfl e0 e1 ?_
      refine wp_iv k_4 rfl [] rfl l1.1 (r := []) (Nat.le_of_ble_eq_true rfl) (Nat.le_of_ble_eq_true rfl) rfl ?_
      refine c_size l1 ⟨rfl, ?_⟩
      exact wp_irt k_4 rfl rfl rfl K
    · skip
      refine wp_pure k_4 rfl rfl ?_
      refine wp_sw k_4 rfl rfl rfl rfl rfl ?_
      refine wp_pure k_4 rfl rfl ?_
      refine wp_get k_4 rfl x0 x4 ?_
      refine wp_get k_4 rfl e0 e2 ?_
      exact wp_irt k_4 rfl rfl rfl K
    · skip
      refine wp_pure k_4 rfl rfl ?_
      refine wp_sw k_4 rfl rfl rfl rfl rfl ?_
      refine wp_pure k_4 rfl rfl ?_
      refine wp_get k_4 rfl x0 x4 ?_
      refine wp_get k_4 rfl e0 e3 ?_
      exact wp_irt k_4 rfl rfl rfl K
    · skip
      refine wp_pure k_4 rfl rfl ?_
      refine wp_sw k_4 rfl rfl rfl rfl rfl ?_
      refine wp_pure k_4 rfl rfl ?_
      refine wp_get k_4 rfl x0 x3 ?_
      refine wp_iv k_4 rfl [] rfl c7.1.1 (r := []) (Nat.le_of_ble_eq_true rfl) (Nat.le_of_ble_eq_true rfl) rfl ?_
      refine c_size c7.1 ⟨rfl, ?_⟩
      refine wp_kn k_4 rfl rfl ?_
      refine wp_isub k_4 rfl ?_
      have e9 : nI (sEd σ).length - nI 1 = nI (sE σ) := nI_sub S.2.2.2.1
      exact wp_irt k_4 rfl rfl rfl (by rw [e9]; exact K)
    · skip
      refine wp_pure k_4 rfl rfl ?_
      refine wp_sw k_4 rfl rfl rfl rfl rfl ?_
      refine wp_pure k_4 rfl rfl ?_
      refine wp_get k_4 rfl x0 x2 ?_
      exact wp_irt k_4 rfl rfl rfl K
  · have hsw := toI_out (by decide) q
    have e9 : cntV σ a = -1 := by unfold cntV; rw [if_neg (fun z => q ⟨0, by omega, z⟩), if_neg (fun z => q ⟨1, by omega, z⟩), if_neg (fun z => q ⟨2, by omega, z⟩), if_neg (fun z => q ⟨3, by omega, z⟩), if_neg (fun z => q ⟨4, by omega, z⟩)]
    rw [e9] at K
    refine wp_pure k_4 rfl rfl ?_
    refine wp_sw k_4 rfl rfl rfl rfl (if_pos hsw) ?_
    refine wp_km k_4 rfl rfl ?_
    exact wp_irt k_4 rfl rfl rfl K
theorem c_place {h : sm_H} {Q : Nat → Option Value → sm_H → Prop} {x : Nat} {σ : Sg} {P : Nat → Prop} (C : CR h x σ P) (S : SI σ) {i a : Int32} (Kt : ¬ (∃ k w, k < (cE σ).1.length ∧ w ≤ 7 ∧ i = nI k ∧ a = nI w) → Q 12 (some (.ref (hT h))) (thH h 11)) (K1 : ∀ k w, k < (cE σ).1.length → w ≤ 7 → i = nI k → a = nI w → Q 0 (some (.int (plV (cE σ) k w))) h) : sm_wp 8 0 [.ref x, .int i, .int a, jk] [] h Q := by
  obtain ⟨sg, eds, ee, go, ins, lf, ef, pl, pls, fnd, efd, ea, fa, fda, lo, hi, dk, rc, ex, c1, c2, c3, c4, c5, c6, c7, c8, c9⟩ := id C
  obtain ⟨x0, x1, x2, x3, x4, x5, x6, x7, x8⟩ := c1
  obtain ⟨E9, _, hE9, rE⟩ := c7.2 (sE σ) (by have := S.2.2.2.1; unfold sE; omega)
  have hE9 := hE9 rfl
  subst hE9
  obtain ⟨_, lp, ep, pa, bt, X, _⟩ := rE
  generalize ea (sE σ) = ed at *
  obtain ⟨⟨e0, e1, e2, e3⟩, l1, hP, hBt⟩ := id X
  have n6 : (cE σ).1.length ≤ 60 := S.2.2.2.2.2.1
  by_cases q1 : ∃ k, k < (cE σ).1.length ∧ i = nI k
  · obtain ⟨k, hk, rfl⟩ := q1
    by_cases q : ∃ w, w ≤ 7 ∧ a = nI w
    · obtain ⟨w, hw, rfl⟩ := q
      have hs : w = 0 ∨ w = 1 ∨ w = 2 ∨ w = 3 ∨ w = 4 ∨ w = 5 ∨ w = 6 ∨ w = 7 := by omega
      rcases hs with rfl | rfl | rfl | rfl | rfl | rfl | rfl | rfl
      · have eK := K1 k 0 hk hw rfl rfl
        rw [plV_n (by decide)] at eK
        refine wp_pure k_8 rfl rfl ?_
        refine wp_get k_8 rfl x0 x4 ?_
        refine wp_pure k_8 rfl rfl ?_
        refine wp_iv k_8 rfl [.int (nI k)] rfl e0 (r := []) (Nat.le_of_ble_eq_true rfl) (Nat.le_of_ble_eq_true rfl) rfl ?_
        refine c_plN X (fun k9 hk9 e9 => ?_) (fun q => absurd ⟨k, hk, rfl⟩ q)
        have e9 := (nI_eq (by omega) (by omega)).mp e9
        subst e9
        refine ⟨rfl, ?_⟩
        refine wp_pure k_8 rfl rfl ?_
        refine wp_pure k_8 rfl rfl ?_
        refine wp_br k_8 rfl rfl rfl rfl (fun _ => ?_) (fun z => absurd trivial z)
        refine wp_pure k_8 rfl rfl ?_
        refine wp_sw k_8 rfl rfl rfl rfl rfl ?_
        refine wp_pure k_8 rfl rfl ?_
        refine wp_get k_8 rfl (hP k (by omega)).1 ((hP k (by omega)).2.1 1 (by decide)) ?_
        exact wp_irt k_8 rfl rfl rfl eK
      · have eK := K1 k 1 hk hw rfl rfl
        rw [plV_n (by decide)] at eK
        refine wp_pure k_8 rfl rfl ?_
        refine wp_get k_8 rfl x0 x4 ?_
        refine wp_pure k_8 rfl rfl ?_
        refine wp_iv k_8 rfl [.int (nI k)] rfl e0 (r := []) (Nat.le_of_ble_eq_true rfl) (Nat.le_of_ble_eq_true rfl) rfl ?_
        refine c_plN X (fun k9 hk9 e9 => ?_) (fun q => absurd ⟨k, hk, rfl⟩ q)
        have e9 := (nI_eq (by omega) (by omega)).mp e9
        subst e9
        refine ⟨rfl, ?_⟩
        refine wp_pure k_8 rfl rfl ?_
        refine wp_pure k_8 rfl rfl ?_
        refine wp_br k_8 rfl rfl rfl rfl (fun _ => ?_) (fun z => absurd trivial z)
        refine wp_pure k_8 rfl rfl ?_
        refine wp_sw k_8 rfl rfl rfl rfl rfl ?_
        refine wp_pure k_8 rfl rfl ?_
        refine wp_get k_8 rfl (hP k (by omega)).1 ((hP k (by omega)).2.1 2 (by decide)) ?_
        exact wp_irt k_8 rfl rfl rfl eK
      · have eK := K1 k 2 hk hw rfl rfl
        rw [plV_n (by decide)] at eK
        refine wp_pure k_8 rfl rfl ?_
        refine wp_get k_8 rfl x0 x4 ?_
        refine wp_pure k_8 rfl rfl ?_
        refine wp_iv k_8 rfl [.int (nI k)] rfl e0 (r := []) (Nat.le_of_ble_eq_true rfl) (Nat.le_of_ble_eq_true rfl) rfl ?_
        refine c_plN X (fun k9 hk9 e9 => ?_) (fun q => absurd ⟨k, hk, rfl⟩ q)
        have e9 := (nI_eq (by omega) (by omega)).mp e9
        subst e9
        refine ⟨rfl, ?_⟩
        refine wp_pure k_8 rfl rfl ?_
        refine wp_pure k_8 rfl rfl ?_
        refine wp_br k_8 rfl rfl rfl rfl (fun _ => ?_) (fun z => absurd trivial z)
        refine wp_pure k_8 rfl rfl ?_
        refine wp_sw k_8 rfl rfl rfl rfl rfl ?_
        refine wp_pure k_8 rfl rfl ?_
        refine wp_get k_8 rfl (hP k (by omega)).1 ((hP k (by omega)).2.1 3 (by decide)) ?_
        exact wp_irt k_8 rfl rfl rfl eK
      · have eK := K1 k 3 hk hw rfl rfl
        rw [plV_n (by decide)] at eK
        refine wp_pure k_8 rfl rfl ?_
        refine wp_get k_8 rfl x0 x4 ?_
        refine wp_pure k_8 rfl rfl ?_
        refine wp_iv k_8 rfl [.int (nI k)] rfl e0 (r := []) (Nat.le_of_ble_eq_true rfl) (Nat.le_of_ble_eq_true rfl) rfl ?_
        refine c_plN X (fun k9 hk9 e9 => ?_) (fun q => absurd ⟨k, hk, rfl⟩ q)
        have e9 := (nI_eq (by omega) (by omega)).mp e9
        subst e9
        refine ⟨rfl, ?_⟩
        refine wp_pure k_8 rfl rfl ?_
        refine wp_pure k_8 rfl rfl ?_
        refine wp_br k_8 rfl rfl rfl rfl (fun _ => ?_) (fun z => absurd trivial z)
        refine wp_pure k_8 rfl rfl ?_
        refine wp_sw k_8 rfl rfl rfl rfl rfl ?_
        refine wp_pure k_8 rfl rfl ?_
        refine wp_get k_8 rfl (hP k (by omega)).1 ((hP k (by omega)).2.1 4 (by decide)) ?_
        exact wp_irt k_8 rfl rfl rfl eK
      · have eK := K1 k 4 hk hw rfl rfl
        rw [plV_n (by decide)] at eK
        refine wp_pure k_8 rfl rfl ?_
        refine wp_get k_8 rfl x0 x4 ?_
        refine wp_pure k_8 rfl rfl ?_
        refine wp_iv k_8 rfl [.int (nI k)] rfl e0 (r := []) (Nat.le_of_ble_eq_true rfl) (Nat.le_of_ble_eq_true rfl) rfl ?_
        refine c_plN X (fun k9 hk9 e9 => ?_) (fun q => absurd ⟨k, hk, rfl⟩ q)
        have e9 := (nI_eq (by omega) (by omega)).mp e9
        subst e9
        refine ⟨rfl, ?_⟩
        refine wp_pure k_8 rfl rfl ?_
        refine wp_pure k_8 rfl rfl ?_
        refine wp_br k_8 rfl rfl rfl rfl (fun _ => ?_) (fun z => absurd trivial z)
        refine wp_pure k_8 rfl rfl ?_
        refine wp_sw k_8 rfl rfl rfl rfl rfl ?_
        refine wp_pure k_8 rfl rfl ?_
        refine wp_get k_8 rfl (hP k (by omega)).1 ((hP k (by omega)).2.1 5 (by decide)) ?_
        exact wp_irt k_8 rfl rfl rfl eK
      · have eK := K1 k 5 hk hw rfl rfl
        rw [plV_n (by decide)] at eK
        refine wp_pure k_8 rfl rfl ?_
        refine wp_get k_8 rfl x0 x4 ?_
        refine wp_pure k_8 rfl rfl ?_
        refine wp_iv k_8 rfl [.int (nI k)] rfl e0 (r := []) (Nat.le_of_ble_eq_true rfl) (Nat.le_of_ble_eq_true rfl) rfl ?_
        refine c_plN X (fun k9 hk9 e9 => ?_) (fun q => absurd ⟨k, hk, rfl⟩ q)
        have e9 := (nI_eq (by omega) (by omega)).mp e9
        subst e9
        refine ⟨rfl, ?_⟩
        refine wp_pure k_8 rfl rfl ?_
        refine wp_pure k_8 rfl rfl ?_
        refine wp_br k_8 rfl rfl rfl rfl (fun _ => ?_) (fun z => absurd trivial z)
        refine wp_pure k_8 rfl rfl ?_
        refine wp_sw k_8 rfl rfl rfl rfl rfl ?_
        refine wp_pure k_8 rfl rfl ?_
        refine wp_get k_8 rfl (hP k (by omega)).1 ((hP k (by omega)).2.1 6 (by decide)) ?_
        exact wp_irt k_8 rfl rfl rfl eK
      · have eK := K1 k 6 hk hw rfl rfl
        rw [plV_n (by decide)] at eK
        refine wp_pure k_8 rfl rfl ?_
        refine wp_get k_8 rfl x0 x4 ?_
        refine wp_pure k_8 rfl rfl ?_
        refine wp_iv k_8 rfl [.int (nI k)] rfl e0 (r := []) (Nat.le_of_ble_eq_true rfl) (Nat.le_of_ble_eq_true rfl) rfl ?_
        refine c_plN X (fun k9 hk9 e9 => ?_) (fun q => absurd ⟨k, hk, rfl⟩ q)
        have e9 := (nI_eq (by omega) (by omega)).mp e9
        subst e9
        refine ⟨rfl, ?_⟩
        refine wp_pure k_8 rfl rfl ?_
        refine wp_pure k_8 rfl rfl ?_
        refine wp_br k_8 rfl rfl rfl rfl (fun _ => ?_) (fun z => absurd trivial z)
        refine wp_pure k_8 rfl rfl ?_
        refine wp_sw k_8 rfl rfl rfl rfl rfl ?_
        refine wp_pure k_8 rfl rfl ?_
        refine wp_iv k_8 rfl [] rfl (hP k (by omega)).1 (r := []) (Nat.le_of_ble_eq_true rfl) (Nat.le_of_ble_eq_true rfl) rfl ?_
        refine c_baseN X hk (S.1.bs hk) ⟨rfl, ?_⟩
        exact wp_irt k_8 rfl rfl rfl eK
      · have eK := K1 k 7 hk hw rfl rfl
        rw [plV_7] at eK
        refine wp_pure k_8 rfl rfl ?_
        refine wp_get k_8 rfl x0 x4 ?_
        refine wp_pure k_8 rfl rfl ?_
        refine wp_iv k_8 rfl [.int (nI k)] rfl e0 (r := []) (Nat.le_of_ble_eq_true rfl) (Nat.le_of_ble_eq_true rfl) rfl ?_
        refine c_plN X (fun k9 hk9 e9 => ?_) (fun q => absurd ⟨k, hk, rfl⟩ q)
        have e9 := (nI_eq (by omega) (by omega)).mp e9
        subst e9
        refine ⟨rfl, ?_⟩
        refine wp_pure k_8 rfl rfl ?_
        refine wp_pure k_8 rfl rfl ?_
        refine wp_br k_8 rfl rfl rfl rfl (fun _ => ?_) (fun z => absurd trivial z)
        refine wp_pure k_8 rfl rfl ?_
        refine wp_sw k_8 rfl rfl rfl rfl rfl ?_
        refine wp_pure k_8 rfl rfl ?_
        refine wp_get k_8 rfl (hP k (by omega)).1 (hP k (by omega)).2.2.2.1 ?_
        exact wp_irt k_8 rfl rfl rfl eK
    · have hsw := toI_out (by decide) q
      refine wp_pure k_8 rfl rfl ?_
      refine wp_get k_8 rfl x0 x4 ?_
      refine wp_pure k_8 rfl rfl ?_
      refine wp_iv k_8 rfl [.int (nI k)] rfl e0 (r := []) (Nat.le_of_ble_eq_true rfl) (Nat.le_of_ble_eq_true rfl) rfl ?_
      refine c_plN X (fun k9 hk9 e9 => ?_) (fun q => absurd ⟨k, hk, rfl⟩ q)
      have e9 := (nI_eq (by omega) (by omega)).mp e9
      subst e9
      refine ⟨rfl, ?_⟩
      refine wp_pure k_8 rfl rfl ?_
      refine wp_pure k_8 rfl rfl ?_
      refine wp_br k_8 rfl rfl rfl rfl (fun _ => ?_) (fun z => absurd trivial z)
      refine wp_pure k_8 rfl rfl ?_
      refine wp_sw k_8 rfl rfl rfl rfl (if_pos hsw) ?_
      exact wp_th k_8 rfl (Kt (fun ⟨_, w, _, hw, _, e⟩ => q ⟨w, hw, e⟩))
  · skip
    refine wp_pure k_8 rfl rfl ?_
    refine wp_get k_8 rfl x0 x4 ?_
    refine wp_pure k_8 rfl rfl ?_
    refine wp_iv k_8 rfl [.int i] rfl e0 (r := []) (Nat.le_of_ble_eq_true rfl) (Nat.le_of_ble_eq_true rfl) rfl ?_
    refine c_plN X (fun k9 hk9 e9 => absurd ⟨k9, hk9, e9⟩ q1) (fun _ => ⟨rfl, ?_⟩)
    refine wp_pure k_8 rfl rfl ?_
    refine wp_pure k_8 rfl rfl ?_
    refine wp_br k_8 rfl rfl rfl rfl (fun _ => ?_) (fun z => absurd trivial z)
    exact wp_th k_8 rfl (Kt (fun ⟨k, _, hk, _, e, _⟩ => q1 ⟨k, hk, e⟩))
theorem c_fault {h : sm_H} {Q : Nat → Option Value → sm_H → Prop} {x : Nat} {σ : Sg} {P : Nat → Prop} (C : CR h x σ P) (S : SI σ) {i a : Int32} (Kt : ¬ (∃ k, k < (fltE (cE σ)).length ∧ i = nI k) → Q 14 (some (.ref (hT h))) (thH h 13)) (Ku : ∀ k, k < (fltE (cE σ)).length → i = nI k → ¬ (∃ w, w ≤ 2 ∧ a = nI w) → Q 12 (some (.ref (hT h))) (thH h 11)) (K1 : ∀ k w, k < (fltE (cE σ)).length → i = nI k → w ≤ 2 → a = nI w → Q 0 (some (.int (ftV (cE σ) k w))) h) : sm_wp 9 0 [.ref x, .int i, .int a, jk] [] h Q := by
  obtain ⟨sg, eds, ee, go, ins, lf, ef, pl, pls, fnd, efd, ea, fa, fda, lo, hi, dk, rc, ex, c1, c2, c3, c4, c5, c6, c7, c8, c9⟩ := id C
  obtain ⟨x0, x1, x2, x3, x4, x5, x6, x7, x8⟩ := c1
  obtain ⟨E9, _, hE9, rE⟩ := c7.2 (sE σ) (by have := S.2.2.2.1; unfold sE; omega)
  have hE9 := hE9 rfl
  subst hE9
  obtain ⟨_, lp, ep, pa, bt, X, _⟩ := rE
  generalize ea (sE σ) = ed at *
  obtain ⟨⟨e0, e1, e2, e3⟩, l1, hP, hBt⟩ := id X
  have n6 : (cE σ).1.length ≤ 60 := S.2.2.2.2.2.1
  have nf := c6.2.2.1.2.2.2.2.1
  by_cases z1 : i < 0
  · skip
    refine wp_pure k_9 rfl rfl ?_
    refine wp_br k_9 rfl rfl rfl rfl (fun _ => ?_) (fun z => absurd z1 z)
    exact wp_th k_9 rfl (Kt (fun ⟨k, hk, e⟩ => nI_pos (n := k) (by omega) (by rw [← e]; exact z1)))
  obtain ⟨k, hkb, rfl⟩ := nI_of z1
  by_cases hk : k < (fltE (cE σ)).length
  · have hf := c6.2.2.2 k _ (List.getElem?_eq_getElem hk)
    by_cases q : ∃ w, w ≤ 2 ∧ a = nI w
    · obtain ⟨w, hw, rfl⟩ := q
      have hs : w = 0 ∨ w = 1 ∨ w = 2 := by omega
      rcases hs with rfl | rfl | rfl
      · have eK := K1 k 0 hk rfl hw rfl
        unfold ftV at eK
        rw [List.getElem?_eq_getElem hk] at eK
        refine wp_pure k_9 rfl rfl ?_
        refine wp_br k_9 rfl rfl rfl rfl (fun z => absurd z z1) (fun _ => ?_)
        refine wp_pure k_9 rfl rfl ?_
        refine wp_pure k_9 rfl rfl ?_
        refine wp_get k_9 rfl x0 x6 ?_
        refine wp_get k_9 rfl c6.1 c6.2.1 ?_
        refine wp_iv k_9 rfl [] rfl c6.2.2.1.1 (r := [.int (nI k)]) (Nat.le_of_ble_eq_true rfl) (Nat.le_of_ble_eq_true rfl) rfl ?_
        refine c_size c6.2.2.1 ⟨rfl, ?_⟩
        refine wp_br k_9 rfl rfl rfl rfl (fun _ => ?_) (fun z => absurd ((nI_ltI hkb (by omega)).mpr hk) z)
        refine wp_pure k_9 rfl rfl ?_
        refine wp_get k_9 rfl x0 x6 ?_
        refine wp_get k_9 rfl c6.1 c6.2.1 ?_
        refine wp_pure k_9 rfl rfl ?_
        refine wp_iv k_9 rfl [.int (nI k)] rfl c6.2.2.1.1 (r := []) (Nat.le_of_ble_eq_true rfl) (Nat.le_of_ble_eq_true rfl) rfl ?_
        refine c_get c6.2.2.1 (by omega) ⟨rfl, ?_⟩
        refine wp_cc k_9 rfl hf.1 ?_
        refine wp_pure k_9 rfl rfl ?_
        refine wp_pure k_9 rfl rfl ?_
        refine wp_sw k_9 rfl rfl rfl rfl rfl ?_
        refine wp_pure k_9 rfl rfl ?_
        refine wp_get k_9 rfl hf.1 hf.2.1 ?_
        exact wp_irt k_9 rfl rfl rfl eK
      · have eK := K1 k 1 hk rfl hw rfl
        unfold ftV at eK
        rw [List.getElem?_eq_getElem hk] at eK
        refine wp_pure k_9 rfl rfl ?_
        refine wp_br k_9 rfl rfl rfl rfl (fun z => absurd z z1) (fun _ => ?_)
        refine wp_pure k_9 rfl rfl ?_
        refine wp_pure k_9 rfl rfl ?_
        refine wp_get k_9 rfl x0 x6 ?_
        refine wp_get k_9 rfl c6.1 c6.2.1 ?_
        refine wp_iv k_9 rfl [] rfl c6.2.2.1.1 (r := [.int (nI k)]) (Nat.le_of_ble_eq_true rfl) (Nat.le_of_ble_eq_true rfl) rfl ?_
        refine c_size c6.2.2.1 ⟨rfl, ?_⟩
        refine wp_br k_9 rfl rfl rfl rfl (fun _ => ?_) (fun z => absurd ((nI_ltI hkb (by omega)).mpr hk) z)
        refine wp_pure k_9 rfl rfl ?_
        refine wp_get k_9 rfl x0 x6 ?_
        refine wp_get k_9 rfl c6.1 c6.2.1 ?_
        refine wp_pure k_9 rfl rfl ?_
        refine wp_iv k_9 rfl [.int (nI k)] rfl c6.2.2.1.1 (r := []) (Nat.le_of_ble_eq_true rfl) (Nat.le_of_ble_eq_true rfl) rfl ?_
        refine c_get c6.2.2.1 (by omega) ⟨rfl, ?_⟩
        refine wp_cc k_9 rfl hf.1 ?_
        refine wp_pure k_9 rfl rfl ?_
        refine wp_pure k_9 rfl rfl ?_
        refine wp_sw k_9 rfl rfl rfl rfl rfl ?_
        refine wp_pure k_9 rfl rfl ?_
        refine wp_get k_9 rfl hf.1 hf.2.2.1 ?_
        exact wp_irt k_9 rfl rfl rfl eK
      · have eK := K1 k 2 hk rfl hw rfl
        unfold ftV at eK
        rw [List.getElem?_eq_getElem hk] at eK
        refine wp_pure k_9 rfl rfl ?_
        refine wp_br k_9 rfl rfl rfl rfl (fun z => absurd z z1) (fun _ => ?_)
        refine wp_pure k_9 rfl rfl ?_
        refine wp_pure k_9 rfl rfl ?_
        refine wp_get k_9 rfl x0 x6 ?_
        refine wp_get k_9 rfl c6.1 c6.2.1 ?_
        refine wp_iv k_9 rfl [] rfl c6.2.2.1.1 (r := [.int (nI k)]) (Nat.le_of_ble_eq_true rfl) (Nat.le_of_ble_eq_true rfl) rfl ?_
        refine c_size c6.2.2.1 ⟨rfl, ?_⟩
        refine wp_br k_9 rfl rfl rfl rfl (fun _ => ?_) (fun z => absurd ((nI_ltI hkb (by omega)).mpr hk) z)
        refine wp_pure k_9 rfl rfl ?_
        refine wp_get k_9 rfl x0 x6 ?_
        refine wp_get k_9 rfl c6.1 c6.2.1 ?_
        refine wp_pure k_9 rfl rfl ?_
        refine wp_iv k_9 rfl [.int (nI k)] rfl c6.2.2.1.1 (r := []) (Nat.le_of_ble_eq_true rfl) (Nat.le_of_ble_eq_true rfl) rfl ?_
        refine c_get c6.2.2.1 (by omega) ⟨rfl, ?_⟩
        refine wp_cc k_9 rfl hf.1 ?_
        refine wp_pure k_9 rfl rfl ?_
        refine wp_pure k_9 rfl rfl ?_
        refine wp_sw k_9 rfl rfl rfl rfl rfl ?_
        refine wp_pure k_9 rfl rfl ?_
        refine wp_get k_9 rfl hf.1 hf.2.2.2 ?_
        exact wp_irt k_9 rfl rfl rfl eK
    · have hsw := toI_out (by decide) q
      refine wp_pure k_9 rfl rfl ?_
      refine wp_br k_9 rfl rfl rfl rfl (fun z => absurd z z1) (fun _ => ?_)
      refine wp_pure k_9 rfl rfl ?_
      refine wp_pure k_9 rfl rfl ?_
      refine wp_get k_9 rfl x0 x6 ?_
      refine wp_get k_9 rfl c6.1 c6.2.1 ?_
      refine wp_iv k_9 rfl [] rfl c6.2.2.1.1 (r := [.int (nI k)]) (Nat.le_of_ble_eq_true rfl) (Nat.le_of_ble_eq_true rfl) rfl ?_
      refine c_size c6.2.2.1 ⟨rfl, ?_⟩
      refine wp_br k_9 rfl rfl rfl rfl (fun _ => ?_) (fun z => absurd ((nI_ltI hkb (by omega)).mpr hk) z)
      refine wp_pure k_9 rfl rfl ?_
      refine wp_get k_9 rfl x0 x6 ?_
      refine wp_get k_9 rfl c6.1 c6.2.1 ?_
      refine wp_pure k_9 rfl rfl ?_
      refine wp_iv k_9 rfl [.int (nI k)] rfl c6.2.2.1.1 (r := []) (Nat.le_of_ble_eq_true rfl) (Nat.le_of_ble_eq_true rfl) rfl ?_
      refine c_get c6.2.2.1 (by omega) ⟨rfl, ?_⟩
      refine wp_cc k_9 rfl hf.1 ?_
      refine wp_pure k_9 rfl rfl ?_
      refine wp_pure k_9 rfl rfl ?_
      refine wp_sw k_9 rfl rfl rfl rfl (if_pos hsw) ?_
      exact wp_th k_9 rfl (Ku k hk rfl q)
  · skip
    refine wp_pure k_9 rfl rfl ?_
    refine wp_br k_9 rfl rfl rfl rfl (fun z => absurd z z1) (fun _ => ?_)
    refine wp_pure k_9 rfl rfl ?_
    refine wp_pure k_9 rfl rfl ?_
    refine wp_get k_9 rfl x0 x6 ?_
    refine wp_get k_9 rfl c6.1 c6.2.1 ?_
    refine wp_iv k_9 rfl [] rfl c6.2.2.1.1 (r := [.int (nI k)]) (Nat.le_of_ble_eq_true rfl) (Nat.le_of_ble_eq_true rfl) rfl ?_
    refine c_size c6.2.2.1 ⟨rfl, ?_⟩
    refine wp_br k_9 rfl rfl rfl rfl (fun z => absurd z (fun q => hk ((nI_ltI hkb (by omega)).mp q))) (fun _ => ?_)
    exact wp_th k_9 rfl (Kt (fun ⟨k9, hk9, e⟩ => hk (by have := (nI_eq hkb (by omega)).mp e; omega)))
theorem c_piece {h : sm_H} {Q : Nat → Option Value → sm_H → Prop} {x : Nat} {σ : Sg} {P : Nat → Prop} (C : CR h x σ P) (S : SI σ) {i a : Int32} (Kt : pcX (cE σ).1 i = none → Q 14 (some (.ref (hT h))) (thH h 13)) (Ku : ∀ p, pcX (cE σ).1 i = some p → ¬ (∃ w, w ≤ 4 ∧ a = nI w) → Q 12 (some (.ref (hT h))) (thH h 11)) (K1 : ∀ p w, pcX (cE σ).1 i = some p → w ≤ 4 → a = nI w → Q 0 (some (.int (pcV (cE σ) p w))) h) : sm_wp 10 0 [.ref x, .int i, .int a, jk] [] h Q := by
  obtain ⟨sg, eds, ee, go, ins, lf, ef, pl, pls, fnd, efd, ea, fa, fda, lo, hi, dk, rc, ex, c1, c2, c3, c4, c5, c6, c7, c8, c9⟩ := id C
  obtain ⟨x0, x1, x2, x3, x4, x5, x6, x7, x8⟩ := c1
  obtain ⟨E9, _, hE9, rE⟩ := c7.2 (sE σ) (by have := S.2.2.2.1; unfold sE; omega)
  have hE9 := hE9 rfl
  subst hE9
  obtain ⟨_, lp, ep, pa, bt, X, _⟩ := rE
  generalize ea (sE σ) = ed at *
  obtain ⟨⟨e0, e1, e2, e3⟩, l1, hP, hBt⟩ := id X
  have n6 : (cE σ).1.length ≤ 60 := S.2.2.2.2.2.1
  cases hp : pcX (cE σ).1 i with
  | none =>
    refine wp_pure k_10 rfl rfl ?_
    refine wp_get k_10 rfl x0 x4 ?_
    refine wp_pure k_10 rfl rfl ?_
    refine wp_iv k_10 rfl [.int i] rfl e0 (r := []) (Nat.le_of_ble_eq_true rfl) (Nat.le_of_ble_eq_true rfl) rfl ?_
    refine c_findPiece X ?_
    rw [hp]
    refine ⟨rfl, ?_⟩
    refine wp_pure k_10 rfl rfl ?_
    refine wp_pure k_10 rfl rfl ?_
    refine wp_br k_10 rfl rfl rfl rfl (fun _ => ?_) (fun z => absurd trivial z)
    exact wp_th k_10 rfl (Kt hp)
  | some p =>
    have hpl : p < (cE σ).1.length := pcX_lt hp
    by_cases q : ∃ w, w ≤ 4 ∧ a = nI w
    · obtain ⟨w, hw, rfl⟩ := q
      have hs : w = 0 ∨ w = 1 ∨ w = 2 ∨ w = 3 ∨ w = 4 := by omega
      rcases hs with rfl | rfl | rfl | rfl | rfl
      · have eK := K1 p 0 hp hw rfl
        refine wp_pure k_10 rfl rfl ?_
        refine wp_get k_10 rfl x0 x4 ?_
        refine wp_pure k_10 rfl rfl ?_
        refine wp_iv k_10 rfl [.int i] rfl e0 (r := []) (Nat.le_of_ble_eq_true rfl) (Nat.le_of_ble_eq_true rfl) rfl ?_
        refine c_findPiece X ?_
        rw [hp]
        refine ⟨rfl, ?_⟩
        refine wp_pure k_10 rfl rfl ?_
        refine wp_pure k_10 rfl rfl ?_
        refine wp_br k_10 rfl rfl rfl rfl (fun _ => ?_) (fun z => absurd trivial z)
        refine wp_pure k_10 rfl rfl ?_
        refine wp_sw k_10 rfl rfl rfl rfl rfl ?_
        refine wp_pure k_10 rfl rfl ?_
        refine wp_get k_10 rfl (hP p (by omega)).1 (hP p (by omega)).2.2.2.2.2.2.1 ?_
        exact wp_irt k_10 rfl rfl rfl eK
      · have eK := K1 p 1 hp hw rfl
        refine wp_pure k_10 rfl rfl ?_
        refine wp_get k_10 rfl x0 x4 ?_
        refine wp_pure k_10 rfl rfl ?_
        refine wp_iv k_10 rfl [.int i] rfl e0 (r := []) (Nat.le_of_ble_eq_true rfl) (Nat.le_of_ble_eq_true rfl) rfl ?_
        refine c_findPiece X ?_
        rw [hp]
        refine ⟨rfl, ?_⟩
        refine wp_pure k_10 rfl rfl ?_
        refine wp_pure k_10 rfl rfl ?_
        refine wp_br k_10 rfl rfl rfl rfl (fun _ => ?_) (fun z => absurd trivial z)
        refine wp_pure k_10 rfl rfl ?_
        refine wp_sw k_10 rfl rfl rfl rfl rfl ?_
        refine wp_pure k_10 rfl rfl ?_
        refine wp_get k_10 rfl x0 x5 ?_
        refine wp_pure k_10 rfl rfl ?_
        refine wp_iv k_10 rfl [.ref (pa p)] rfl c5.1.1 (r := []) (Nat.le_of_ble_eq_true rfl) (Nat.le_of_ble_eq_true rfl) rfl ?_
        refine c_isReached X c5 S.1 n6 hpl (fun zr => ⟨rfl, ?_⟩) (fun zr => ⟨rfl, ?_⟩)
        · refine wp_br k_10 rfl rfl rfl rfl (fun z => absurd z (show ¬ ((nI 1 : Int32) = 0) by decide)) (fun _ => ?_)
          refine wp_kn k_10 rfl rfl ?_
          refine wp_br k_10 rfl rfl rfl rfl (fun _ => ?_) (fun z => absurd trivial z)
          rw [show pcV (cE σ) p 1 = nI 1 from pit_y zr] at eK
          exact wp_irt k_10 rfl rfl rfl eK
        · refine wp_br k_10 rfl rfl rfl rfl (fun _ => ?_) (fun z => absurd (show (nI 0 : Int32) = 0 by decide) z)
          refine wp_kn k_10 rfl rfl ?_
          rw [show pcV (cE σ) p 1 = nI 0 from pit_n zr] at eK
          exact wp_irt k_10 rfl rfl rfl eK
      · have eK := K1 p 2 hp hw rfl
        refine wp_pure k_10 rfl rfl ?_
        refine wp_get k_10 rfl x0 x4 ?_
        refine wp_pure k_10 rfl rfl ?_
        refine wp_iv k_10 rfl [.int i] rfl e0 (r := []) (Nat.le_of_ble_eq_true rfl) (Nat.le_of_ble_eq_true rfl) rfl ?_
        refine c_findPiece X ?_
        rw [hp]
        refine ⟨rfl, ?_⟩
        refine wp_pure k_10 rfl rfl ?_
        refine wp_pure k_10 rfl rfl ?_
        refine wp_br k_10 rfl rfl rfl rfl (fun _ => ?_) (fun z => absurd trivial z)
        refine wp_pure k_10 rfl rfl ?_
        refine wp_sw k_10 rfl rfl rfl rfl rfl ?_
        refine wp_pure k_10 rfl rfl ?_
        refine wp_get k_10 rfl x0 x5 ?_
        refine wp_pure k_10 rfl rfl ?_
        refine wp_iv k_10 rfl [.ref (pa p)] rfl c5.1.1 (r := []) (Nat.le_of_ble_eq_true rfl) (Nat.le_of_ble_eq_true rfl) rfl ?_
        refine c_isExiting X c5 S.1 n6 hpl (fun zr => ⟨rfl, ?_⟩) (fun zr => ⟨rfl, ?_⟩)
        · refine wp_br k_10 rfl rfl rfl rfl (fun z => absurd z (show ¬ ((nI 1 : Int32) = 0) by decide)) (fun _ => ?_)
          refine wp_kn k_10 rfl rfl ?_
          refine wp_br k_10 rfl rfl rfl rfl (fun _ => ?_) (fun z => absurd trivial z)
          rw [show pcV (cE σ) p 2 = nI 1 from pit_y zr] at eK
          exact wp_irt k_10 rfl rfl rfl eK
        · refine wp_br k_10 rfl rfl rfl rfl (fun _ => ?_) (fun z => absurd (show (nI 0 : Int32) = 0 by decide) z)
          refine wp_kn k_10 rfl rfl ?_
          rw [show pcV (cE σ) p 2 = nI 0 from pit_n zr] at eK
          exact wp_irt k_10 rfl rfl rfl eK
      · have eK := K1 p 3 hp hw rfl
        refine wp_pure k_10 rfl rfl ?_
        refine wp_get k_10 rfl x0 x4 ?_
        refine wp_pure k_10 rfl rfl ?_
        refine wp_iv k_10 rfl [.int i] rfl e0 (r := []) (Nat.le_of_ble_eq_true rfl) (Nat.le_of_ble_eq_true rfl) rfl ?_
        refine c_findPiece X ?_
        rw [hp]
        refine ⟨rfl, ?_⟩
        refine wp_pure k_10 rfl rfl ?_
        refine wp_pure k_10 rfl rfl ?_
        refine wp_br k_10 rfl rfl rfl rfl (fun _ => ?_) (fun z => absurd trivial z)
        refine wp_pure k_10 rfl rfl ?_
        refine wp_sw k_10 rfl rfl rfl rfl rfl ?_
        refine wp_pure k_10 rfl rfl ?_
        refine wp_get k_10 rfl x0 x5 ?_
        refine wp_pure k_10 rfl rfl ?_
        refine wp_iv k_10 rfl [.ref (pa p)] rfl c5.1.1 (r := []) (Nat.le_of_ble_eq_true rfl) (Nat.le_of_ble_eq_true rfl) rfl ?_
        refine c_countOnward X c5 S.1 n6 hpl ⟨rfl, ?_⟩
        exact wp_irt k_10 rfl rfl rfl eK
      · have eK := K1 p 4 hp hw rfl
        refine wp_pure k_10 rfl rfl ?_
        refine wp_get k_10 rfl x0 x4 ?_
        refine wp_pure k_10 rfl rfl ?_
        refine wp_iv k_10 rfl [.int i] rfl e0 (r := []) (Nat.le_of_ble_eq_true rfl) (Nat.le_of_ble_eq_true rfl) rfl ?_
        refine c_findPiece X ?_
        rw [hp]
        refine ⟨rfl, ?_⟩
        refine wp_pure k_10 rfl rfl ?_
        refine wp_pure k_10 rfl rfl ?_
        refine wp_br k_10 rfl rfl rfl rfl (fun _ => ?_) (fun z => absurd trivial z)
        refine wp_pure k_10 rfl rfl ?_
        refine wp_sw k_10 rfl rfl rfl rfl rfl ?_
        refine wp_pure k_10 rfl rfl ?_
        refine wp_get k_10 rfl x0 x5 ?_
        refine wp_pure k_10 rfl rfl ?_
        refine wp_iv k_10 rfl [.ref (pa p)] rfl c5.1.1 (r := []) (Nat.le_of_ble_eq_true rfl) (Nat.le_of_ble_eq_true rfl) rfl ?_
        refine c_stepsToDock X c5 S.1 n6 hpl ⟨rfl, ?_⟩
        exact wp_irt k_10 rfl rfl rfl eK
    · have hsw := toI_out (by decide) q
      refine wp_pure k_10 rfl rfl ?_
      refine wp_get k_10 rfl x0 x4 ?_
      refine wp_pure k_10 rfl rfl ?_
      refine wp_iv k_10 rfl [.int i] rfl e0 (r := []) (Nat.le_of_ble_eq_true rfl) (Nat.le_of_ble_eq_true rfl) rfl ?_
      refine c_findPiece X ?_
      rw [hp]
      refine ⟨rfl, ?_⟩
      refine wp_pure k_10 rfl rfl ?_
      refine wp_pure k_10 rfl rfl ?_
      refine wp_br k_10 rfl rfl rfl rfl (fun _ => ?_) (fun z => absurd trivial z)
      refine wp_pure k_10 rfl rfl ?_
      refine wp_sw k_10 rfl rfl rfl rfl (if_pos hsw) ?_
      exact wp_th k_10 rfl (Ku p hp q)
theorem c_inside {h : sm_H} {Q : Nat → Option Value → sm_H → Prop} {x : Nat} {σ : Sg} {P : Nat → Prop} (C : CR h x σ P) (S : SI σ) {a b : Int32} (Kt : ¬ (∃ i j, i < (cE σ).1.length ∧ j < (cE σ).1.length ∧ a = nI i ∧ b = nI j ∧ atP (cE σ).1 1 i = nI 1 ∧ atP (cE σ).1 1 j = nI 0) → Q 12 (some (.ref (hT h))) (thH h 11)) (K1 : ∀ i j, i < (cE σ).1.length → j < (cE σ).1.length → a = nI i → b = nI j → atP (cE σ).1 1 i = nI 1 → atP (cE σ).1 1 j = nI 0 → Q 0 (some (.int (pit (insE (cE σ).1 i j) (nI 1) (nI 0)))) h) : sm_wp 11 0 [.ref x, .int a, .int b, jk, jk] [] h Q := by
  obtain ⟨sg, eds, ee, go, ins, lf, ef, pl, pls, fnd, efd, ea, fa, fda, lo, hi, dk, rc, ex, c1, c2, c3, c4, c5, c6, c7, c8, c9⟩ := id C
  obtain ⟨x0, x1, x2, x3, x4, x5, x6, x7, x8⟩ := c1
  obtain ⟨E9, _, hE9, rE⟩ := c7.2 (sE σ) (by have := S.2.2.2.1; unfold sE; omega)
  have hE9 := hE9 rfl
  subst hE9
  obtain ⟨_, lp, ep, pa, bt, X, _⟩ := rE
  generalize ea (sE σ) = ed at *
  obtain ⟨⟨e0, e1, e2, e3⟩, l1, hP, hBt⟩ := id X
  have n6 : (cE σ).1.length ≤ 60 := S.2.2.2.2.2.1
  by_cases q1 : ∃ k, k < (cE σ).1.length ∧ a = nI k
  · obtain ⟨i0, hi0, rfl⟩ := q1
    by_cases q2 : ∃ k, k < (cE σ).1.length ∧ b = nI k
    · obtain ⟨j0, hj0, rfl⟩ := q2
      refine wp_pure k_11 rfl rfl ?_
      refine wp_get k_11 rfl x0 x4 ?_
      refine wp_pure k_11 rfl rfl ?_
      refine wp_iv k_11 rfl [.int (nI i0)] rfl e0 (r := []) (Nat.le_of_ble_eq_true rfl) (Nat.le_of_ble_eq_true rfl) rfl ?_
      refine c_plN X (fun k9 hk9 e9 => ?_) (fun q => absurd ⟨i0, hi0, rfl⟩ q)
      have e9 := (nI_eq (by omega) (by omega)).mp e9
      subst e9
      refine ⟨rfl, ?_⟩
      refine wp_pure k_11 rfl rfl ?_
      refine wp_pure k_11 rfl rfl ?_
      refine wp_get k_11 rfl x0 x4 ?_
      refine wp_pure k_11 rfl rfl ?_
      refine wp_iv k_11 rfl [.int (nI j0)] rfl e0 (r := []) (Nat.le_of_ble_eq_true rfl) (Nat.le_of_ble_eq_true rfl) rfl ?_
      refine c_plN X (fun k9 hk9 e9 => ?_) (fun q => absurd ⟨j0, hj0, rfl⟩ q)
      have e9 := (nI_eq (by omega) (by omega)).mp e9
      subst e9
      refine ⟨rfl, ?_⟩
      refine wp_pure k_11 rfl rfl ?_
      refine wp_pure k_11 rfl rfl ?_
      refine wp_br k_11 rfl rfl rfl rfl (fun _ => ?_) (fun z => absurd trivial z)
      refine wp_pure k_11 rfl rfl ?_
      refine wp_get k_11 rfl (hP i0 (by omega)).1 ((hP i0 (by omega)).2.1 1 (by decide)) ?_
      refine wp_kn k_11 rfl rfl ?_
      refine wp_br k_11 rfl rfl rfl rfl (fun (z28 : atP (cE σ).1 1 i0 = nI 1) => ?_) (fun (z28 : ¬ (atP (cE σ).1 1 i0 = nI 1)) => ?_)
      · refine wp_pure k_11 rfl rfl ?_
        refine wp_br k_11 rfl rfl rfl rfl (fun _ => ?_) (fun z => absurd trivial z)
        refine wp_pure k_11 rfl rfl ?_
        refine wp_get k_11 rfl (hP j0 (by omega)).1 ((hP j0 (by omega)).2.1 1 (by decide)) ?_
        refine wp_br k_11 rfl rfl rfl rfl (fun (z51 : atP (cE σ).1 1 j0 = 0) => ?_) (fun (z51 : ¬ (atP (cE σ).1 1 j0 = 0)) => ?_)
        · refine wp_pure k_11 rfl rfl ?_
          refine wp_pure k_11 rfl rfl ?_
          refine wp_iv k_11 rfl [.ref (pa i0)] rfl (hP j0 (by omega)).1 (r := []) (Nat.le_of_ble_eq_true rfl) (Nat.le_of_ble_eq_true rfl) rfl ?_
          refine c_contains X hi0 hj0 (fun zi => ⟨rfl, ?_⟩) (fun zi => ⟨rfl, ?_⟩)
          · have eK := K1 i0 j0 hi0 hj0 rfl rfl z28 z51
            rw [pit_y zi] at eK
            exact wp_irt k_11 rfl rfl rfl eK
          · have eK := K1 i0 j0 hi0 hj0 rfl rfl z28 z51
            rw [pit_n zi] at eK
            exact wp_irt k_11 rfl rfl rfl eK
        · exact wp_th k_11 rfl (Kt (fun ⟨i9, j9, h1, h2, e1, e2, k1, k2⟩ => by
            have e1 := (nI_eq (by omega) (by omega)).mp e1
            subst e1
            have e2 := (nI_eq (by omega) (by omega)).mp e2
            subst e2
            exact z51 k2))
      · exact wp_th k_11 rfl (Kt (fun ⟨i9, j9, h1, h2, e1, e2, k1, k2⟩ => by
          have e1 := (nI_eq (by omega) (by omega)).mp e1
          subst e1
          have e2 := (nI_eq (by omega) (by omega)).mp e2
          subst e2
          exact z28 k1))
    · skip
      refine wp_pure k_11 rfl rfl ?_
      refine wp_get k_11 rfl x0 x4 ?_
      refine wp_pure k_11 rfl rfl ?_
      refine wp_iv k_11 rfl [.int (nI i0)] rfl e0 (r := []) (Nat.le_of_ble_eq_true rfl) (Nat.le_of_ble_eq_true rfl) rfl ?_
      refine c_plN X (fun k9 hk9 e9 => ?_) (fun q => absurd ⟨i0, hi0, rfl⟩ q)
      have e9 := (nI_eq (by omega) (by omega)).mp e9
      subst e9
      refine ⟨rfl, ?_⟩
      refine wp_pure k_11 rfl rfl ?_
      refine wp_pure k_11 rfl rfl ?_
      refine wp_get k_11 rfl x0 x4 ?_
      refine wp_pure k_11 rfl rfl ?_
      refine wp_iv k_11 rfl [.int b] rfl e0 (r := []) (Nat.le_of_ble_eq_true rfl) (Nat.le_of_ble_eq_true rfl) rfl ?_
      refine c_plN X (fun k9 hk9 e9 => absurd ⟨k9, hk9, e9⟩ q2) (fun _ => ⟨rfl, ?_⟩)
      refine wp_pure k_11 rfl rfl ?_
      refine wp_pure k_11 rfl rfl ?_
      refine wp_br k_11 rfl rfl rfl rfl (fun _ => ?_) (fun z => absurd trivial z)
      refine wp_pure k_11 rfl rfl ?_
      refine wp_get k_11 rfl (hP i0 (by omega)).1 ((hP i0 (by omega)).2.1 1 (by decide)) ?_
      refine wp_kn k_11 rfl rfl ?_
      refine wp_br k_11 rfl rfl rfl rfl (fun (z28 : atP (cE σ).1 1 i0 = nI 1) => ?_) (fun (z28 : ¬ (atP (cE σ).1 1 i0 = nI 1)) => ?_)
      · refine wp_pure k_11 rfl rfl ?_
        refine wp_br k_11 rfl rfl rfl rfl (fun _ => ?_) (fun z => absurd trivial z)
        exact wp_th k_11 rfl (Kt (fun ⟨i9, j9, h1, h2, e1, e2, _⟩ => q2 ⟨j9, h2, e2⟩))
      · exact wp_th k_11 rfl (Kt (fun ⟨i9, j9, h1, h2, e1, e2, _⟩ => q2 ⟨j9, h2, e2⟩))
  · by_cases q2 : ∃ k, k < (cE σ).1.length ∧ b = nI k
    · obtain ⟨j0, hj0, rfl⟩ := q2
      refine wp_pure k_11 rfl rfl ?_
      refine wp_get k_11 rfl x0 x4 ?_
      refine wp_pure k_11 rfl rfl ?_
      refine wp_iv k_11 rfl [.int a] rfl e0 (r := []) (Nat.le_of_ble_eq_true rfl) (Nat.le_of_ble_eq_true rfl) rfl ?_
      refine c_plN X (fun k9 hk9 e9 => absurd ⟨k9, hk9, e9⟩ q1) (fun _ => ⟨rfl, ?_⟩)
      refine wp_pure k_11 rfl rfl ?_
      refine wp_pure k_11 rfl rfl ?_
      refine wp_get k_11 rfl x0 x4 ?_
      refine wp_pure k_11 rfl rfl ?_
      refine wp_iv k_11 rfl [.int (nI j0)] rfl e0 (r := []) (Nat.le_of_ble_eq_true rfl) (Nat.le_of_ble_eq_true rfl) rfl ?_
      refine c_plN X (fun k9 hk9 e9 => ?_) (fun q => absurd ⟨j0, hj0, rfl⟩ q)
      have e9 := (nI_eq (by omega) (by omega)).mp e9
      subst e9
      refine ⟨rfl, ?_⟩
      refine wp_pure k_11 rfl rfl ?_
      refine wp_pure k_11 rfl rfl ?_
      refine wp_br k_11 rfl rfl rfl rfl (fun _ => ?_) (fun z => absurd trivial z)
      exact wp_th k_11 rfl (Kt (fun ⟨i9, j9, h1, h2, e1, e2, _⟩ => q1 ⟨i9, h1, e1⟩))
    · skip
      refine wp_pure k_11 rfl rfl ?_
      refine wp_get k_11 rfl x0 x4 ?_
      refine wp_pure k_11 rfl rfl ?_
      refine wp_iv k_11 rfl [.int a] rfl e0 (r := []) (Nat.le_of_ble_eq_true rfl) (Nat.le_of_ble_eq_true rfl) rfl ?_
      refine c_plN X (fun k9 hk9 e9 => absurd ⟨k9, hk9, e9⟩ q1) (fun _ => ⟨rfl, ?_⟩)
      refine wp_pure k_11 rfl rfl ?_
      refine wp_pure k_11 rfl rfl ?_
      refine wp_get k_11 rfl x0 x4 ?_
      refine wp_pure k_11 rfl rfl ?_
      refine wp_iv k_11 rfl [.int b] rfl e0 (r := []) (Nat.le_of_ble_eq_true rfl) (Nat.le_of_ble_eq_true rfl) rfl ?_
      refine c_plN X (fun k9 hk9 e9 => absurd ⟨k9, hk9, e9⟩ q2) (fun _ => ⟨rfl, ?_⟩)
      refine wp_pure k_11 rfl rfl ?_
      refine wp_pure k_11 rfl rfl ?_
      refine wp_br k_11 rfl rfl rfl rfl (fun _ => ?_) (fun z => absurd trivial z)
      exact wp_th k_11 rfl (Kt (fun ⟨i9, j9, h1, h2, e1, e2, _⟩ => q1 ⟨i9, h1, e1⟩))
theorem c_moved {h : sm_H} {Q : Nat → Option Value → sm_H → Prop} {x : Nat} {σ : Sg} {P : Nat → Prop} (C : CR h x σ P) (S : SI σ) {a : Int32} (Kt : ¬ (∃ k, k < (sMv σ).length ∧ a = nI k) → Q 14 (some (.ref (hT h))) (thH h 13)) (K1 : ∀ k y, (sMv σ)[k]? = some y → a = nI k → Q 0 (some (.int (nI y))) h) : sm_wp 15 0 [.ref x, .int a] [] h Q := by
  obtain ⟨sg, eds, ee, go, ins, lf, ef, pl, pls, fnd, efd, ea, fa, fda, lo, hi, dk, rc, ex, c1, c2, c3, c4, c5, c6, c7, c8, c9⟩ := id C
  obtain ⟨x0, x1, x2, x3, x4, x5, x6, x7, x8⟩ := c1
  obtain ⟨E9, _, hE9, rE⟩ := c7.2 (sE σ) (by have := S.2.2.2.1; unfold sE; omega)
  have hE9 := hE9 rfl
  subst hE9
  obtain ⟨_, lp, ep, pa, bt, X, _⟩ := rE
  generalize ea (sE σ) = ed at *
  obtain ⟨⟨e0, e1, e2, e3⟩, l1, hP, hBt⟩ := id X
  have n6 : (cE σ).1.length ≤ 60 := S.2.2.2.2.2.1
  have nl : (sMv σ).length ≤ 60 := S.2.2.2.2.2.2.2.2.1
  by_cases z1 : a < 0
  · skip
    refine wp_pure k_15 rfl rfl ?_
    refine wp_br k_15 rfl rfl rfl rfl (fun _ => ?_) (fun z => absurd z1 z)
    exact wp_th k_15 rfl (Kt (fun ⟨k, hk, e⟩ => nI_pos (n := k) (by omega) (by rw [← e]; exact z1)))
  obtain ⟨k, hkb, rfl⟩ := nI_of z1
  by_cases hk : k < (sMv σ).length
  · have hf := c3.2 k _ (List.getElem?_eq_getElem hk)
    refine wp_pure k_15 rfl rfl ?_
    refine wp_br k_15 rfl rfl rfl rfl (fun z => absurd z z1) (fun _ => ?_)
    refine wp_pure k_15 rfl rfl ?_
    refine wp_pure k_15 rfl rfl ?_
    refine wp_get k_15 rfl x0 x8 ?_
    refine wp_iv k_15 rfl [] rfl c3.1.1 (r := [.int (nI k)]) (Nat.le_of_ble_eq_true rfl) (Nat.le_of_ble_eq_true rfl) rfl ?_
    refine c_size c3.1 ⟨rfl, ?_⟩
    refine wp_br k_15 rfl rfl rfl rfl (fun _ => ?_) (fun z => absurd ((nI_ltI hkb (by omega)).mpr hk) z)
    refine wp_pure k_15 rfl rfl ?_
    refine wp_get k_15 rfl x0 x8 ?_
    refine wp_pure k_15 rfl rfl ?_
    refine wp_iv k_15 rfl [.int (nI k)] rfl c3.1.1 (r := []) (Nat.le_of_ble_eq_true rfl) (Nat.le_of_ble_eq_true rfl) rfl ?_
    refine c_get c3.1 (by omega) ⟨rfl, ?_⟩
    refine wp_cc k_15 rfl hf.1 ?_
    refine wp_get k_15 rfl hf.1 hf.2 ?_
    exact wp_irt k_15 rfl rfl rfl (K1 k _ (List.getElem?_eq_getElem hk) rfl)
  · skip
    refine wp_pure k_15 rfl rfl ?_
    refine wp_br k_15 rfl rfl rfl rfl (fun z => absurd z z1) (fun _ => ?_)
    refine wp_pure k_15 rfl rfl ?_
    refine wp_pure k_15 rfl rfl ?_
    refine wp_get k_15 rfl x0 x8 ?_
    refine wp_iv k_15 rfl [] rfl c3.1.1 (r := [.int (nI k)]) (Nat.le_of_ble_eq_true rfl) (Nat.le_of_ble_eq_true rfl) rfl ?_
    refine c_size c3.1 ⟨rfl, ?_⟩
    refine wp_br k_15 rfl rfl rfl rfl (fun z => absurd z (fun q => hk ((nI_ltI hkb (by omega)).mp q))) (fun _ => ?_)
    exact wp_th k_15 rfl (Kt (fun ⟨k9, hk9, e⟩ => hk (by have := (nI_eq hkb (by omega)).mp e; omega)))
theorem c_at {h : sm_H} {Q : Nat → Option Value → sm_H → Prop} {x : Nat} {σ : Sg} {P : Nat → Prop} (C : CR h x σ P) (S : SI σ) {a : Int32} (Kt : ¬ (∃ k, k < (sPn σ).length ∧ a = nI k) → Q 14 (some (.ref (hT h))) (thH h 13)) (K1 : ∀ k y, (sPn σ)[k]? = some y → a = nI k → Q 0 (some (.int y)) h) : sm_wp 16 0 [.ref x, .int a, jk] [] h Q := by
  obtain ⟨sg, eds, ee, go, ins, lf, ef, pl, pls, fnd, efd, ea, fa, fda, lo, hi, dk, rc, ex, c1, c2, c3, c4, c5, c6, c7, c8, c9⟩ := id C
  obtain ⟨x0, x1, x2, x3, x4, x5, x6, x7, x8⟩ := c1
  obtain ⟨E9, _, hE9, rE⟩ := c7.2 (sE σ) (by have := S.2.2.2.1; unfold sE; omega)
  have hE9 := hE9 rfl
  subst hE9
  obtain ⟨_, lp, ep, pa, bt, X, _⟩ := rE
  generalize ea (sE σ) = ed at *
  obtain ⟨⟨e0, e1, e2, e3⟩, l1, hP, hBt⟩ := id X
  have n6 : (cE σ).1.length ≤ 60 := S.2.2.2.2.2.1
  have nl : (sPn σ).length ≤ 820 := S.2.2.2.2.2.2.2.2.2.2.1
  by_cases z1 : a < 0
  · skip
    refine wp_pure k_16 rfl rfl ?_
    refine wp_get k_16 rfl x0 x7 ?_
    refine wp_pure k_16 rfl rfl ?_
    refine wp_iv k_16 rfl [.int a] rfl c4.1 (r := []) (Nat.le_of_ble_eq_true rfl) (Nat.le_of_ble_eq_true rfl) rfl ?_
    refine wp_pure k_46 rfl rfl ?_
    refine wp_br k_46 rfl rfl rfl rfl (fun _ => ?_) (fun z => absurd z1 z)
    refine wp_km k_46 rfl rfl ?_
    refine wp_irt k_46 rfl rfl rfl ⟨rfl, ?_⟩
    refine wp_pure k_16 rfl rfl ?_
    refine wp_pure k_16 rfl rfl ?_
    refine wp_km k_16 rfl rfl ?_
    refine wp_br k_16 rfl rfl rfl rfl (fun z => absurd rfl z) (fun _ => ?_)
    exact wp_th k_16 rfl (Kt (fun ⟨k, hk, e⟩ => nI_pos (n := k) (by omega) (by rw [← e]; exact z1)))
  obtain ⟨k, hkb, rfl⟩ := nI_of z1
  by_cases hk : k < (sPn σ).length
  · have hne : ¬ (sPn σ)[k] = -1 := by
      obtain ⟨d, hd, e⟩ := S.2.2.2.2.2.2.2.2.2.2.2.1 _ (List.getElem_mem hk)
      rw [e]
      exact nI_nm1 (by omega)
    refine wp_pure k_16 rfl rfl ?_
    refine wp_get k_16 rfl x0 x7 ?_
    refine wp_pure k_16 rfl rfl ?_
    refine wp_iv k_16 rfl [.int (nI k)] rfl c4.1 (r := []) (Nat.le_of_ble_eq_true rfl) (Nat.le_of_ble_eq_true rfl) rfl ?_
    refine wp_pure k_46 rfl rfl ?_
    refine wp_br k_46 rfl rfl rfl rfl (fun z => absurd z z1) (fun _ => ?_)
    refine wp_pure k_46 rfl rfl ?_
    refine wp_pure k_46 rfl rfl ?_
    refine wp_get k_46 rfl c4.1 c4.2.2.1 ?_
    refine wp_br k_46 rfl rfl rfl rfl (fun z => absurd z (nI_ge hk (by omega))) (fun _ => ?_)
    refine wp_pure k_46 rfl rfl ?_
    refine wp_get k_46 rfl c4.1 c4.2.1 ?_
    refine wp_pure k_46 rfl rfl ?_
    refine wp_cald k_46 rfl (cTy c4.2.2.2.1 rfl) (nLt c4.2.2.2.2.1 (show k < 820 by omega)) (nLb c4.2.2.2.2.1 (by omega)) (c4.2.2.2.2.2 k _ (List.getElem?_eq_getElem hk)) ?_
    refine wp_br k_46 rfl rfl rfl rfl (fun _ => ?_) (fun z => absurd trivial z)
    refine wp_irt k_46 rfl rfl rfl ⟨rfl, ?_⟩
    refine wp_pure k_16 rfl rfl ?_
    refine wp_pure k_16 rfl rfl ?_
    refine wp_km k_16 rfl rfl ?_
    refine wp_br k_16 rfl rfl rfl rfl (fun _ => ?_) (fun z => absurd hne z)
    refine wp_pure k_16 rfl rfl ?_
    exact wp_irt k_16 rfl rfl rfl (K1 k _ (List.getElem?_eq_getElem hk) rfl)
  · skip
    refine wp_pure k_16 rfl rfl ?_
    refine wp_get k_16 rfl x0 x7 ?_
    refine wp_pure k_16 rfl rfl ?_
    refine wp_iv k_16 rfl [.int (nI k)] rfl c4.1 (r := []) (Nat.le_of_ble_eq_true rfl) (Nat.le_of_ble_eq_true rfl) rfl ?_
    refine wp_pure k_46 rfl rfl ?_
    refine wp_br k_46 rfl rfl rfl rfl (fun z => absurd z z1) (fun _ => ?_)
    refine wp_pure k_46 rfl rfl ?_
    refine wp_pure k_46 rfl rfl ?_
    refine wp_get k_46 rfl c4.1 c4.2.2.1 ?_
    refine wp_br k_46 rfl rfl rfl rfl (fun _ => ?_) (fun z => absurd ((nI_leI (by omega) hkb).mpr (by omega)) z)
    refine wp_km k_46 rfl rfl ?_
    refine wp_irt k_46 rfl rfl rfl ⟨rfl, ?_⟩
    refine wp_pure k_16 rfl rfl ?_
    refine wp_pure k_16 rfl rfl ?_
    refine wp_km k_16 rfl rfl ?_
    refine wp_br k_16 rfl rfl rfl rfl (fun z => absurd rfl z) (fun _ => ?_)
    exact wp_th k_16 rfl (Kt (fun ⟨k9, hk9, e⟩ => hk (by have := (nI_eq hkb (by omega)).mp e; omega)))
