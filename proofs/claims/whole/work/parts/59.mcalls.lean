/-! the reference's calls upon the state -/
theorem MR.code {g : Nat → Int32} {ar : Nat → Nat → Int32} {σ : Sg} (R : MR g ar σ) {v : Int32} : MR (uF g 0 v) ar σ := R.same ⟨uF_ne (by decide), uF_ne (by decide), uF_ne (by decide), uF_ne (by decide), uF_ne (by decide), uF_ne (by decide)⟩ (fun _ _ => rfl)
theorem MR.hx {g : Nat → Int32} {ar : Nat → Nat → Int32} {σ : Sg} (R : MR g ar σ) {x : Nat} (h : x ≤ sE σ) : x < (sEd σ).length := by
  have := R.2.1.2.1
  unfold sE at h
  omega
theorem MR.fl {g : Nat → Int32} {ar : Nat → Nat → Int32} {σ : Sg} (R : MR g ar σ) {x k : Nat} {u : Int32} (hk : k < 60) : MR g (uA ar 13 (60 * x + k) u) (flS σ x k u) := by
  have ha : ∀ j, j ≠ 13 → uA ar 13 (60 * x + k) u j = ar j := fun j hj => uA_ne hj
  obtain ⟨h1, h2, h3, h4, h5, h6, h7, h8, h9⟩ := R
  refine ⟨⟨h1.1, h1.2.1, fun i hi => by rw [ha 1 (by decide)]; exact h1.2.2 i hi⟩, h2, fun e ps he => ?_, fun k P hk => ?_, ⟨h5.1, fun i a b t hi => ?_⟩, ⟨h6.1, fun i a b hi => ?_⟩, h7, ⟨h8.1, h8.2.1, fun i k hi => by rw [ha 44 (by decide)]; exact h8.2.2 i k hi⟩, ⟨h9.1, h9.2.1, fun i k hi => by rw [ha 46 (by decide)]; exact h9.2.2 i k hi⟩⟩
  · obtain ⟨q1, q2, q3⟩ := h3 e ps he
    refine ⟨q1, by rw [ha 4 (by decide)]; exact q2, fun k' P hk' => ?_⟩
    obtain ⟨z1, z2⟩ := q3 k' P hk'
    have hlt := (List.getElem?_eq_some_iff.mp hk').1
    refine ⟨?_, ?_⟩
    · unfold KA
      rw [ha 5 (by decide), ha 6 (by decide), ha 7 (by decide), ha 8 (by decide), ha 9 (by decide), ha 10 (by decide), ha 11 (by decide), ha 12 (by decide)]
      exact z1
    · show _ = (if e = x ∧ k' = k then u else sUn σ e k')
      by_cases q : e = x ∧ k' = k
      · rw [if_pos q, q.1, q.2]; exact uA_at
      · rw [if_neg q, uA_nn (by omega)]; exact z2
  · rw [ha 21 (by decide), ha 22 (by decide)]; exact h4 k P hk
  · rw [ha 15 (by decide), ha 16 (by decide), ha 17 (by decide)]; exact h5.2 i a b t hi
  · rw [ha 19 (by decide), ha 20 (by decide)]; exact h6.2 i a b hi
theorem MR.df {g g' : Nat → Int32} {ar ar' : Nat → Nat → Int32} {σ : Sg} (R : MR g ar σ) {l : List Nat} (hg : ∀ k, k ≠ 45 → k ≠ 0 → g' k = g k) (ha : ∀ k, k ≠ 44 → ar' k = ar k) (h1 : g' 45 = nI l.length) (h2 : l.length ≤ 60) (h3 : ∀ (i k : Nat), l[i]? = some k → ar' 44 i = nI k) : MR g' ar' (dfS σ l) := by
  have R1 : MR g' ar' σ → MR g' ar' (dfS σ l) := fun h => ⟨h.1, h.2.1, h.2.2.1, h.2.2.2.1, h.2.2.2.2.1, h.2.2.2.2.2.1, h.2.2.2.2.2.2.1, ⟨h1, h2, h3⟩, h.2.2.2.2.2.2.2.2⟩
  obtain ⟨a1, a2, a3, a4, a5, a6, a7, a8, a9⟩ := R
  -- the rest as it was
  have e2 := hg 2 (by decide) (by decide)
  have e3 := hg 3 (by decide) (by decide)
  have e14 := hg 14 (by decide) (by decide)
  have e18 := hg 18 (by decide) (by decide)
  have e47 := hg 47 (by decide) (by decide)
  refine ⟨⟨e2.trans a1.1, a1.2.1, fun i hi => by rw [ha 1 (by decide)]; exact a1.2.2 i hi⟩, ⟨e3.trans a2.1, a2.2⟩, fun e ps he => ?_, fun k P hk => ?_, ⟨e14.trans a5.1, fun i a b t hi => ?_⟩, ⟨e18.trans a6.1, fun i a b hi => ?_⟩, a7, ⟨h1, h2, h3⟩, ⟨e47.trans a9.1, a9.2.1, fun i k hi => by rw [ha 46 (by decide)]; exact a9.2.2 i k hi⟩⟩
  · obtain ⟨q1, q2, q3⟩ := a3 e ps he
    refine ⟨q1, by rw [ha 4 (by decide)]; exact q2, fun k P hk => ?_⟩
    unfold KA
    rw [ha 5 (by decide), ha 6 (by decide), ha 7 (by decide), ha 8 (by decide), ha 9 (by decide), ha 10 (by decide), ha 11 (by decide), ha 12 (by decide), ha 13 (by decide)]
    exact q3 k P hk
  · rw [ha 21 (by decide), ha 22 (by decide)]; exact a4 k P hk
  · rw [ha 15 (by decide), ha 16 (by decide), ha 17 (by decide)]; exact a5.2 i a b t hi
  · rw [ha 19 (by decide), ha 20 (by decide)]; exact a6.2 i a b hi
theorem MR.pr {g g' : Nat → Int32} {ar ar' : Nat → Nat → Int32} {σ : Sg} (R : MR g ar σ) {l : List Int32} (hg : ∀ k, k ≠ 47 → k ≠ 0 → g' k = g k) (ha : ∀ k, k ≠ 46 → ar' k = ar k) (h1 : g' 47 = nI l.length) (h2 : l.length ≤ 820) (h3 : ∀ (i : Nat) c, l[i]? = some c → ar' 46 i = c) : MR g' ar' (prS σ l) := by
  obtain ⟨a1, a2, a3, a4, a5, a6, a7, a8, a9⟩ := R
  have e2 := hg 2 (by decide) (by decide)
  have e3 := hg 3 (by decide) (by decide)
  have e14 := hg 14 (by decide) (by decide)
  have e18 := hg 18 (by decide) (by decide)
  have e45 := hg 45 (by decide) (by decide)
  refine ⟨⟨e2.trans a1.1, a1.2.1, fun i hi => by rw [ha 1 (by decide)]; exact a1.2.2 i hi⟩, ⟨e3.trans a2.1, a2.2⟩, fun e ps he => ?_, fun k P hk => ?_, ⟨e14.trans a5.1, fun i a b t hi => ?_⟩, ⟨e18.trans a6.1, fun i a b hi => ?_⟩, a7, ⟨e45.trans a8.1, a8.2.1, fun i k hi => by rw [ha 44 (by decide)]; exact a8.2.2 i k hi⟩, ⟨h1, h2, h3⟩⟩
  · obtain ⟨q1, q2, q3⟩ := a3 e ps he
    refine ⟨q1, by rw [ha 4 (by decide)]; exact q2, fun k P hk => ?_⟩
    unfold KA
    rw [ha 5 (by decide), ha 6 (by decide), ha 7 (by decide), ha 8 (by decide), ha 9 (by decide), ha 10 (by decide), ha 11 (by decide), ha 12 (by decide), ha 13 (by decide)]
    exact q3 k P hk
  · rw [ha 21 (by decide), ha 22 (by decide)]; exact a4 k P hk
  · rw [ha 15 (by decide), ha 16 (by decide), ha 17 (by decide)]; exact a5.2 i a b t hi
  · rw [ha 19 (by decide), ha 20 (by decide)]; exact a6.2 i a b hi
theorem m_fill {h0 h : sm_H} {m : Nat} {g : Nat → Int32} {ar : Nat → Nat → Int32} {Q : Nat → Option Value → sm_H → Prop} {σ : Sg} (M : MS h0 h m g ar) (R : MR g ar σ) {a b c : Int32} (K1 : ∀ x k u, x ≤ sE σ → k < (edP σ x).length → u ≤ 99 → a = nI x → b = nI k → c = nI u → atP (edP σ x) 1 k = nI 1 → ∀ h' g' ar', MS h0 h' m g' ar' → g' 0 = nI 0 → MR g' ar' (flS σ x k (nI u)) → Q 0 none h') (K0 : ¬ (∃ x k u, x ≤ sE σ ∧ k < (edP σ x).length ∧ u ≤ 99 ∧ a = nI x ∧ b = nI k ∧ c = nI u ∧ atP (edP σ x) 1 k = nI 1) → ∀ h' g', MS h0 h' m g' ar → g' 0 = nI 1 → MR g' ar σ → Q 0 none h') : sm_wp 131 0 [.ref m, .int a, .int b, .int c, jk] [] h Q := by
  have hE : sE σ ≤ 7 := by have := R.2.1.2.2; unfold sE; omega
  by_cases z1 : nI 0 ≤ a ∧ a ≤ nI (sE σ)
  · obtain ⟨x, hx0, rfl⟩ := in_c (by omega) z1
    have hx := R.hx hx0
    have hlen := (R.ed hx).1
    by_cases z3 : nI 0 ≤ c ∧ c ≤ nI 99
    · obtain ⟨u, hu, rfl⟩ := in_c (by decide) z3
      by_cases z2 : nI 0 ≤ b ∧ b ≤ nI (edP σ x).length - nI 1
      · obtain ⟨k, hk, rfl⟩ := in_y (by omega) z2
        refine wp_pure k_131 rfl rfl ?_
        refine wp_pure k_131 rfl rfl ?_
        refine wm_iv k_131 rfl rfl M [.int (nI x)] rfl (r := []) (Nat.le_of_ble_eq_true rfl) (Nat.le_of_ble_eq_true rfl) rfl ?_
        refine wp_pure k_132 rfl rfl ?_
        refine wp_kn k_132 rfl rfl ?_
        refine wp_pure k_132 rfl rfl ?_
        refine wm_gi 3 M k_132 rfl rfl rfl rfl R.2.1.1 ?_
        refine wp_is k_132 rfl (by decide) [.int (nI x), .int (nI 0), .int (nI (sE σ))] rfl (r := []) (Nat.le_of_ble_eq_true rfl) (Nat.le_of_ble_eq_true rfl) rfl ?_
        refine m_in (fun _ => ⟨rfl, ?_⟩) (fun z => absurd z1 z)
        refine wp_irt k_132 rfl rfl rfl ⟨rfl, ?_⟩
        refine wp_br k_131 rfl rfl rfl rfl (fun z => absurd z (show ¬ ((nI 1 : Int32) = 0) by decide)) (fun _ => ?_)
        refine wp_pure k_131 rfl rfl ?_
        refine wp_kn k_131 rfl rfl ?_
        refine wp_kn k_131 rfl rfl ?_
        refine wp_is k_131 rfl (by decide) [.int (nI u), .int (nI 0), .int (nI 99)] rfl (r := []) (Nat.le_of_ble_eq_true rfl) (Nat.le_of_ble_eq_true rfl) rfl ?_
        refine m_in (fun _ => ⟨rfl, ?_⟩) (fun z => absurd z3 z)
        refine wp_br k_131 rfl rfl rfl rfl (fun z => absurd z (show ¬ ((nI 1 : Int32) = 0) by decide)) (fun _ => ?_)
        refine wp_kn k_131 rfl rfl ?_
        refine wp_br k_131 rfl rfl rfl rfl (fun _ => ?_) (fun z => absurd trivial z)
        refine wp_pure k_131 rfl rfl ?_
        refine wp_pure k_131 rfl rfl ?_
        refine wp_br k_131 rfl rfl rfl rfl (fun z => absurd z (show ¬ ((nI 1 : Int32) = 0) by decide)) (fun _ => ?_)
        refine wp_pure k_131 rfl rfl ?_
        refine wp_kn k_131 rfl rfl ?_
        refine wp_pure k_131 rfl rfl ?_
        refine wm_ga 4 M k_131 rfl rfl rfl (by decide) ?_
        refine wp_pure k_131 rfl rfl ?_
        refine wm_al 4 M k_131 rfl rfl (by decide) rfl (show x < 8 by omega) (v := nI (edP σ x).length) (R.ed hx).2.1 ?_
        refine wp_kn k_131 rfl rfl ?_
        refine wp_isub k_131 rfl ?_
        refine wp_is k_131 rfl (by decide) [.int (nI k), .int (nI 0), .int ((nI (edP σ x).length) - (nI 1))] rfl (r := []) (Nat.le_of_ble_eq_true rfl) (Nat.le_of_ble_eq_true rfl) rfl ?_
        refine m_in (fun _ => ⟨rfl, ?_⟩) (fun z => absurd z2 z)
        refine wp_pure k_131 rfl rfl ?_
        refine wp_pure k_131 rfl rfl ?_
        refine wp_br k_131 rfl rfl rfl rfl (fun z => absurd z (show ¬ ((nI 1 : Int32) = 0) by decide)) (fun _ => ?_)
        refine wp_pure k_131 rfl rfl ?_
        refine wm_ga 5 M k_131 rfl rfl rfl (by decide) ?_
        refine wp_kn k_131 rfl rfl ?_
        refine wp_pure k_131 rfl rfl ?_
        refine wp_mulN k_131 rfl ?_
        refine wp_pure k_131 rfl rfl ?_
        refine wp_addN k_131 rfl ?_
        refine wm_al 5 M k_131 rfl rfl (by decide) rfl (show (60 * x) + k < 480 by omega) (v := atP (edP σ x) 1 k) ((R.ed hx).2.2 k hk).1.2.1 ?_
        refine wp_kn k_131 rfl rfl ?_
        refine wp_br k_131 rfl rfl rfl rfl (fun (z62 : ¬ atP (edP σ x) 1 k = nI 1) => ?_) (fun (z62 : ¬ (¬ atP (edP σ x) 1 k = nI 1)) => ?_)
        · refine wp_kn k_131 rfl rfl ?_
          refine wp_pure k_131 rfl rfl ?_
          refine wp_pure k_131 rfl rfl ?_
          refine wp_pure k_131 rfl rfl ?_
          refine wp_br k_131 rfl rfl rfl rfl (fun _ => ?_) (fun z => absurd (show (nI 0 : Int32) = 0 by decide) z)
          refine wp_kn k_131 rfl rfl ?_
          refine wm_pi 0 M k_131 rfl rfl rfl rfl rfl rfl (fun h4 M4 => ?_)
          refine wp_pure k_131 rfl rfl ?_
          refine wp_br k_131 rfl rfl rfl rfl (fun _ => ?_) (fun z => absurd (show (nI 0 : Int32) = 0 by decide) z)
          exact wp_vrt k_131 rfl rfl (K0 (fun ⟨x9, k9, u9, h1, h2, h3, e1, e2, e3, q⟩ => by
            have e1 := (nI_eq (by omega) (by omega)).mp e1
            subst e1
            have e2 := (nI_eq (by omega) (by omega)).mp e2
            subst e2
            exact z62 q) _ _ M4 uF_at R.code)
        · refine wp_kn k_131 rfl rfl ?_
          refine wp_br k_131 rfl rfl rfl rfl (fun _ => ?_) (fun z => absurd trivial z)
          refine wp_pure k_131 rfl rfl ?_
          refine wp_pure k_131 rfl rfl ?_
          refine wp_pure k_131 rfl rfl ?_
          refine wp_br k_131 rfl rfl rfl rfl (fun z => absurd z (show ¬ ((nI 1 : Int32) = 0) by decide)) (fun _ => ?_)
          refine wp_kn k_131 rfl rfl ?_
          refine wp_br k_131 rfl rfl rfl rfl (fun _ => ?_) (fun z => absurd trivial z)
          refine wm_pi 0 M k_131 rfl rfl rfl rfl rfl rfl (fun h5 M5 => ?_)
          refine wp_pure k_131 rfl rfl ?_
          refine wp_br k_131 rfl rfl rfl rfl (fun z => absurd z (show ¬ ((nI 1 : Int32) = 0) by decide)) (fun _ => ?_)
          refine wp_pure k_131 rfl rfl ?_
          refine wm_ga 13 M5 k_131 rfl rfl rfl (by decide) ?_
          refine wp_kn k_131 rfl rfl ?_
          refine wp_pure k_131 rfl rfl ?_
          refine wp_mulN k_131 rfl ?_
          refine wp_pure k_131 rfl rfl ?_
          refine wp_addN k_131 rfl ?_
          refine wp_pure k_131 rfl rfl ?_
          refine wm_as 13 M5 k_131 rfl rfl (by decide) rfl (show (60 * x) + k < 480 by omega) (fun h6 M6 => ?_)
          exact wp_vrt k_131 rfl rfl (K1 x k u hx0 hk hu rfl rfl rfl (Classical.not_not.mp z62) _ _ _ M6 uF_at (R.code.fl (by omega)))
      · skip
        refine wp_pure k_131 rfl rfl ?_
        refine wp_pure k_131 rfl rfl ?_
        refine wm_iv k_131 rfl rfl M [.int (nI x)] rfl (r := []) (Nat.le_of_ble_eq_true rfl) (Nat.le_of_ble_eq_true rfl) rfl ?_
        refine wp_pure k_132 rfl rfl ?_
        refine wp_kn k_132 rfl rfl ?_
        refine wp_pure k_132 rfl rfl ?_
        refine wm_gi 3 M k_132 rfl rfl rfl rfl R.2.1.1 ?_
        refine wp_is k_132 rfl (by decide) [.int (nI x), .int (nI 0), .int (nI (sE σ))] rfl (r := []) (Nat.le_of_ble_eq_true rfl) (Nat.le_of_ble_eq_true rfl) rfl ?_
        refine m_in (fun _ => ⟨rfl, ?_⟩) (fun z => absurd z1 z)
        refine wp_irt k_132 rfl rfl rfl ⟨rfl, ?_⟩
        refine wp_br k_131 rfl rfl rfl rfl (fun z => absurd z (show ¬ ((nI 1 : Int32) = 0) by decide)) (fun _ => ?_)
        refine wp_pure k_131 rfl rfl ?_
        refine wp_kn k_131 rfl rfl ?_
        refine wp_kn k_131 rfl rfl ?_
        refine wp_is k_131 rfl (by decide) [.int (nI u), .int (nI 0), .int (nI 99)] rfl (r := []) (Nat.le_of_ble_eq_true rfl) (Nat.le_of_ble_eq_true rfl) rfl ?_
        refine m_in (fun _ => ⟨rfl, ?_⟩) (fun z => absurd z3 z)
        refine wp_br k_131 rfl rfl rfl rfl (fun z => absurd z (show ¬ ((nI 1 : Int32) = 0) by decide)) (fun _ => ?_)
        refine wp_kn k_131 rfl rfl ?_
        refine wp_br k_131 rfl rfl rfl rfl (fun _ => ?_) (fun z => absurd trivial z)
        refine wp_pure k_131 rfl rfl ?_
        refine wp_pure k_131 rfl rfl ?_
        refine wp_br k_131 rfl rfl rfl rfl (fun z => absurd z (show ¬ ((nI 1 : Int32) = 0) by decide)) (fun _ => ?_)
        refine wp_pure k_131 rfl rfl ?_
        refine wp_kn k_131 rfl rfl ?_
        refine wp_pure k_131 rfl rfl ?_
        refine wm_ga 4 M k_131 rfl rfl rfl (by decide) ?_
        refine wp_pure k_131 rfl rfl ?_
        refine wm_al 4 M k_131 rfl rfl (by decide) rfl (show x < 8 by omega) (v := nI (edP σ x).length) (R.ed hx).2.1 ?_
        refine wp_kn k_131 rfl rfl ?_
        refine wp_isub k_131 rfl ?_
        refine wp_is k_131 rfl (by decide) [.int b, .int (nI 0), .int ((nI (edP σ x).length) - (nI 1))] rfl (r := []) (Nat.le_of_ble_eq_true rfl) (Nat.le_of_ble_eq_true rfl) rfl ?_
        refine m_in (fun z => absurd z z2) (fun _ => ⟨rfl, ?_⟩)
        refine wp_pure k_131 rfl rfl ?_
        refine wp_pure k_131 rfl rfl ?_
        refine wp_br k_131 rfl rfl rfl rfl (fun _ => ?_) (fun z => absurd (show (nI 0 : Int32) = 0 by decide) z)
        refine wp_pure k_131 rfl rfl ?_
        refine wp_pure k_131 rfl rfl ?_
        refine wp_br k_131 rfl rfl rfl rfl (fun _ => ?_) (fun z => absurd (show (nI 0 : Int32) = 0 by decide) z)
        refine wp_kn k_131 rfl rfl ?_
        refine wm_pi 0 M k_131 rfl rfl rfl rfl rfl rfl (fun h4 M4 => ?_)
        refine wp_pure k_131 rfl rfl ?_
        refine wp_br k_131 rfl rfl rfl rfl (fun _ => ?_) (fun z => absurd (show (nI 0 : Int32) = 0 by decide) z)
        exact wp_vrt k_131 rfl rfl (K0 (fun ⟨x9, k9, u9, h1, h2, h3, e1, e2, e3, q⟩ => by
          have e1 := (nI_eq (by omega) (by omega)).mp e1
          subst e1
          exact z2 (by rw [e2]; exact in_n (by omega) h2)) _ _ M4 uF_at R.code)
    · skip
      refine wp_pure k_131 rfl rfl ?_
      refine wp_pure k_131 rfl rfl ?_
      refine wm_iv k_131 rfl rfl M [.int (nI x)] rfl (r := []) (Nat.le_of_ble_eq_true rfl) (Nat.le_of_ble_eq_true rfl) rfl ?_
      refine wp_pure k_132 rfl rfl ?_
      refine wp_kn k_132 rfl rfl ?_
      refine wp_pure k_132 rfl rfl ?_
      refine wm_gi 3 M k_132 rfl rfl rfl rfl R.2.1.1 ?_
      refine wp_is k_132 rfl (by decide) [.int (nI x), .int (nI 0), .int (nI (sE σ))] rfl (r := []) (Nat.le_of_ble_eq_true rfl) (Nat.le_of_ble_eq_true rfl) rfl ?_
      refine m_in (fun _ => ⟨rfl, ?_⟩) (fun z => absurd z1 z)
      refine wp_irt k_132 rfl rfl rfl ⟨rfl, ?_⟩
      refine wp_br k_131 rfl rfl rfl rfl (fun z => absurd z (show ¬ ((nI 1 : Int32) = 0) by decide)) (fun _ => ?_)
      refine wp_pure k_131 rfl rfl ?_
      refine wp_kn k_131 rfl rfl ?_
      refine wp_kn k_131 rfl rfl ?_
      refine wp_is k_131 rfl (by decide) [.int c, .int (nI 0), .int (nI 99)] rfl (r := []) (Nat.le_of_ble_eq_true rfl) (Nat.le_of_ble_eq_true rfl) rfl ?_
      refine m_in (fun z => absurd z z3) (fun _ => ⟨rfl, ?_⟩)
      refine wp_br k_131 rfl rfl rfl rfl (fun _ => ?_) (fun z => absurd (show (nI 0 : Int32) = 0 by decide) z)
      refine wp_kn k_131 rfl rfl ?_
      refine wp_pure k_131 rfl rfl ?_
      refine wp_pure k_131 rfl rfl ?_
      refine wp_br k_131 rfl rfl rfl rfl (fun _ => ?_) (fun z => absurd (show (nI 0 : Int32) = 0 by decide) z)
      refine wp_pure k_131 rfl rfl ?_
      refine wp_br k_131 rfl rfl rfl rfl (fun _ => ?_) (fun z => absurd (show (nI 0 : Int32) = 0 by decide) z)
      refine wp_pure k_131 rfl rfl ?_
      refine wp_pure k_131 rfl rfl ?_
      refine wp_br k_131 rfl rfl rfl rfl (fun _ => ?_) (fun z => absurd (show (nI 0 : Int32) = 0 by decide) z)
      refine wp_kn k_131 rfl rfl ?_
      refine wm_pi 0 M k_131 rfl rfl rfl rfl rfl rfl (fun h3 M3 => ?_)
      refine wp_pure k_131 rfl rfl ?_
      refine wp_br k_131 rfl rfl rfl rfl (fun _ => ?_) (fun z => absurd (show (nI 0 : Int32) = 0 by decide) z)
      exact wp_vrt k_131 rfl rfl (K0 (fun ⟨x9, k9, u9, h1, h2, h3, e1, e2, e3, q⟩ => z3 (by rw [e3]; exact in_d (by decide) h3)) _ _ M3 uF_at R.code)
  · skip
    refine wp_pure k_131 rfl rfl ?_
    refine wp_pure k_131 rfl rfl ?_
    refine wm_iv k_131 rfl rfl M [.int a] rfl (r := []) (Nat.le_of_ble_eq_true rfl) (Nat.le_of_ble_eq_true rfl) rfl ?_
    refine wp_pure k_132 rfl rfl ?_
    refine wp_kn k_132 rfl rfl ?_
    refine wp_pure k_132 rfl rfl ?_
    refine wm_gi 3 M k_132 rfl rfl rfl rfl R.2.1.1 ?_
    refine wp_is k_132 rfl (by decide) [.int a, .int (nI 0), .int (nI (sE σ))] rfl (r := []) (Nat.le_of_ble_eq_true rfl) (Nat.le_of_ble_eq_true rfl) rfl ?_
    refine m_in (fun z => absurd z z1) (fun _ => ⟨rfl, ?_⟩)
    refine wp_irt k_132 rfl rfl rfl ⟨rfl, ?_⟩
    refine wp_br k_131 rfl rfl rfl rfl (fun _ => ?_) (fun z => absurd (show (nI 0 : Int32) = 0 by decide) z)
    refine wp_kn k_131 rfl rfl ?_
    refine wp_pure k_131 rfl rfl ?_
    refine wp_pure k_131 rfl rfl ?_
    refine wp_br k_131 rfl rfl rfl rfl (fun _ => ?_) (fun z => absurd (show (nI 0 : Int32) = 0 by decide) z)
    refine wp_pure k_131 rfl rfl ?_
    refine wp_br k_131 rfl rfl rfl rfl (fun _ => ?_) (fun z => absurd (show (nI 0 : Int32) = 0 by decide) z)
    refine wp_pure k_131 rfl rfl ?_
    refine wp_pure k_131 rfl rfl ?_
    refine wp_br k_131 rfl rfl rfl rfl (fun _ => ?_) (fun z => absurd (show (nI 0 : Int32) = 0 by decide) z)
    refine wp_kn k_131 rfl rfl ?_
    refine wm_pi 0 M k_131 rfl rfl rfl rfl rfl rfl (fun h2 M2 => ?_)
    refine wp_pure k_131 rfl rfl ?_
    refine wp_br k_131 rfl rfl rfl rfl (fun _ => ?_) (fun z => absurd (show (nI 0 : Int32) = 0 by decide) z)
    exact wp_vrt k_131 rfl rfl (K0 (fun ⟨x9, k9, u9, h1, h2, h3, e1, e2, e3, q⟩ => z1 (by rw [e1]; exact in_d (by omega) h1)) _ _ M2 uF_at R.code)
theorem m_isKept {h0 h : sm_H} {m : Nat} {g : Nat → Int32} {ar : Nat → Nat → Int32} {Q : Nat → Option Value → sm_H → Prop} {E : Ed} {e : Nat} (M : MS h0 h m g ar) (V : MV g ar E e) (hW : EdW E) {od : List Pl} {x i : Nat} (hx : x ≤ 7) (hol : od.length ≤ 60) (hod : EdW (od, [], [])) (hO : ∀ k, k < od.length → ar 6 (60 * x + k) = atP od 0 k ∧ ar 5 (60 * x + k) = atP od 1 k ∧ ar 7 (60 * x + k) = atP od 2 k ∧ ar 8 (60 * x + k) = atP od 3 k ∧ ar 9 (60 * x + k) = atP od 4 k ∧ ar 10 (60 * x + k) = atP od 5 k ∧ ar 11 (60 * x + k) = atP od 6 k ∧ ar 12 (60 * x + k) = atP od 7 k) (hi : i < od.length) (hb : atP od 1 i = nI 1) (K1 : kepE E.1 od i → Q 0 (some (.int (nI 1))) h) (K0 : ¬ kepE E.1 od i → Q 0 (some (.int (nI 0))) h) : sm_wp 134 0 [.ref m, .int (nI x), .int (nI i), jk, jk, jk] [] h Q := by
  have he := V.he
  have hn := V.hn
  have hl := V.hl
  obtain ⟨r2, hr2, hr2l, _⟩ := hod.of1 (k := i) hi hb
  have hr2 : atP od 7 i = nI r2 := hr2
  have hr2l : r2 < od.length := hr2l
  have ho2 : rO od i = r2 := by unfold rO; rw [hr2]; exact nI_clamp (by omega)
  refine wp_kn k_134 rfl rfl ?_
  refine wp_pure k_134 rfl rfl ?_
  refine wp_mulN k_134 rfl ?_
  refine wp_pure k_134 rfl rfl ?_
  refine wp_addN k_134 rfl ?_
  refine wp_pure k_134 rfl rfl ?_
  refine wp_kn k_134 rfl rfl ?_
  refine wp_pure k_134 rfl rfl ?_
  refine dn (n := E.1.length) (P := fun k => ∀ (x5 : Value), (∀ j, j < k → ¬ (atP E.1 1 j = nI 1 ∧ atP E.1 0 j = atP od 0 i ∧ atP E.1 6 j = atP od 6 i ∧ atP E.1 2 j = atP od 2 i ∧ atP E.1 3 j = atP od 3 i ∧ atP E.1 4 j = atP od 4 i ∧ atP E.1 5 j = atP od 5 i ∧ rkN E.1 j = rkN od i)) → sm_wp 134 10 [.ref m, .int (nI x), .int (nI i), .int (nI ((60 * x) + i)), .int (nI k), x5] [] h Q) ?_ ?_ 0 (Nat.zero_le _) (jk) (fun j hj => absurd hj (Nat.not_lt_zero j))
  · intro x5 hI
    refine wp_pure k_134 rfl rfl ?_
    refine wp_pure k_134 rfl rfl ?_
    refine wm_iv k_134 rfl rfl M [] rfl (r := [.int (nI (E.1.length))]) (Nat.le_of_ble_eq_true rfl) (Nat.le_of_ble_eq_true rfl) rfl ?_
    refine wp_pure k_109 rfl rfl ?_
    refine wm_ga 4 M k_109 rfl rfl rfl (by decide) ?_
    refine wp_pure k_109 rfl rfl ?_
    refine wm_gi 3 M k_109 rfl rfl rfl rfl V.h3 ?_
    refine wm_al 4 M k_109 rfl rfl (by decide) rfl (show e < 8 by omega) (v := nI E.1.length) V.n4 ?_
    refine wp_irt k_109 rfl rfl rfl ⟨rfl, ?_⟩
    refine wp_br k_134 rfl rfl rfl rfl (fun _ => ?_) (fun z => absurd (Int32.le_refl _) z)
    refine wp_kn k_134 rfl rfl ?_
    exact wp_irt k_134 rfl rfl rfl (K0 (fun ⟨k, hk, w⟩ => hI k hk w))
  · intro k hk0 ih x5 hI
    refine wp_pure k_134 rfl rfl ?_
    refine wp_pure k_134 rfl rfl ?_
    refine wm_iv k_134 rfl rfl M [] rfl (r := [.int (nI k)]) (Nat.le_of_ble_eq_true rfl) (Nat.le_of_ble_eq_true rfl) rfl ?_
    refine wp_pure k_109 rfl rfl ?_
    refine wm_ga 4 M k_109 rfl rfl rfl (by decide) ?_
    refine wp_pure k_109 rfl rfl ?_
    refine wm_gi 3 M k_109 rfl rfl rfl rfl V.h3 ?_
    refine wm_al 4 M k_109 rfl rfl (by decide) rfl (show e < 8 by omega) (v := nI E.1.length) V.n4 ?_
    refine wp_irt k_109 rfl rfl rfl ⟨rfl, ?_⟩
    refine wp_br k_134 rfl rfl rfl rfl (fun z => absurd z (nI_ge hk0 (by omega))) (fun _ => ?_)
    refine wp_pure k_134 rfl rfl ?_
    refine wm_iv k_134 rfl rfl M [] rfl (r := []) (Nat.le_of_ble_eq_true rfl) (Nat.le_of_ble_eq_true rfl) rfl ?_
    refine wp_kn k_110 rfl rfl ?_
    refine wp_pure k_110 rfl rfl ?_
    refine wm_gi 3 M k_110 rfl rfl rfl rfl V.h3 ?_
    refine wp_mulN k_110 rfl ?_
    refine wp_irt k_110 rfl rfl rfl ⟨rfl, ?_⟩
    refine wp_pure k_134 rfl rfl ?_
    refine wp_addN k_134 rfl ?_
    refine wp_pure k_134 rfl rfl ?_
    refine wp_pure k_134 rfl rfl ?_
    refine wm_ga 5 M k_134 rfl rfl rfl (by decide) ?_
    refine wp_pure k_134 rfl rfl ?_
    refine wm_al 5 M k_134 rfl rfl (by decide) rfl (show (60 * e) + k < 480 by omega) (v := atP E.1 1 k) (V.p5 k (by omega)) ?_
    refine wp_kn k_134 rfl rfl ?_
    refine wp_br k_134 rfl rfl rfl rfl (fun (z36 : ¬ atP E.1 1 k = nI 1) => ?_) (fun (z36 : ¬ (¬ atP E.1 1 k = nI 1)) => ?_)
    · refine wp_inc k_134 rfl rfl rfl ?_
      refine wp_br k_134 rfl rfl rfl rfl (fun _ => ?_) (fun z => absurd trivial z)
      exact ih (.int (nI ((60 * e) + k))) (fun j hj => by
        by_cases q : j = k
        · rw [q]; exact fun w => z36 w.1
        · exact hI j (by omega))
    · have k1 := Classical.not_not.mp z36
      obtain ⟨r1, hr1, hr1l, _⟩ := hW.of1 hk0 k1
      have ho1 : rO E.1 k = r1 := by unfold rO; rw [hr1]; exact nI_clamp (by omega)
      refine wp_pure k_134 rfl rfl ?_
      refine wm_ga 6 M k_134 rfl rfl rfl (by decide) ?_
      refine wp_pure k_134 rfl rfl ?_
      refine wm_al 6 M k_134 rfl rfl (by decide) rfl (show (60 * e) + k < 480 by omega) (v := atP E.1 0 k) (V.p6 k (by omega)) ?_
      refine wp_pure k_134 rfl rfl ?_
      refine wm_ga 6 M k_134 rfl rfl rfl (by decide) ?_
      refine wp_pure k_134 rfl rfl ?_
      refine wm_al 6 M k_134 rfl rfl (by decide) rfl (show (60 * x) + i < 480 by omega) (v := atP od 0 i) (hO i hi).1 ?_
      refine wp_br k_134 rfl rfl rfl rfl (fun (z52 : ¬ atP E.1 0 k = atP od 0 i) => ?_) (fun (z52 : ¬ (¬ atP E.1 0 k = atP od 0 i)) => ?_)
      · refine wp_inc k_134 rfl rfl rfl ?_
        refine wp_br k_134 rfl rfl rfl rfl (fun _ => ?_) (fun z => absurd trivial z)
        exact ih (.int (nI ((60 * e) + k))) (fun j hj => by
          by_cases q : j = k
          · rw [q]; exact fun w => z52 w.2.1
          · exact hI j (by omega))
      · refine wp_pure k_134 rfl rfl ?_
        refine wm_ga 11 M k_134 rfl rfl rfl (by decide) ?_
        refine wp_pure k_134 rfl rfl ?_
        refine wm_al 11 M k_134 rfl rfl (by decide) rfl (show (60 * e) + k < 480 by omega) (v := atP E.1 6 k) (V.p11 k (by omega)) ?_
        refine wp_pure k_134 rfl rfl ?_
        refine wm_ga 11 M k_134 rfl rfl rfl (by decide) ?_
        refine wp_pure k_134 rfl rfl ?_
        refine wm_al 11 M k_134 rfl rfl (by decide) rfl (show (60 * x) + i < 480 by omega) (v := atP od 6 i) (hO i hi).2.2.2.2.2.2.1 ?_
        refine wp_br k_134 rfl rfl rfl rfl (fun (z68 : atP E.1 6 k = atP od 6 i) => ?_) (fun (z68 : ¬ (atP E.1 6 k = atP od 6 i)) => ?_)
        · refine wp_pure k_134 rfl rfl ?_
          refine wm_ga 7 M k_134 rfl rfl rfl (by decide) ?_
          refine wp_pure k_134 rfl rfl ?_
          refine wm_al 7 M k_134 rfl rfl (by decide) rfl (show (60 * e) + k < 480 by omega) (v := atP E.1 2 k) (V.p7 k (by omega)) ?_
          refine wp_pure k_134 rfl rfl ?_
          refine wm_ga 7 M k_134 rfl rfl rfl (by decide) ?_
          refine wp_pure k_134 rfl rfl ?_
          refine wm_al 7 M k_134 rfl rfl (by decide) rfl (show (60 * x) + i < 480 by omega) (v := atP od 2 i) (hO i hi).2.2.1 ?_
          refine wp_br k_134 rfl rfl rfl rfl (fun (z87 : ¬ atP E.1 2 k = atP od 2 i) => ?_) (fun (z87 : ¬ (¬ atP E.1 2 k = atP od 2 i)) => ?_)
          · refine wp_inc k_134 rfl rfl rfl ?_
            refine wp_br k_134 rfl rfl rfl rfl (fun _ => ?_) (fun z => absurd trivial z)
            exact ih (.int (nI ((60 * e) + k))) (fun j hj => by
              by_cases q : j = k
              · rw [q]; exact fun w => z87 w.2.2.2.1
              · exact hI j (by omega))
          · refine wp_pure k_134 rfl rfl ?_
            refine wm_ga 8 M k_134 rfl rfl rfl (by decide) ?_
            refine wp_pure k_134 rfl rfl ?_
            refine wm_al 8 M k_134 rfl rfl (by decide) rfl (show (60 * e) + k < 480 by omega) (v := atP E.1 3 k) (V.p8 k (by omega)) ?_
            refine wp_pure k_134 rfl rfl ?_
            refine wm_ga 8 M k_134 rfl rfl rfl (by decide) ?_
            refine wp_pure k_134 rfl rfl ?_
            refine wm_al 8 M k_134 rfl rfl (by decide) rfl (show (60 * x) + i < 480 by omega) (v := atP od 3 i) (hO i hi).2.2.2.1 ?_
            refine wp_br k_134 rfl rfl rfl rfl (fun (z103 : ¬ atP E.1 3 k = atP od 3 i) => ?_) (fun (z103 : ¬ (¬ atP E.1 3 k = atP od 3 i)) => ?_)
            · refine wp_inc k_134 rfl rfl rfl ?_
              refine wp_br k_134 rfl rfl rfl rfl (fun _ => ?_) (fun z => absurd trivial z)
              exact ih (.int (nI ((60 * e) + k))) (fun j hj => by
                by_cases q : j = k
                · rw [q]; exact fun w => z103 w.2.2.2.2.1
                · exact hI j (by omega))
            · refine wp_pure k_134 rfl rfl ?_
              refine wm_ga 9 M k_134 rfl rfl rfl (by decide) ?_
              refine wp_pure k_134 rfl rfl ?_
              refine wm_al 9 M k_134 rfl rfl (by decide) rfl (show (60 * e) + k < 480 by omega) (v := atP E.1 4 k) (V.p9 k (by omega)) ?_
              refine wp_pure k_134 rfl rfl ?_
              refine wm_ga 9 M k_134 rfl rfl rfl (by decide) ?_
              refine wp_pure k_134 rfl rfl ?_
              refine wm_al 9 M k_134 rfl rfl (by decide) rfl (show (60 * x) + i < 480 by omega) (v := atP od 4 i) (hO i hi).2.2.2.2.1 ?_
              refine wp_br k_134 rfl rfl rfl rfl (fun (z119 : ¬ atP E.1 4 k = atP od 4 i) => ?_) (fun (z119 : ¬ (¬ atP E.1 4 k = atP od 4 i)) => ?_)
              · refine wp_inc k_134 rfl rfl rfl ?_
                refine wp_br k_134 rfl rfl rfl rfl (fun _ => ?_) (fun z => absurd trivial z)
                exact ih (.int (nI ((60 * e) + k))) (fun j hj => by
                  by_cases q : j = k
                  · rw [q]; exact fun w => z119 w.2.2.2.2.2.1
                  · exact hI j (by omega))
              · refine wp_pure k_134 rfl rfl ?_
                refine wm_ga 10 M k_134 rfl rfl rfl (by decide) ?_
                refine wp_pure k_134 rfl rfl ?_
                refine wm_al 10 M k_134 rfl rfl (by decide) rfl (show (60 * e) + k < 480 by omega) (v := atP E.1 5 k) (V.p10 k (by omega)) ?_
                refine wp_pure k_134 rfl rfl ?_
                refine wm_ga 10 M k_134 rfl rfl rfl (by decide) ?_
                refine wp_pure k_134 rfl rfl ?_
                refine wm_al 10 M k_134 rfl rfl (by decide) rfl (show (60 * x) + i < 480 by omega) (v := atP od 5 i) (hO i hi).2.2.2.2.2.1 ?_
                refine wp_br k_134 rfl rfl rfl rfl (fun (z135 : ¬ atP E.1 5 k = atP od 5 i) => ?_) (fun (z135 : ¬ (¬ atP E.1 5 k = atP od 5 i)) => ?_)
                · refine wp_inc k_134 rfl rfl rfl ?_
                  refine wp_br k_134 rfl rfl rfl rfl (fun _ => ?_) (fun z => absurd trivial z)
                  exact ih (.int (nI ((60 * e) + k))) (fun j hj => by
                    by_cases q : j = k
                    · rw [q]; exact fun w => z135 w.2.2.2.2.2.2.1
                    · exact hI j (by omega))
                · refine wp_pure k_134 rfl rfl ?_
                  refine wm_ga 6 M k_134 rfl rfl rfl (by decide) ?_
                  refine wp_pure k_134 rfl rfl ?_
                  refine wm_iv k_134 rfl rfl M [] rfl (r := [.ref (m + mo 6)]) (Nat.le_of_ble_eq_true rfl) (Nat.le_of_ble_eq_true rfl) rfl ?_
                  refine wp_kn k_110 rfl rfl ?_
                  refine wp_pure k_110 rfl rfl ?_
                  refine wm_gi 3 M k_110 rfl rfl rfl rfl V.h3 ?_
                  refine wp_mulN k_110 rfl ?_
                  refine wp_irt k_110 rfl rfl rfl ⟨rfl, ?_⟩
                  refine wp_pure k_134 rfl rfl ?_
                  refine wm_ga 12 M k_134 rfl rfl rfl (by decide) ?_
                  refine wp_pure k_134 rfl rfl ?_
                  refine wm_al 12 M k_134 rfl rfl (by decide) rfl (show (60 * e) + k < 480 by omega) (v := nI r1) ((V.p12 k hk0).trans hr1) ?_
                  refine wp_addN k_134 rfl ?_
                  refine wm_al 6 M k_134 rfl rfl (by decide) rfl (show (60 * e) + r1 < 480 by omega) (v := atP E.1 0 r1) (V.p6 r1 (by omega)) ?_
                  refine wp_pure k_134 rfl rfl ?_
                  refine wm_ga 6 M k_134 rfl rfl rfl (by decide) ?_
                  refine wp_kn k_134 rfl rfl ?_
                  refine wp_pure k_134 rfl rfl ?_
                  refine wp_mulN k_134 rfl ?_
                  refine wp_pure k_134 rfl rfl ?_
                  refine wm_ga 12 M k_134 rfl rfl rfl (by decide) ?_
                  refine wp_pure k_134 rfl rfl ?_
                  refine wm_al 12 M k_134 rfl rfl (by decide) rfl (show (60 * x) + i < 480 by omega) (v := nI r2) ((hO i hi).2.2.2.2.2.2.2.trans hr2) ?_
                  refine wp_addN k_134 rfl ?_
                  refine wm_al 6 M k_134 rfl rfl (by decide) rfl (show (60 * x) + r2 < 480 by omega) (v := atP od 0 r2) (hO r2 hr2l).1 ?_
                  refine wp_br k_134 rfl rfl rfl rfl (fun (z171 : ¬ atP E.1 0 r1 = atP od 0 r2) => ?_) (fun (z171 : ¬ (¬ atP E.1 0 r1 = atP od 0 r2)) => ?_)
                  · refine wp_inc k_134 rfl rfl rfl ?_
                    refine wp_br k_134 rfl rfl rfl rfl (fun _ => ?_) (fun z => absurd trivial z)
                    exact ih (.int (nI ((60 * e) + k))) (fun j hj => by
                      by_cases q : j = k
                      · rw [q]; exact fun w => z171 (by have e := w.2.2.2.2.2.2.2; unfold rkN at e; rw [ho1, ho2] at e; exact e)
                      · exact hI j (by omega))
                  · refine wp_kn k_134 rfl rfl ?_
                    exact wp_irt k_134 rfl rfl rfl (K1 ⟨k, hk0, k1, Classical.not_not.mp z52, z68, Classical.not_not.mp z87, Classical.not_not.mp z103, Classical.not_not.mp z119, Classical.not_not.mp z135, by unfold rkN; rw [ho1, ho2]; exact Classical.not_not.mp z171⟩)
        · refine wp_br k_134 rfl rfl rfl rfl (fun _ => ?_) (fun z => absurd trivial z)
          refine wp_inc k_134 rfl rfl rfl ?_
          refine wp_br k_134 rfl rfl rfl rfl (fun _ => ?_) (fun z => absurd trivial z)
          exact ih (.int (nI ((60 * e) + k))) (fun j hj => by
            by_cases q : j = k
            · rw [q]; exact fun w => z68 w.2.2.1
            · exact hI j (by omega))
theorem mvN_y {cur old : List Pl} {un : Nat → Int32} {n : Nat} (h : mvP cur old un n) : mvN cur old un (n + 1) = ((mvN cur old un n).1 ++ [n], (mvN cur old un n).2 + un n) := if_pos h
theorem mvN_n {cur old : List Pl} {un : Nat → Int32} {n : Nat} (h : ¬ mvP cur old un n) : mvN cur old un (n + 1) = mvN cur old un n := if_neg h
theorem m_differ {h0 h : sm_H} {m : Nat} {g : Nat → Int32} {ar : Nat → Nat → Int32} {Q : Nat → Option Value → sm_H → Prop} {σ : Sg} (M : MS h0 h m g ar) (R : MR g ar σ) (S : SI σ) {a : Int32} (K1 : ∀ x, x ≤ sE σ → a = nI x → ∀ h' g' ar', MS h0 h' m g' ar' → g' 0 = nI 0 → MR g' ar' (dfS σ (mvN (sCur σ) (edP σ x) (sUn σ x) (edP σ x).length).1) → Q 0 (some (.int (mvN (sCur σ) (edP σ x) (sUn σ x) (edP σ x).length).2)) h') (K0 : ¬ (∃ x, x ≤ sE σ ∧ a = nI x) → ∀ h' g', MS h0 h' m g' ar → g' 0 = nI 1 → MR g' ar σ → Q 0 (some (.int (nI 0))) h') : sm_wp 133 0 [.ref m, .int a, jk, jk, jk] [] h Q := by
  have hE : sE σ ≤ 7 := by have := R.2.1.2.2; unfold sE; omega
  have V := R.view
  by_cases z1 : nI 0 ≤ a ∧ a ≤ nI (sE σ)
  · obtain ⟨x, hx0, rfl⟩ := in_c (by omega) z1
    have hx := R.hx hx0
    have hlen := (R.ed hx).1
    refine wp_pure k_133 rfl rfl ?_
    refine wp_pure k_133 rfl rfl ?_
    refine wp_pure k_133 rfl rfl ?_
    refine wm_iv k_133 rfl rfl M [.int (nI x)] rfl (r := [.ref m]) (Nat.le_of_ble_eq_true rfl) (Nat.le_of_ble_eq_true rfl) rfl ?_
    refine wp_pure k_132 rfl rfl ?_
    refine wp_kn k_132 rfl rfl ?_
    refine wp_pure k_132 rfl rfl ?_
    refine wm_gi 3 M k_132 rfl rfl rfl rfl R.2.1.1 ?_
    refine wp_is k_132 rfl (by decide) [.int (nI x), .int (nI 0), .int (nI (sE σ))] rfl (r := []) (Nat.le_of_ble_eq_true rfl) (Nat.le_of_ble_eq_true rfl) rfl ?_
    refine m_in (fun _ => ⟨rfl, ?_⟩) (fun z => absurd z1 z)
    refine wp_irt k_132 rfl rfl rfl ⟨rfl, ?_⟩
    refine wp_br k_133 rfl rfl rfl rfl (fun z => absurd z (show ¬ ((nI 1 : Int32) = 0) by decide)) (fun _ => ?_)
    refine wp_kn k_133 rfl rfl ?_
    refine wp_br k_133 rfl rfl rfl rfl (fun _ => ?_) (fun z => absurd trivial z)
    refine wm_pi 0 M k_133 rfl rfl rfl rfl rfl rfl (fun h2 M2 => ?_)
    refine wp_pure k_133 rfl rfl ?_
    refine wm_gi 0 M2 k_133 rfl rfl rfl rfl uF_at ?_
    refine wp_br k_133 rfl rfl rfl rfl (fun _ => ?_) (fun z => absurd (show (nI 0 : Int32) ≤ 0 by decide) z)
    refine wp_kn k_133 rfl rfl ?_
    refine wp_pure k_133 rfl rfl ?_
    refine wp_pure k_133 rfl rfl ?_
    refine wp_kn k_133 rfl rfl ?_
    refine wm_pi 45 M2 k_133 rfl rfl rfl rfl rfl rfl (fun h3 M3 => ?_)
    refine wp_kn k_133 rfl rfl ?_
    refine wp_pure k_133 rfl rfl ?_
    refine dn (n := (edP σ x).length) (P := fun i => ∀ (x4 : Value), ∀ (h4 : sm_H) (g4 : Nat → Int32) (ar4 : Nat → Nat → Int32), MS h0 h4 m g4 ar4 → ((∀ k, k ≠ 45 → k ≠ 0 → g4 k = g k) ∧ g4 0 = nI 0 ∧ (∀ k, k ≠ 44 → ar4 k = ar k) ∧ g4 45 = nI (mvN (sCur σ) (edP σ x) (sUn σ x) i).1.length ∧ ∀ (j y : Nat), (mvN (sCur σ) (edP σ x) (sUn σ x) i).1[j]? = some y → ar4 44 j = nI y) → sm_wp 133 35 [.ref m, .int (nI x), .int ((mvN (sCur σ) (edP σ x) (sUn σ x) i).2), .int (nI i), x4] [] h4 Q) ?_ ?_ 0 (Nat.zero_le _) (jk) _ _ _ M3 (⟨fun k h1 h2 => (uF_ne h1).trans (uF_ne h2), (uF_ne (by decide)).trans uF_at, fun _ _ => rfl, uF_at, fun j y hj => by cases hj⟩)
    · intro x4 h4 g4 ar4 M4 hI
      obtain ⟨hg, hg0, ha, h45, hmv⟩ := hI
      refine wp_pure k_133 rfl rfl ?_
      refine wp_pure k_133 rfl rfl ?_
      refine wm_ga 4 M4 k_133 rfl rfl rfl (by decide) ?_
      refine wp_pure k_133 rfl rfl ?_
      refine wm_al 4 M4 k_133 rfl rfl (by decide) rfl (show x < 8 by omega) (v := nI (edP σ x).length) (by rw [ha 4 (by decide)]; exact (R.ed hx).2.1) ?_
      refine wp_br k_133 rfl rfl rfl rfl (fun _ => ?_) (fun z => absurd (Int32.le_refl _) z)
      refine wp_pure k_133 rfl rfl ?_
      have e := K1 x hx0 rfl _ _ _ M4 hg0 (R.df hg ha h45 (by have := @mvN_le (sCur σ) (edP σ x) (sUn σ x) (edP σ x).length; omega) hmv)
      exact wp_irt k_133 rfl rfl rfl e
    · intro i hi ih x4 h4 g4 ar4 M4 hI
      obtain ⟨hg, hg0, ha, h45, hmv⟩ := hI
      have hml := @mvN_le (sCur σ) (edP σ x) (sUn σ x) i
      have V_ := V.same (g' := g4) (ar' := ar4) ⟨hg 3 (by decide) (by decide), hg 14 (by decide) (by decide), hg 18 (by decide) (by decide)⟩ (fun k hk => ha k (by omega))
      refine wp_pure k_133 rfl rfl ?_
      refine wp_pure k_133 rfl rfl ?_
      refine wm_ga 4 M4 k_133 rfl rfl rfl (by decide) ?_
      refine wp_pure k_133 rfl rfl ?_
      refine wm_al 4 M4 k_133 rfl rfl (by decide) rfl (show x < 8 by omega) (v := nI (edP σ x).length) (by rw [ha 4 (by decide)]; exact (R.ed hx).2.1) ?_
      refine wp_br k_133 rfl rfl rfl rfl (fun z => absurd z (nI_ge hi (by omega))) (fun _ => ?_)
      refine wp_kn k_133 rfl rfl ?_
      refine wp_pure k_133 rfl rfl ?_
      refine wp_mulN k_133 rfl ?_
      refine wp_pure k_133 rfl rfl ?_
      refine wp_addN k_133 rfl ?_
      refine wp_pure k_133 rfl rfl ?_
      refine wp_pure k_133 rfl rfl ?_
      refine wm_ga 5 M4 k_133 rfl rfl rfl (by decide) ?_
      refine wp_pure k_133 rfl rfl ?_
      refine wm_al 5 M4 k_133 rfl rfl (by decide) rfl (show (60 * x) + i < 480 by omega) (v := atP (edP σ x) 1 i) (by rw [ha 5 (by decide)]; exact ((R.ed hx).2.2 i hi).1.2.1) ?_
      refine wp_kn k_133 rfl rfl ?_
      refine wp_br k_133 rfl rfl rfl rfl (fun (z61 : ¬ atP (edP σ x) 1 i = nI 1) => ?_) (fun (z61 : ¬ (¬ atP (edP σ x) 1 i = nI 1)) => ?_)
      · refine wp_inc k_133 rfl rfl rfl ?_
        refine wp_br k_133 rfl rfl rfl rfl (fun _ => ?_) (fun z => absurd trivial z)
        rw [mvN_n (cur := sCur σ) (old := edP σ x) (un := sUn σ x) (fun q => z61 q.1)] at ih
        exact ih (.int (nI ((60 * x) + i))) _ _ _ M4 ⟨hg, hg0, ha, h45, hmv⟩
      · refine wp_pure k_133 rfl rfl ?_
        refine wm_ga 13 M4 k_133 rfl rfl rfl (by decide) ?_
        refine wp_pure k_133 rfl rfl ?_
        refine wm_al 13 M4 k_133 rfl rfl (by decide) rfl (show (60 * x) + i < 480 by omega) (v := sUn σ x i) (by rw [ha 13 (by decide)]; exact ((R.ed hx).2.2 i hi).2) ?_
        refine wp_br k_133 rfl rfl rfl rfl (fun (z71 : sUn σ x i = 0) => ?_) (fun (z71 : ¬ (sUn σ x i = 0)) => ?_)
        · refine wp_inc k_133 rfl rfl rfl ?_
          refine wp_br k_133 rfl rfl rfl rfl (fun _ => ?_) (fun z => absurd trivial z)
          rw [mvN_n (cur := sCur σ) (old := edP σ x) (un := sUn σ x) (fun q => q.2.1 z71)] at ih
          exact ih (.int (nI ((60 * x) + i))) _ _ _ M4 ⟨hg, hg0, ha, h45, hmv⟩
        · refine wp_pure k_133 rfl rfl ?_
          refine wp_pure k_133 rfl rfl ?_
          refine wp_pure k_133 rfl rfl ?_
          refine wm_iv k_133 rfl rfl M4 [.int (nI x), .int (nI i)] rfl (r := []) (Nat.le_of_ble_eq_true rfl) (Nat.le_of_ble_eq_true rfl) rfl ?_
          refine m_isKept M4 V_ S.1 (od := edP σ x) (by omega) hlen (S.2.1 x) (fun k hk => by rw [ha 5 (by decide), ha 6 (by decide), ha 7 (by decide), ha 8 (by decide), ha 9 (by decide), ha 10 (by decide), ha 11 (by decide), ha 12 (by decide)]; exact ((R.ed hx).2.2 k hk).1) hi (Classical.not_not.mp z61) (fun zi => ⟨rfl, ?_⟩) (fun zi => ⟨rfl, ?_⟩)
          · refine wp_br k_133 rfl rfl rfl rfl (fun z => absurd z (show ¬ ((nI 1 : Int32) = 0) by decide)) (fun _ => ?_)
            refine wp_br k_133 rfl rfl rfl rfl (fun _ => ?_) (fun z => absurd trivial z)
            refine wp_inc k_133 rfl rfl rfl ?_
            refine wp_br k_133 rfl rfl rfl rfl (fun _ => ?_) (fun z => absurd trivial z)
            rw [mvN_n (cur := sCur σ) (old := edP σ x) (un := sUn σ x) (fun q => q.2.2 zi)] at ih
            exact ih (.int (nI ((60 * x) + i))) _ _ _ M4 ⟨hg, hg0, ha, h45, hmv⟩
          · refine wp_br k_133 rfl rfl rfl rfl (fun _ => ?_) (fun z => absurd (show (nI 0 : Int32) = 0 by decide) z)
            refine wp_pure k_133 rfl rfl ?_
            refine wm_ga 44 M4 k_133 rfl rfl rfl (by decide) ?_
            refine wp_pure k_133 rfl rfl ?_
            refine wm_gi 45 M4 k_133 rfl rfl rfl rfl h45 ?_
            refine wp_pure k_133 rfl rfl ?_
            refine wm_as 44 M4 k_133 rfl rfl (by decide) rfl (show (mvN (sCur σ) (edP σ x) (sUn σ x) i).1.length < 60 by omega) (fun h5 M5 => ?_)
            have V5 := V_.same (g' := g4) (ar' := uA ar4 44 ((mvN (sCur σ) (edP σ x) (sUn σ x) i).1.length) (nI i)) ⟨rfl, rfl, rfl⟩ (fun k hk => uA_ne (by omega))
            refine wp_pure k_133 rfl rfl ?_
            refine wp_pure k_133 rfl rfl ?_
            refine wm_gi 45 M5 k_133 rfl rfl rfl rfl h45 ?_
            refine wp_kn k_133 rfl rfl ?_
            refine wp_iadd k_133 rfl ?_
            refine wm_pi 45 M5 k_133 rfl rfl rfl rfl rfl rfl (fun h6 M6 => ?_)
            have V6 := V5.same (g' := uF g4 45 ((nI (mvN (sCur σ) (edP σ x) (sUn σ x) i).1.length) + (nI 1))) (ar' := uA ar4 44 ((mvN (sCur σ) (edP σ x) (sUn σ x) i).1.length) (nI i)) ⟨uF_ne (by decide), uF_ne (by decide), uF_ne (by decide)⟩ (fun _ _ => rfl)
            refine wp_pure k_133 rfl rfl ?_
            refine wp_pure k_133 rfl rfl ?_
            refine wm_ga 13 M6 k_133 rfl rfl rfl (by decide) ?_
            refine wp_pure k_133 rfl rfl ?_
            refine wm_al 13 M6 k_133 rfl rfl (by decide) rfl (show (60 * x) + i < 480 by omega) (v := sUn σ x i) (by rw [uA_ne (by decide), ha 13 (by decide)]; exact ((R.ed hx).2.2 i hi).2) ?_
            refine wp_iadd k_133 rfl ?_
            refine wp_pure k_133 rfl rfl ?_
            refine wp_inc k_133 rfl rfl rfl ?_
            refine wp_br k_133 rfl rfl rfl rfl (fun _ => ?_) (fun z => absurd trivial z)
            rw [mvN_y (cur := sCur σ) (old := edP σ x) (un := sUn σ x) ⟨Classical.not_not.mp z61, z71, zi⟩] at ih
            refine ih (.int (nI ((60 * x) + i))) _ _ _ M6 ⟨fun k h1 h2 => (uF_ne h1).trans (hg k h1 h2), (uF_ne (by decide)).trans hg0, fun k hk => (uA_ne hk).trans (ha k hk), ?_, fun j y hj => ?_⟩
            · rw [List.length_append]; exact uF_at.trans (nI_add _ _)
            · by_cases e : j < (mvN (sCur σ) (edP σ x) (sUn σ x) i).1.length
              · rw [List.getElem?_append_left e] at hj
                exact (uA_nn (by omega)).trans (hmv j y hj)
              · have hk := (List.getElem?_eq_some_iff.mp hj).1
                rw [List.length_append] at hk
                have e2 : j = (mvN (sCur σ) (edP σ x) (sUn σ x) i).1.length := by have : j < (mvN (sCur σ) (edP σ x) (sUn σ x) i).1.length + 1 := hk; omega
                rw [e2, List.getElem?_append_right (Nat.le_refl _), Nat.sub_self] at hj
                cases hj
                rw [e2]
                exact uA_at
  · skip
    refine wp_pure k_133 rfl rfl ?_
    refine wp_pure k_133 rfl rfl ?_
    refine wp_pure k_133 rfl rfl ?_
    refine wm_iv k_133 rfl rfl M [.int a] rfl (r := [.ref m]) (Nat.le_of_ble_eq_true rfl) (Nat.le_of_ble_eq_true rfl) rfl ?_
    refine wp_pure k_132 rfl rfl ?_
    refine wp_kn k_132 rfl rfl ?_
    refine wp_pure k_132 rfl rfl ?_
    refine wm_gi 3 M k_132 rfl rfl rfl rfl R.2.1.1 ?_
    refine wp_is k_132 rfl (by decide) [.int a, .int (nI 0), .int (nI (sE σ))] rfl (r := []) (Nat.le_of_ble_eq_true rfl) (Nat.le_of_ble_eq_true rfl) rfl ?_
    refine m_in (fun z => absurd z z1) (fun _ => ⟨rfl, ?_⟩)
    refine wp_irt k_132 rfl rfl rfl ⟨rfl, ?_⟩
    refine wp_br k_133 rfl rfl rfl rfl (fun _ => ?_) (fun z => absurd (show (nI 0 : Int32) = 0 by decide) z)
    refine wp_kn k_133 rfl rfl ?_
    refine wm_pi 0 M k_133 rfl rfl rfl rfl rfl rfl (fun h2 M2 => ?_)
    refine wp_pure k_133 rfl rfl ?_
    refine wm_gi 0 M2 k_133 rfl rfl rfl rfl uF_at ?_
    refine wp_br k_133 rfl rfl rfl rfl (fun z => absurd z (show ¬ ((nI 1 : Int32) ≤ 0) by decide)) (fun _ => ?_)
    refine wp_kn k_133 rfl rfl ?_
    exact wp_irt k_133 rfl rfl rfl (K0 (fun ⟨x, hx, e⟩ => z1 (by rw [e]; exact in_d (by omega) hx)) _ _ M2 uF_at R.code)
theorem m_moved {h0 h : sm_H} {m : Nat} {g : Nat → Int32} {ar : Nat → Nat → Int32} {Q : Nat → Option Value → sm_H → Prop} {σ : Sg} (M : MS h0 h m g ar) (R : MR g ar σ) {a : Int32} (K1 : ∀ k y, (sMv σ)[k]? = some y → a = nI k → ∀ h' g', MS h0 h' m g' ar → g' 0 = nI 0 → MR g' ar σ → Q 0 (some (.int (nI y))) h') (K0 : ¬ (∃ k, k < (sMv σ).length ∧ a = nI k) → ∀ h' g', MS h0 h' m g' ar → g' 0 = nI 1 → MR g' ar σ → Q 0 (some (.int (nI 0))) h') : sm_wp 135 0 [.ref m, .int a] [] h Q := by
  have hl : (sMv σ).length ≤ 60 := R.2.2.2.2.2.2.2.1.2.1
  by_cases z1 : nI 0 ≤ a ∧ a ≤ nI (sMv σ).length - nI 1
  · obtain ⟨k, hk, rfl⟩ := in_y (by omega) z1
    have hy := R.2.2.2.2.2.2.2.1.2.2 k _ (List.getElem?_eq_getElem hk)
    refine wp_pure k_135 rfl rfl ?_
    refine wp_pure k_135 rfl rfl ?_
    refine wp_kn k_135 rfl rfl ?_
    refine wp_pure k_135 rfl rfl ?_
    refine wm_gi 45 M k_135 rfl rfl rfl rfl R.2.2.2.2.2.2.2.1.1 ?_
    refine wp_kn k_135 rfl rfl ?_
    refine wp_isub k_135 rfl ?_
    refine wp_is k_135 rfl (by decide) [.int (nI k), .int (nI 0), .int ((nI (sMv σ).length) - (nI 1))] rfl (r := [.ref m]) (Nat.le_of_ble_eq_true rfl) (Nat.le_of_ble_eq_true rfl) rfl ?_
    refine m_in (fun _ => ⟨rfl, ?_⟩) (fun z => absurd z1 z)
    refine wp_br k_135 rfl rfl rfl rfl (fun z => absurd z (show ¬ ((nI 1 : Int32) = 0) by decide)) (fun _ => ?_)
    refine wp_kn k_135 rfl rfl ?_
    refine wp_br k_135 rfl rfl rfl rfl (fun _ => ?_) (fun z => absurd trivial z)
    refine wm_pi 0 M k_135 rfl rfl rfl rfl rfl rfl (fun h2 M2 => ?_)
    refine wp_pure k_135 rfl rfl ?_
    refine wm_gi 0 M2 k_135 rfl rfl rfl rfl uF_at ?_
    refine wp_br k_135 rfl rfl rfl rfl (fun _ => ?_) (fun z => absurd (show (nI 0 : Int32) ≤ 0 by decide) z)
    refine wp_pure k_135 rfl rfl ?_
    refine wm_ga 44 M2 k_135 rfl rfl rfl (by decide) ?_
    refine wp_pure k_135 rfl rfl ?_
    refine wm_al 44 M2 k_135 rfl rfl (by decide) rfl (show k < 60 by omega) (v := nI ((sMv σ)[k])) hy ?_
    exact wp_irt k_135 rfl rfl rfl (K1 k _ (List.getElem?_eq_getElem hk) rfl _ _ M2 uF_at R.code)
  · skip
    refine wp_pure k_135 rfl rfl ?_
    refine wp_pure k_135 rfl rfl ?_
    refine wp_kn k_135 rfl rfl ?_
    refine wp_pure k_135 rfl rfl ?_
    refine wm_gi 45 M k_135 rfl rfl rfl rfl R.2.2.2.2.2.2.2.1.1 ?_
    refine wp_kn k_135 rfl rfl ?_
    refine wp_isub k_135 rfl ?_
    refine wp_is k_135 rfl (by decide) [.int a, .int (nI 0), .int ((nI (sMv σ).length) - (nI 1))] rfl (r := [.ref m]) (Nat.le_of_ble_eq_true rfl) (Nat.le_of_ble_eq_true rfl) rfl ?_
    refine m_in (fun z => absurd z z1) (fun _ => ⟨rfl, ?_⟩)
    refine wp_br k_135 rfl rfl rfl rfl (fun _ => ?_) (fun z => absurd (show (nI 0 : Int32) = 0 by decide) z)
    refine wp_kn k_135 rfl rfl ?_
    refine wm_pi 0 M k_135 rfl rfl rfl rfl rfl rfl (fun h2 M2 => ?_)
    refine wp_pure k_135 rfl rfl ?_
    refine wm_gi 0 M2 k_135 rfl rfl rfl rfl uF_at ?_
    refine wp_br k_135 rfl rfl rfl rfl (fun z => absurd z (show ¬ ((nI 1 : Int32) ≤ 0) by decide)) (fun _ => ?_)
    refine wp_kn k_135 rfl rfl ?_
    refine wp_br k_135 rfl rfl rfl rfl (fun _ => ?_) (fun z => absurd trivial z)
    exact wp_irt k_135 rfl rfl rfl (K0 (fun ⟨k, hk, e⟩ => z1 (by rw [e]; exact in_n (by omega) hk)) _ _ M2 uF_at R.code)
theorem m_at {h0 h : sm_H} {m : Nat} {g : Nat → Int32} {ar : Nat → Nat → Int32} {Q : Nat → Option Value → sm_H → Prop} {σ : Sg} (M : MS h0 h m g ar) (R : MR g ar σ) {a : Int32} (K1 : ∀ k y, (sPn σ)[k]? = some y → a = nI k → ∀ h' g', MS h0 h' m g' ar → g' 0 = nI 0 → MR g' ar σ → Q 0 (some (.int y)) h') (K0 : ¬ (∃ k, k < (sPn σ).length ∧ a = nI k) → ∀ h' g', MS h0 h' m g' ar → g' 0 = nI 1 → MR g' ar σ → Q 0 (some (.int (nI 0))) h') : sm_wp 142 0 [.ref m, .int a] [] h Q := by
  have hl : (sPn σ).length ≤ 820 := R.2.2.2.2.2.2.2.2.2.1
  by_cases z1 : nI 0 ≤ a ∧ a ≤ nI (sPn σ).length - nI 1
  · obtain ⟨k, hk, rfl⟩ := in_y (by omega) z1
    have hy := R.2.2.2.2.2.2.2.2.2.2 k _ (List.getElem?_eq_getElem hk)
    refine wp_pure k_142 rfl rfl ?_
    refine wp_pure k_142 rfl rfl ?_
    refine wp_kn k_142 rfl rfl ?_
    refine wp_pure k_142 rfl rfl ?_
    refine wm_gi 47 M k_142 rfl rfl rfl rfl R.2.2.2.2.2.2.2.2.1 ?_
    refine wp_kn k_142 rfl rfl ?_
    refine wp_isub k_142 rfl ?_
    refine wp_is k_142 rfl (by decide) [.int (nI k), .int (nI 0), .int ((nI (sPn σ).length) - (nI 1))] rfl (r := [.ref m]) (Nat.le_of_ble_eq_true rfl) (Nat.le_of_ble_eq_true rfl) rfl ?_
    refine m_in (fun _ => ⟨rfl, ?_⟩) (fun z => absurd z1 z)
    refine wp_br k_142 rfl rfl rfl rfl (fun z => absurd z (show ¬ ((nI 1 : Int32) = 0) by decide)) (fun _ => ?_)
    refine wp_kn k_142 rfl rfl ?_
    refine wp_br k_142 rfl rfl rfl rfl (fun _ => ?_) (fun z => absurd trivial z)
    refine wm_pi 0 M k_142 rfl rfl rfl rfl rfl rfl (fun h2 M2 => ?_)
    refine wp_pure k_142 rfl rfl ?_
    refine wm_gi 0 M2 k_142 rfl rfl rfl rfl uF_at ?_
    refine wp_br k_142 rfl rfl rfl rfl (fun _ => ?_) (fun z => absurd (show (nI 0 : Int32) ≤ 0 by decide) z)
    refine wp_pure k_142 rfl rfl ?_
    refine wm_ga 46 M2 k_142 rfl rfl rfl (by decide) ?_
    refine wp_pure k_142 rfl rfl ?_
    refine wm_al 46 M2 k_142 rfl rfl (by decide) rfl (show k < 820 by omega) (v := (sPn σ)[k]) hy ?_
    exact wp_irt k_142 rfl rfl rfl (K1 k _ (List.getElem?_eq_getElem hk) rfl _ _ M2 uF_at R.code)
  · skip
    refine wp_pure k_142 rfl rfl ?_
    refine wp_pure k_142 rfl rfl ?_
    refine wp_kn k_142 rfl rfl ?_
    refine wp_pure k_142 rfl rfl ?_
    refine wm_gi 47 M k_142 rfl rfl rfl rfl R.2.2.2.2.2.2.2.2.1 ?_
    refine wp_kn k_142 rfl rfl ?_
    refine wp_isub k_142 rfl ?_
    refine wp_is k_142 rfl (by decide) [.int a, .int (nI 0), .int ((nI (sPn σ).length) - (nI 1))] rfl (r := [.ref m]) (Nat.le_of_ble_eq_true rfl) (Nat.le_of_ble_eq_true rfl) rfl ?_
    refine m_in (fun z => absurd z z1) (fun _ => ⟨rfl, ?_⟩)
    refine wp_br k_142 rfl rfl rfl rfl (fun _ => ?_) (fun z => absurd (show (nI 0 : Int32) = 0 by decide) z)
    refine wp_kn k_142 rfl rfl ?_
    refine wm_pi 0 M k_142 rfl rfl rfl rfl rfl rfl (fun h2 M2 => ?_)
    refine wp_pure k_142 rfl rfl ?_
    refine wm_gi 0 M2 k_142 rfl rfl rfl rfl uF_at ?_
    refine wp_br k_142 rfl rfl rfl rfl (fun z => absurd z (show ¬ ((nI 1 : Int32) ≤ 0) by decide)) (fun _ => ?_)
    refine wp_kn k_142 rfl rfl ?_
    refine wp_br k_142 rfl rfl rfl rfl (fun _ => ?_) (fun z => absurd trivial z)
    exact wp_irt k_142 rfl rfl rfl (K0 (fun ⟨k, hk, e⟩ => z1 (by rw [e]; exact in_n (by omega) hk)) _ _ M2 uF_at R.code)
def cntV (σ : Sg) (a : Int32) : Int32 := if a = nI 0 then nI (sCur σ).length else if a = nI 1 then nI (sWs σ).length else if a = nI 2 then nI (sVs σ).length else if a = nI 3 then nI (sE σ) else if a = nI 4 then nI (sLen σ) else -1
theorem m_count {h0 h : sm_H} {m : Nat} {g : Nat → Int32} {ar : Nat → Nat → Int32} {Q : Nat → Option Value → sm_H → Prop} {σ : Sg} (M : MS h0 h m g ar) (R : MR g ar σ) {a : Int32} (K : ∀ h' g', MS h0 h' m g' ar → g' 0 = nI 0 → MR g' ar σ → Q 0 (some (.int (cntV σ a))) h') : sm_wp 143 0 [.ref m, .int a] [] h Q := by
  have hE : sE σ ≤ 7 := by have := R.2.1.2.2; unfold sE; omega
  have V := R.view
  refine wp_pure k_143 rfl rfl ?_
  refine wp_kn k_143 rfl rfl ?_
  refine wm_pi 0 M k_143 rfl rfl rfl rfl rfl rfl (fun h1 M1 => ?_)
  refine wp_pure k_143 rfl rfl ?_
  refine wp_br k_143 rfl rfl rfl rfl (fun (z6 : ¬ a = 0) => ?_) (fun (z6 : ¬ (¬ a = 0)) => ?_)
  · refine wp_pure k_143 rfl rfl ?_
    refine wp_kn k_143 rfl rfl ?_
    refine wp_br k_143 rfl rfl rfl rfl (fun (z23 : ¬ a = nI 1) => ?_) (fun (z23 : ¬ (¬ a = nI 1)) => ?_)
    · refine wp_pure k_143 rfl rfl ?_
      refine wp_kn k_143 rfl rfl ?_
      refine wp_br k_143 rfl rfl rfl rfl (fun (z35 : ¬ a = nI 2) => ?_) (fun (z35 : ¬ (¬ a = nI 2)) => ?_)
      · refine wp_pure k_143 rfl rfl ?_
        refine wp_kn k_143 rfl rfl ?_
        refine wp_br k_143 rfl rfl rfl rfl (fun (z47 : ¬ a = nI 3) => ?_) (fun (z47 : ¬ (¬ a = nI 3)) => ?_)
        · refine wp_pure k_143 rfl rfl ?_
          refine wp_kn k_143 rfl rfl ?_
          refine wp_br k_143 rfl rfl rfl rfl (fun (z59 : ¬ a = nI 4) => ?_) (fun (z59 : ¬ (¬ a = nI 4)) => ?_)
          · refine wp_km k_143 rfl rfl ?_
            have e := K _ _ M1 uF_at R.code
            unfold cntV at e
            rw [if_neg (show ¬ a = nI 0 from z6), if_neg z23, if_neg z35, if_neg z47, if_neg z59] at e
            exact wp_irt k_143 rfl rfl rfl e
          · refine wp_pure k_143 rfl rfl ?_
            refine wm_gi 2 M1 k_143 rfl rfl rfl rfl ((uF_ne (by decide)).trans R.1.1) ?_
            refine wp_br k_143 rfl rfl rfl rfl (fun _ => ?_) (fun z => absurd trivial z)
            have e := K _ _ M1 uF_at R.code
            unfold cntV at e
            rw [if_neg (show ¬ a = nI 0 from z6), if_neg z23, if_neg z35, if_neg z47, if_pos (show a = nI 4 from (Classical.not_not.mp z59))] at e
            exact wp_irt k_143 rfl rfl rfl e
        · refine wp_pure k_143 rfl rfl ?_
          refine wm_gi 3 M1 k_143 rfl rfl rfl rfl ((uF_ne (by decide)).trans R.2.1.1) ?_
          refine wp_br k_143 rfl rfl rfl rfl (fun _ => ?_) (fun z => absurd trivial z)
          have e := K _ _ M1 uF_at R.code
          unfold cntV at e
          rw [if_neg (show ¬ a = nI 0 from z6), if_neg z23, if_neg z35, if_pos (show a = nI 3 from (Classical.not_not.mp z47))] at e
          exact wp_irt k_143 rfl rfl rfl e
      · refine wp_pure k_143 rfl rfl ?_
        refine wm_gi 18 M1 k_143 rfl rfl rfl rfl ((uF_ne (by decide)).trans R.2.2.2.2.2.1.1) ?_
        refine wp_br k_143 rfl rfl rfl rfl (fun _ => ?_) (fun z => absurd trivial z)
        have e := K _ _ M1 uF_at R.code
        unfold cntV at e
        rw [if_neg (show ¬ a = nI 0 from z6), if_neg z23, if_pos (show a = nI 2 from (Classical.not_not.mp z35))] at e
        exact wp_irt k_143 rfl rfl rfl e
    · refine wp_pure k_143 rfl rfl ?_
      refine wm_gi 14 M1 k_143 rfl rfl rfl rfl ((uF_ne (by decide)).trans R.2.2.2.2.1.1) ?_
      refine wp_br k_143 rfl rfl rfl rfl (fun _ => ?_) (fun z => absurd trivial z)
      have e := K _ _ M1 uF_at R.code
      unfold cntV at e
      rw [if_neg (show ¬ a = nI 0 from z6), if_pos (show a = nI 1 from (Classical.not_not.mp z23))] at e
      exact wp_irt k_143 rfl rfl rfl e
  · refine wp_pure k_143 rfl rfl ?_
    refine wm_ga 4 M1 k_143 rfl rfl rfl (by decide) ?_
    refine wp_pure k_143 rfl rfl ?_
    refine wm_gi 3 M1 k_143 rfl rfl rfl rfl ((uF_ne (by decide)).trans R.2.1.1) ?_
    refine wm_al 4 M1 k_143 rfl rfl (by decide) rfl (show sE σ < 8 by omega) (v := nI (sCur σ).length) V.n4 ?_
    refine wp_br k_143 rfl rfl rfl rfl (fun _ => ?_) (fun z => absurd trivial z)
    have e := K _ _ M1 uF_at R.code
    unfold cntV at e
    rw [if_pos (show a = nI 0 from (Classical.not_not.mp z6))] at e
    exact wp_irt k_143 rfl rfl rfl e
theorem m_thrown {h0 h : sm_H} {m : Nat} {g : Nat → Int32} {ar : Nat → Nat → Int32} {Q : Nat → Option Value → sm_H → Prop} (M : MS h0 h m g ar) {v : Int32} (hv : g 0 = v) (K : Q 0 (some (.int v)) h) : sm_wp 81 0 [.ref m] [] h Q := by
  refine wp_pure k_81 rfl rfl ?_
  refine wm_gi 0 M k_81 rfl rfl rfl rfl hv ?_
  exact wp_irt k_81 rfl rfl rfl K
def okS (c : Int32) : Prop := c = nI 10 ∨ (nI 32 ≤ c ∧ c ≤ nI 126)
theorem MR.sg {g : Nat → Int32} {ar : Nat → Nat → Int32} {σ : Sg} (R : MR g ar σ) {c : Int32} (hl : sLen σ < 600) : MR (uF g 2 (nI (sLen σ + 1))) (uA ar 1 (sLen σ) c) (sgS σ c) := by
  have ha : ∀ j, j ≠ 1 → uA ar 1 (sLen σ) c j = ar j := fun j hj => uA_ne hj
  have hg : ∀ k, k ≠ 2 → uF g 2 (nI (sLen σ + 1)) k = g k := fun k hk => uF_ne hk
  obtain ⟨a1, a2, a3, a4, a5, a6, a7, a8, a9⟩ := R
  refine ⟨⟨uF_at, by show sLen σ + 1 ≤ 600; omega, fun i hi => ?_⟩, ⟨(hg 3 (by decide)).trans a2.1, a2.2⟩, fun e ps he => ?_, fun k P hk => ?_, ⟨(hg 14 (by decide)).trans a5.1, fun i a b t hi => ?_⟩, ⟨(hg 18 (by decide)).trans a6.1, fun i a b hi => ?_⟩, a7, ⟨(hg 45 (by decide)).trans a8.1, a8.2.1, fun i k hi => by rw [ha 44 (by decide)]; exact a8.2.2 i k hi⟩, ⟨(hg 47 (by decide)).trans a9.1, a9.2.1, fun i k hi => by rw [ha 46 (by decide)]; exact a9.2.2 i k hi⟩⟩
  · show _ = (if i = sLen σ then c else sTx σ i)
    have hi : i < sLen σ + 1 := hi
    by_cases e : i = sLen σ
    · rw [if_pos e, e]; exact uA_at
    · rw [if_neg e, uA_nn e]; exact a1.2.2 i (by omega)
  · obtain ⟨q1, q2, q3⟩ := a3 e ps he
    refine ⟨q1, by rw [ha 4 (by decide)]; exact q2, fun k P hk => ?_⟩
    unfold KA
    rw [ha 5 (by decide), ha 6 (by decide), ha 7 (by decide), ha 8 (by decide), ha 9 (by decide), ha 10 (by decide), ha 11 (by decide), ha 12 (by decide), ha 13 (by decide)]
    exact q3 k P hk
  · rw [ha 21 (by decide), ha 22 (by decide)]; exact a4 k P hk
  · rw [ha 15 (by decide), ha 16 (by decide), ha 17 (by decide)]; exact a5.2 i a b t hi
  · rw [ha 19 (by decide), ha 20 (by decide)]; exact a6.2 i a b hi
theorem m_sign {h0 h : sm_H} {m : Nat} {g : Nat → Int32} {ar : Nat → Nat → Int32} {Q : Nat → Option Value → sm_H → Prop} {σ : Sg} (M : MS h0 h m g ar) (R : MR g ar σ) (hl : sLen σ < 600) {c : Int32} (K1 : okS c → ∀ h' g' ar', MS h0 h' m g' ar' → g' 0 = nI 0 → MR g' ar' (sgS σ c) → Q 0 none h') (K0 : ¬ okS c → ∀ h' g', MS h0 h' m g' ar → g' 0 = nI 1 → MR g' ar σ → Q 0 none h') : sm_wp 82 0 [.ref m, .int c] [] h Q := by
  refine wp_pure k_82 rfl rfl ?_
  refine wp_pure k_82 rfl rfl ?_
  refine wp_kn k_82 rfl rfl ?_
  refine wp_br k_82 rfl rfl rfl rfl (fun (z4 : c = nI 10) => ?_) (fun (z4 : ¬ (c = nI 10)) => ?_)
  · refine wp_pure k_82 rfl rfl ?_
    refine wm_gi 2 M k_82 rfl rfl rfl rfl R.1.1 ?_
    refine wp_kn k_82 rfl rfl ?_
    refine wp_br k_82 rfl rfl rfl rfl (fun _ => ?_) (fun z => absurd (show ¬ nI (sLen σ) = nI 3000 from (fun q => by have := (nI_eq (by omega) (by decide)).mp q; omega)) z)
    refine wp_kn k_82 rfl rfl ?_
    refine wm_pi 0 M k_82 rfl rfl rfl rfl rfl rfl (fun h1 M1 => ?_)
    refine wp_pure k_82 rfl rfl ?_
    refine wm_gi 0 M1 k_82 rfl rfl rfl rfl uF_at ?_
    refine wp_br k_82 rfl rfl rfl rfl (fun _ => ?_) (fun z => absurd (show (nI 0 : Int32) ≤ 0 by decide) z)
    refine wp_pure k_82 rfl rfl ?_
    refine wm_ga 1 M1 k_82 rfl rfl rfl (by decide) ?_
    refine wp_pure k_82 rfl rfl ?_
    refine wm_gi 2 M1 k_82 rfl rfl rfl rfl ((uF_ne (by decide)).trans R.1.1) ?_
    refine wp_pure k_82 rfl rfl ?_
    refine wm_as 1 M1 k_82 rfl rfl (by decide) rfl (show sLen σ < 3000 by omega) (fun h2 M2 => ?_)
    refine wp_pure k_82 rfl rfl ?_
    refine wp_pure k_82 rfl rfl ?_
    refine wm_gi 2 M2 k_82 rfl rfl rfl rfl ((uF_ne (by decide)).trans R.1.1) ?_
    refine wp_kn k_82 rfl rfl ?_
    refine wp_addN k_82 rfl ?_
    refine wm_pi 2 M2 k_82 rfl rfl rfl rfl rfl rfl (fun h3 M3 => ?_)
    exact wp_vrt k_82 rfl rfl (K1 (Or.inl z4) _ _ _ M3 ((uF_ne (by decide)).trans uF_at) (R.code.sg hl))
  · refine wp_pure k_82 rfl rfl ?_
    refine wp_kn k_82 rfl rfl ?_
    refine wp_kn k_82 rfl rfl ?_
    refine wp_is k_82 rfl (by decide) [.int c, .int (nI 32), .int (nI 126)] rfl (r := [.ref m]) (Nat.le_of_ble_eq_true rfl) (Nat.le_of_ble_eq_true rfl) rfl ?_
    refine m_in (fun zi4 => ⟨rfl, ?_⟩) (fun zi4 => ⟨rfl, ?_⟩)
    · have zi := zi4
      refine wp_br k_82 rfl rfl rfl rfl (fun _ => ?_) (fun z => absurd (show ¬ (nI 1 : Int32) = 0 by decide) z)
      refine wp_pure k_82 rfl rfl ?_
      refine wm_gi 2 M k_82 rfl rfl rfl rfl R.1.1 ?_
      refine wp_kn k_82 rfl rfl ?_
      refine wp_br k_82 rfl rfl rfl rfl (fun _ => ?_) (fun z => absurd (show ¬ nI (sLen σ) = nI 3000 from (fun q => by have := (nI_eq (by omega) (by decide)).mp q; omega)) z)
      refine wp_kn k_82 rfl rfl ?_
      refine wm_pi 0 M k_82 rfl rfl rfl rfl rfl rfl (fun h5 M5 => ?_)
      refine wp_pure k_82 rfl rfl ?_
      refine wm_gi 0 M5 k_82 rfl rfl rfl rfl uF_at ?_
      refine wp_br k_82 rfl rfl rfl rfl (fun _ => ?_) (fun z => absurd (show (nI 0 : Int32) ≤ 0 by decide) z)
      refine wp_pure k_82 rfl rfl ?_
      refine wm_ga 1 M5 k_82 rfl rfl rfl (by decide) ?_
      refine wp_pure k_82 rfl rfl ?_
      refine wm_gi 2 M5 k_82 rfl rfl rfl rfl ((uF_ne (by decide)).trans R.1.1) ?_
      refine wp_pure k_82 rfl rfl ?_
      refine wm_as 1 M5 k_82 rfl rfl (by decide) rfl (show sLen σ < 3000 by omega) (fun h6 M6 => ?_)
      refine wp_pure k_82 rfl rfl ?_
      refine wp_pure k_82 rfl rfl ?_
      refine wm_gi 2 M6 k_82 rfl rfl rfl rfl ((uF_ne (by decide)).trans R.1.1) ?_
      refine wp_kn k_82 rfl rfl ?_
      refine wp_addN k_82 rfl ?_
      refine wm_pi 2 M6 k_82 rfl rfl rfl rfl rfl rfl (fun h7 M7 => ?_)
      exact wp_vrt k_82 rfl rfl (K1 (Or.inr zi) _ _ _ M7 ((uF_ne (by decide)).trans uF_at) (R.code.sg hl))
    · have zi := zi4
      refine wp_br k_82 rfl rfl rfl rfl (fun z => absurd z (show ¬ (¬ (nI 0 : Int32) = 0) by decide)) (fun _ => ?_)
      refine wp_kn k_82 rfl rfl ?_
      refine wp_br k_82 rfl rfl rfl rfl (fun _ => ?_) (fun z => absurd trivial z)
      refine wm_pi 0 M k_82 rfl rfl rfl rfl rfl rfl (fun h8 M8 => ?_)
      refine wp_pure k_82 rfl rfl ?_
      refine wm_gi 0 M8 k_82 rfl rfl rfl rfl uF_at ?_
      refine wp_br k_82 rfl rfl rfl rfl (fun z => absurd z (show ¬ ((nI 1 : Int32) ≤ 0) by decide)) (fun _ => ?_)
      exact wp_vrt k_82 rfl rfl (K0 (fun q => q.elim z4 zi) _ _ M8 uF_at R.code)
