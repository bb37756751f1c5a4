/-! the class reads a way, a serve -/
theorem c_skip9 {h h1 : sm_H} {Q : Nat → Option Value → sm_H → Prop} {r sg sp ed len : Nat} {tx : Nat → Int32} (B : RB h r sg sp ed len tx) {s : Nat × Int32} (w : RDW h h1 r len s) {c : Int32} (hc : c ≠ -1) (K : ∀ h2 s9, skC tx len c s = s9 → RDW h h2 r len s9 → Q 0 none h2) : sm_wp 63 0 [.ref r, .int c] [] h1 Q := c_skip B w hc (fun h2 w2 => K h2 _ rfl w2)
theorem c_way9 {h0 h : sm_H} {Q : Nat → Option Value → sm_H → Prop} {r sg sp ed len : Nat} {tx : Nat → Int32} {E : Ed} {p dT dU : Nat} (R : RS h0 h r sg sp ed len tx E (p, -1) dT dU) (hn : E.1.length < 2 ^ 12) (hnw : E.2.1.length < 2 ^ 12) (K1 : ∀ a b t q, wayM tx len (atP E.1 0) (atP E.1 1) E.1.length p = .ok (a, b, t, q) → ∀ h', RS h0 h' r sg sp ed len tx (E.1, E.2.1 ++ [(a, b, t)], E.2.2) (q, -1) (dT + 2) (dU + (2 * E.2.1.length + 17)) → Q 0 none h') (K0 : ∀ q, wayM tx len (atP E.1 0) (atP E.1 1) E.1.length p = .error q → ∀ h' s', RS h0 h' r sg sp ed len tx E s' dT dU → s'.2 = nI q → q ≤ len → Q 0 none h') : sm_wp 75 0 [.ref r, jk, jk, jk] [] h Q := by
  obtain ⟨B, w, f, ⟨r1, r2, r3, r4, r5⟩, ⟨z1, z2⟩, lp, lw, lv, ls, ep, ew, ev, es, pa, wa, va, sa, X, O⟩ := id R
  have hD : ∀ a, dR h0 h r sp a → a ≠ r := fun a ha => ha.2.2.1
  have hT0 := f.1
  have hzr : hZ h ≠ r := by have := f.2.2.2.2.1; omega
  have hB := B.2.2.2.2.2.2.2.2.2.2
  have hsl := w.2.2.2.2.2.2.2.2
  refine wp_pure k_75 rfl rfl ?_
  refine wp_kn k_75 rfl rfl ?_
  refine wp_km k_75 rfl rfl ?_
  refine wp_iv k_75 rfl [.int (nI 2), .int (-1)] rfl w.2.2.2.2.1 (r := []) (Nat.le_of_ble_eq_true rfl) (Nat.le_of_ble_eq_true rfl) rfl ?_
  refine c_used9 B w X O hD hzr (fun h2 n1 g1 w2 => ⟨rfl, ?_⟩)
  refine wp_pure k_75 rfl rfl ?_
  refine wp_pure k_75 rfl rfl ?_
  refine wp_kn k_75 rfl rfl ?_
  refine wp_pure k_75 rfl rfl ?_
  refine wp_iv k_75 rfl [.int (nI 2), .int (n1.1)] rfl w2.2.2.2.2.1 (r := []) (Nat.le_of_ble_eq_true rfl) (Nat.le_of_ble_eq_true rfl) rfl ?_
  refine c_used9 B w2 X O hD hzr (fun h3 n2 g2 w3 => ⟨rfl, ?_⟩)
  refine wp_pure k_75 rfl rfl ?_
  refine wp_pure k_75 rfl rfl ?_
  refine wp_kn k_75 rfl rfl ?_
  refine wp_iv k_75 rfl [.int (nI 32)] rfl w3.2.2.2.2.1 (r := []) (Nat.le_of_ble_eq_true rfl) (Nat.le_of_ble_eq_true rfl) rfl ?_
  refine c_skip9 B w3 (by decide) (fun h4 s3 g3 w4 => ⟨rfl, ?_⟩)
  obtain ⟨kv, hv⟩ : ∃ kv, tk tx len s3.1 = kv := ⟨_, rfl⟩
  obtain ⟨c1, c0⟩ := wayC9 (by omega) hsl (by omega) g1 g2 g3
  have T : ∀ h5 s5, wkC tx len s3 = s5 → RDW h h5 r len s5 → sm_wp 75 58 [.ref r, .int n1.1, .int n2.1, .int kv] [] h5 Q := by
    intro h5 s5 g5 w5
    rw [g5] at c1 c0
    refine wp_pure k_75 rfl rfl ?_
    refine wp_iv k_75 rfl [] rfl w5.2.2.2.2.1 (r := []) (Nat.le_of_ble_eq_true rfl) (Nat.le_of_ble_eq_true rfl) rfl ?_
    refine c_ends B w5 (fun h6 w6 ok => ⟨rfl, ?_⟩) (fun h6 w6 ok => ⟨rfl, ?_⟩)
    · skip
      have hmo : ∃ z9, wayM tx len (atP E.1 0) (atP E.1 1) E.1.length p = .ok z9 := by
        cases hm : wayM tx len (atP E.1 0) (atP E.1 1) E.1.length p with
        | error q => exact absurd ((c0 q hm).1.symm.trans ok) (nI_nm1 (by have := (c0 q hm).2; omega))
        | ok z9 => exact ⟨z9, rfl⟩
      obtain ⟨⟨a, b, t, q⟩, hm⟩ := hmo
      obtain ⟨k1, k2, k3, k4⟩ := c1 a b t q hm
      rw [k4] at w6
      have R7 := R.rd w6
      have o7 := wayM_ok hm
      rw [k1, k2]
      rw [hv] at k3
      refine wp_br k_75 rfl rfl rfl rfl (fun z => absurd z (show ¬ ((nI 1 : Int32) = 0) by decide)) (fun _ => ?_)
      refine wp_pure k_75 rfl rfl ?_
      refine wp_get k_75 rfl w6.2.2.2.2.1 ((w6.2.2.2.2.2.1 1026 (by decide) (by decide)).trans B.2.2.2.1) ?_
      refine wp_pure k_75 rfl rfl ?_
      refine wp_pure k_75 rfl rfl ?_
      refine wp_pure k_75 rfl rfl ?_
      refine wp_kn k_75 rfl rfl ?_
      refine wp_br k_75 rfl rfl rfl rfl (fun (z74 : ¬ kv = nI 61) => ?_) (fun (z74 : ¬ (¬ kv = nI 61)) => ?_)
      · refine wp_kn k_75 rfl rfl ?_
        refine wp_iv k_75 rfl [.int (nI a), .int (nI b), .int (nI 0)] rfl ((w6.2.2.2.1 ed (hD _ O.1.1)).1.trans X.1.1) (r := []) (Nat.le_of_ble_eq_true rfl) (Nat.le_of_ble_eq_true rfl) rfl ?_
        have ht : t = false := k3.trans (decide_eq_false z74)
        subst ht
        refine c_addWay (t := false) R7 hnw o7.2.2.1 o7.2.2.2.1 o7.2.2.2.2.2.2 (fun h8 R8 _ => ⟨rfl, ?_⟩)
        exact wp_vrt k_75 rfl rfl (K1 a b false q hm h8 R8)
      · refine wp_kn k_75 rfl rfl ?_
        refine wp_br k_75 rfl rfl rfl rfl (fun _ => ?_) (fun z => absurd trivial z)
        refine wp_iv k_75 rfl [.int (nI a), .int (nI b), .int (nI 1)] rfl ((w6.2.2.2.1 ed (hD _ O.1.1)).1.trans X.1.1) (r := []) (Nat.le_of_ble_eq_true rfl) (Nat.le_of_ble_eq_true rfl) rfl ?_
        have ht : t = true := k3.trans (decide_eq_true (Classical.not_not.mp z74))
        subst ht
        refine c_addWay (t := true) R7 hnw o7.2.2.1 o7.2.2.2.1 o7.2.2.2.2.2.2 (fun h8 R8 _ => ⟨rfl, ?_⟩)
        exact wp_vrt k_75 rfl rfl (K1 a b true q hm h8 R8)
    · refine wp_br k_75 rfl rfl rfl rfl (fun _ => ?_) (fun z => absurd (show (nI 0 : Int32) = 0 by decide) z)
      cases hm : wayM tx len (atP E.1 0) (atP E.1 1) E.1.length p with
      | ok z9 =>
        obtain ⟨a, b, t, q⟩ := z9
        exact absurd (by rw [(c1 a b t q hm).2.2.2]) ok
      | error q => exact wp_vrt k_75 rfl rfl (K0 q hm h6 _ (R.rd w6) (c0 q hm).1 (c0 q hm).2)
  refine wp_pure k_75 rfl rfl ?_
  refine wp_iv k_75 rfl [] rfl w4.2.2.2.2.1 (r := []) (Nat.le_of_ble_eq_true rfl) (Nat.le_of_ble_eq_true rfl) rfl ?_
  refine c_peek B w4 hv ⟨rfl, ?_⟩
  refine wp_pure k_75 rfl rfl ?_
  refine wp_pure k_75 rfl rfl ?_
  refine wp_kn k_75 rfl rfl ?_
  refine wp_br k_75 rfl rfl rfl rfl (fun (z28 : kv = nI 62) => ?_) (fun (z28 : ¬ (kv = nI 62)) => ?_)
  · refine wp_pure k_75 rfl rfl ?_
    refine wp_pure k_75 rfl rfl ?_
    refine wp_get k_75 rfl w4.2.2.2.2.1 w4.2.2.2.2.2.2.1 ?_
    refine wp_kn k_75 rfl rfl ?_
    refine wp_addN k_75 rfl ?_
    refine wp_put k_75 rfl w4.2.2.2.2.1 rfl rfl ?_
    refine wp_br k_75 rfl rfl rfl rfl (fun _ => ?_) (fun z => absurd trivial z)
    exact T _ _ (wkC_y (by rw [hv]; exact Or.inl z28)) (w4.nx (by have := tkc (hv.trans z28) (by decide); omega))
  · refine wp_pure k_75 rfl rfl ?_
    refine wp_kn k_75 rfl rfl ?_
    refine wp_br k_75 rfl rfl rfl rfl (fun (z34 : ¬ kv = nI 61) => ?_) (fun (z34 : ¬ (¬ kv = nI 61)) => ?_)
    · refine wp_pure k_75 rfl rfl ?_
      refine wp_pure k_75 rfl rfl ?_
      refine wp_get k_75 rfl w4.2.2.2.2.1 w4.2.2.2.2.2.2.1 ?_
      refine wp_iv k_75 rfl [.int (nI (s3.1))] rfl w4.2.2.2.2.1 (r := []) (Nat.le_of_ble_eq_true rfl) (Nat.le_of_ble_eq_true rfl) rfl ?_
      refine c_refuse B w4 (fun h5 w5 => ⟨rfl, ?_⟩)
      exact T _ _ (wkC_n (by rw [hv]; exact fun z => z.elim z28 z34)) w5
    · refine wp_pure k_75 rfl rfl ?_
      refine wp_pure k_75 rfl rfl ?_
      refine wp_get k_75 rfl w4.2.2.2.2.1 w4.2.2.2.2.2.2.1 ?_
      refine wp_kn k_75 rfl rfl ?_
      refine wp_addN k_75 rfl ?_
      refine wp_put k_75 rfl w4.2.2.2.2.1 rfl rfl ?_
      refine wp_br k_75 rfl rfl rfl rfl (fun _ => ?_) (fun z => absurd trivial z)
      exact T _ _ (wkC_y (by rw [hv]; exact Or.inr (Classical.not_not.mp z34))) (w4.nx (by have := tkc (hv.trans (Classical.not_not.mp z34)) (by decide); omega))
theorem c_srv9 {h0 h : sm_H} {Q : Nat → Option Value → sm_H → Prop} {r sg sp ed len : Nat} {tx : Nat → Int32} {E : Ed} {p dT dU : Nat} (R : RS h0 h r sg sp ed len tx E (p, -1) dT dU) (hn : E.1.length < 2 ^ 12) (hnw : E.2.2.length < 2 ^ 12) (K1 : ∀ a b q, srvM tx len (atP E.1 0) (atP E.1 1) E.1.length p = .ok (a, b, q) → ∀ h', RS h0 h' r sg sp ed len tx (E.1, E.2.1, E.2.2 ++ [(a, b)]) (q, -1) (dT + 2) (dU + (2 * E.2.2.length + 17)) → Q 0 none h') (K0 : ∀ q, srvM tx len (atP E.1 0) (atP E.1 1) E.1.length p = .error q → ∀ h' s', RS h0 h' r sg sp ed len tx E s' dT dU → s'.2 = nI q → q ≤ len → Q 0 none h') : sm_wp 79 0 [.ref r, jk, jk] [] h Q := by
  obtain ⟨B, w, f, ⟨r1, r2, r3, r4, r5⟩, ⟨z1, z2⟩, lp, lw, lv, ls, ep, ew, ev, es, pa, wa, va, sa, X, O⟩ := id R
  have hD : ∀ a, dR h0 h r sp a → a ≠ r := fun a ha => ha.2.2.1
  have hT0 := f.1
  have hzr : hZ h ≠ r := by have := f.2.2.2.2.1; omega
  have hB := B.2.2.2.2.2.2.2.2.2.2
  have hsl := w.2.2.2.2.2.2.2.2
  refine wp_pure k_79 rfl rfl ?_
  refine wp_kn k_79 rfl rfl ?_
  refine wp_km k_79 rfl rfl ?_
  refine wp_iv k_79 rfl [.int (nI 1), .int (-1)] rfl w.2.2.2.2.1 (r := []) (Nat.le_of_ble_eq_true rfl) (Nat.le_of_ble_eq_true rfl) rfl ?_
  refine c_used9 B w X O hD hzr (fun h2 n1 g1 w2 => ⟨rfl, ?_⟩)
  refine wp_pure k_79 rfl rfl ?_
  refine wp_pure k_79 rfl rfl ?_
  refine wp_kn k_79 rfl rfl ?_
  refine wp_km k_79 rfl rfl ?_
  refine wp_iv k_79 rfl [.int (nI 2), .int (-1)] rfl w2.2.2.2.2.1 (r := []) (Nat.le_of_ble_eq_true rfl) (Nat.le_of_ble_eq_true rfl) rfl ?_
  refine c_used9 B w2 X O hD hzr (fun h3 n2 g2 w3 => ⟨rfl, ?_⟩)
  refine wp_pure k_79 rfl rfl ?_
  refine wp_pure k_79 rfl rfl ?_
  refine wp_iv k_79 rfl [] rfl w3.2.2.2.2.1 (r := []) (Nat.le_of_ble_eq_true rfl) (Nat.le_of_ble_eq_true rfl) rfl ?_
  refine c_ends B w3 (fun h4 w4 ok => ⟨rfl, ?_⟩) (fun h4 w4 ok => ⟨rfl, ?_⟩)
  · obtain ⟨c1, c0⟩ := srvC9 (by omega) hsl (by omega) g1 g2
    have hmo : ∃ z9, srvM tx len (atP E.1 0) (atP E.1 1) E.1.length p = .ok z9 := by
      cases hm : srvM tx len (atP E.1 0) (atP E.1 1) E.1.length p with
      | error q => exact absurd ((c0 q hm).1.symm.trans ok) (nI_nm1 (by have := (c0 q hm).2; omega))
      | ok z9 => exact ⟨z9, rfl⟩
    obtain ⟨⟨a, b, q⟩, hm⟩ := hmo
    obtain ⟨k1, k2, k4⟩ := c1 a b q hm
    rw [k4] at w4
    have R7 := R.rd w4
    have o7 := srvM_ok hm
    rw [k1, k2]
    refine wp_br k_79 rfl rfl rfl rfl (fun z => absurd z (show ¬ ((nI 1 : Int32) = 0) by decide)) (fun _ => ?_)
    refine wp_pure k_79 rfl rfl ?_
    refine wp_get k_79 rfl w4.2.2.2.2.1 ((w4.2.2.2.2.2.1 1026 (by decide) (by decide)).trans B.2.2.2.1) ?_
    refine wp_pure k_79 rfl rfl ?_
    refine wp_pure k_79 rfl rfl ?_
    refine wp_iv k_79 rfl [.int (nI a), .int (nI b)] rfl ((w4.2.2.2.1 ed (hD _ O.1.1)).1.trans X.1.1) (r := []) (Nat.le_of_ble_eq_true rfl) (Nat.le_of_ble_eq_true rfl) rfl ?_
    refine c_addServe R7 hnw o7.2.2.1 (fun h8 R8 _ => ⟨rfl, ?_⟩)
    exact wp_vrt k_79 rfl rfl (K1 a b q hm h8 R8)
  · obtain ⟨c1, c0⟩ := srvC9 (by omega) hsl (by omega) g1 g2
    refine wp_br k_79 rfl rfl rfl rfl (fun _ => ?_) (fun z => absurd (show (nI 0 : Int32) = 0 by decide) z)
    cases hm : srvM tx len (atP E.1 0) (atP E.1 1) E.1.length p with
    | ok z9 =>
      obtain ⟨a, b, q⟩ := z9
      exact absurd (by rw [(c1 a b q hm).2.2]) ok
    | error q => exact wp_vrt k_79 rfl rfl (K0 q hm h4 _ (R.rd w4) (c0 q hm).1 (c0 q hm).2)
