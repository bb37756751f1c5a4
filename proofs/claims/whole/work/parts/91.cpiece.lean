theorem pieceC9 {tx : Nat → Int32} {len : Nat} {nm : Nat → Int32} {n p : Nat} (hn31 : n < 2 ^ 30) (hp : p ≤ len) (hl : len < 2 ^ 30) {n1 : Int32 × Nat × Int32} {n2 n3 : Nat × Nat × Int32} (g1 : nwC tx len nm n (p, -1) = n1) (g2 : nuC tx len (nI 0) (nI 39) n1.2 = n2) (g3 : nuC tx len (nI 0) (nI 19) n2.2 = n3) : (∀ v x y q, pieceM tx len nm n p = .ok (v, x, y, q) → n1.1 = v ∧ n2.1 = x ∧ n3.1 = y ∧ skC tx len (nI 10) n3.2 = (q, -1)) ∧ (∀ q, pieceM tx len nm n p = .error q → (skC tx len (nI 10) n3.2).2 = nI q ∧ q ≤ len) := by
  obtain ⟨a, b⟩ := pieceC (tx := tx) (len := len) (nm := nm) (n := n) (p := p) hn31 hp hl
  rw [g1, g2, g3] at b
  refine ⟨fun v x y q e => ?_, b⟩
  obtain ⟨p1, p2, p3, e1, e2, e3, e4⟩ := a v x y q e
  have y1 : n1 = (v, p1, -1) := g1.symm.trans e1
  subst y1
  have y2 : n2 = (x, p2, -1) := g2.symm.trans e2
  subst y2
  have y3 : n3 = (y, p3, -1) := g3.symm.trans e3
  subst y3
  exact ⟨rfl, rfl, rfl, e4⟩
theorem atpC9 {tx : Nat → Int32} {len : Nat} {nm kd : Nat → Int32} {n p : Nat} (hn31 : n < 2 ^ 30) (hp : p ≤ len) (hl : len < 2 ^ 30) {n1 n2 : Int32 × Nat × Int32} (g1 : nwC tx len nm n (p, -1) = n1) (g2 : usC tx len nm kd n (nI 2) (-1) n1.2 = n2) : (∀ v r q, atpM tx len nm kd n p = .ok (v, r, q) → n1.1 = v ∧ n2.1 = nI r ∧ skC tx len (nI 10) n2.2 = (q, -1)) ∧ (∀ q, atpM tx len nm kd n p = .error q → (skC tx len (nI 10) n2.2).2 = nI q ∧ q ≤ len) := by
  obtain ⟨a, b⟩ := atpC (tx := tx) (len := len) (nm := nm) (kd := kd) (n := n) (p := p) hn31 hp hl
  rw [g1, g2] at b
  refine ⟨fun v r q e => ?_, b⟩
  obtain ⟨p1, p2, e1, e2, e4⟩ := a v r q e
  have y1 : n1 = (v, p1, -1) := g1.symm.trans e1
  subst y1
  have y2 : n2 = (nI r, p2, -1) := g2.symm.trans e2
  subst y2
  exact ⟨rfl, rfl, e4⟩
theorem c_piece9 {h0 h : sm_H} {Q : Nat → Option Value → sm_H → Prop} {r sg sp ed len : Nat} {tx : Nat → Int32} {E : Ed} {p dT dU : Nat} (R : RS h0 h r sg sp ed len tx E (p, -1) dT dU) (hWd : EdW E) (hn : E.1.length < 2 ^ 12) (K1 : ∀ v x y q, pieceM tx len (atP E.1 0) E.1.length p = .ok (v, x, y, q) → ∀ h', RS h0 h' r sg sp ed len tx (E.1 ++ [plP v x y], E.2.1, E.2.2) (q, -1) (dT + 2) (dU + 2 * E.1.length + 30) → Q 0 none h') (K0 : ∀ q, pieceM tx len (atP E.1 0) E.1.length p = .error q → ∀ h' s', RS h0 h' r sg sp ed len tx E s' dT dU → s'.2 = nI q → q ≤ len → Q 0 none h') : sm_wp 74 0 [.ref r, jk, jk, jk] [] h Q := by
  obtain ⟨B, w, f, ⟨r1, r2, r3, r4, r5⟩, ⟨z1, z2⟩, esp, sn, sf, lp, ep, pa, bt, SL, X, O⟩ := id R
  have hD : ∀ a, dR h0 h r sp esp a → a ≠ r := fun a ha => ha.2.2.1
  have hDT : ∀ a, dR h0 h r sp esp a → a < hT h := fun a ha => ha.2.1
  have hT0 := f.1
  have hzr : hZ h ≠ r := by have := f.2.2.2.2.1; omega
  have hB := B.2.2.2.2.2.2.2.2.2.2
  have hsl := w.2.2.2.2.2.2.2.2
  refine wp_pure k_74 rfl rfl ?_
  refine wp_iv k_74 rfl [] rfl w.2.2.2.2.1 (r := []) (Nat.le_of_ble_eq_true rfl) (Nat.le_of_ble_eq_true rfl) rfl ?_
  refine c_newN9 B w X O hD hzr (fun h2 n1 g1 w2 => ⟨rfl, ?_⟩)
  refine wp_pure k_74 rfl rfl ?_
  refine wp_pure k_74 rfl rfl ?_
  refine wp_kn k_74 rfl rfl ?_
  refine wp_kn k_74 rfl rfl ?_
  refine wp_iv k_74 rfl [.int (nI 0), .int (nI 39)] rfl w2.2.2.2.2.1 (r := []) (Nat.le_of_ble_eq_true rfl) (Nat.le_of_ble_eq_true rfl) rfl ?_
  refine c_num9 B w2 (fun h3 n2 g2 w3 => ⟨rfl, ?_⟩)
  refine wp_pure k_74 rfl rfl ?_
  refine wp_pure k_74 rfl rfl ?_
  refine wp_kn k_74 rfl rfl ?_
  refine wp_kn k_74 rfl rfl ?_
  refine wp_iv k_74 rfl [.int (nI 0), .int (nI 19)] rfl w3.2.2.2.2.1 (r := []) (Nat.le_of_ble_eq_true rfl) (Nat.le_of_ble_eq_true rfl) rfl ?_
  refine c_num9 B w3 (fun h4 n3 g3 w4 => ⟨rfl, ?_⟩)
  refine wp_pure k_74 rfl rfl ?_
  refine wp_pure k_74 rfl rfl ?_
  refine wp_iv k_74 rfl [] rfl w4.2.2.2.2.1 (r := []) (Nat.le_of_ble_eq_true rfl) (Nat.le_of_ble_eq_true rfl) rfl ?_
  refine c_ends B w4 (fun h5 w5 ok => ⟨rfl, ?_⟩) (fun h5 w5 ok => ⟨rfl, ?_⟩)
  · obtain ⟨c1, c0⟩ := pieceC9 (by omega) hsl (by omega) g1 g2 g3
    have hmo : ∃ z9, pieceM tx len (atP E.1 0) E.1.length p = .ok z9 := by
      cases hm : pieceM tx len (atP E.1 0) E.1.length p with
      | error q => exact absurd ((c0 q hm).1.symm.trans ok) (nI_nm1 (by have := (c0 q hm).2; omega))
      | ok z9 => exact ⟨z9, rfl⟩
    obtain ⟨⟨v, x, y, q⟩, hm⟩ := hmo
    obtain ⟨k1, k2, k3, k4⟩ := c1 v x y q hm
    rw [k4] at w5
    have R7 := R.rd w5
    obtain ⟨SL7, X7, O7, B7⟩ := R.rdx SL X O w5
    refine wp_br k_74 rfl rfl rfl rfl (fun z => absurd z (show ¬ ((nI 1 : Int32) = 0) by decide)) (fun _ => ?_)
    refine wp_pure k_74 rfl rfl ?_
    refine wp_get k_74 rfl B7.1 B7.2.2.2.1 ?_
    refine wp_get k_74 rfl X7.1.1 X7.1.2.1 ?_
    refine wp_new k_74 rfl rfl ?_
    show sm_wp 74 38 [.ref r, .int (n1.1), .int (nI (n2.1)), .int (nI (n3.1))] [.ref (hT h5), .ref lp] _ Q
    refine wp_pure k_74 rfl rfl ?_
    refine wp_pure k_74 rfl rfl ?_
    refine wp_get k_74 rfl ((if_neg (Nat.ne_of_lt R7.2.2.2.1.2.1)).trans B7.1) ((if_neg (Nat.ne_of_lt R7.2.2.2.1.2.1)).trans B7.2.2.2.1) ?_
    refine wp_get k_74 rfl ((if_neg (Nat.ne_of_lt O7.1.1.2.1)).trans X7.1.1) ((if_neg (Nat.ne_of_lt O7.1.1.2.1)).trans X7.1.2.1) ?_
    refine wp_iv k_74 rfl [] rfl ((if_neg (Nat.ne_of_lt O7.1.2.2.1)).trans X7.2.1.1) (r := [.ref (hT h5), .ref (hT h5), .ref lp]) (Nat.le_of_ble_eq_true rfl) (Nat.le_of_ble_eq_true rfl) rfl ?_
    refine s_size ((if_neg (Nat.ne_of_lt O7.1.2.2.1)).trans X7.2.1.1) ((if_neg (Nat.ne_of_lt O7.1.2.2.1)).trans X7.2.1.2.1) ⟨rfl, ?_⟩
    refine wp_pure k_74 rfl rfl ?_
    refine wp_kn k_74 rfl rfl ?_
    refine wp_pure k_74 rfl rfl ?_
    refine wp_pure k_74 rfl rfl ?_
    refine wp_kn k_74 rfl rfl ?_
    refine wp_kn k_74 rfl rfl ?_
    refine wp_ic k_74 rfl (by decide) [.int (nI (E.1.length)), .int (n1.1), .int (nI 2), .int (nI (n2.1)), .int (nI (n3.1)), .int (nI 1), .int (nI 1)] rfl (r := [.ref (hT h5), .ref lp]) (Nat.le_of_ble_eq_true rfl) (Nat.le_of_ble_eq_true rfl) rfl ?_
    refine c_47 ⟨rfl, ?_⟩
    have ax := @plH_fr h5 E.1.length n1.1 (nI 2) n2.1 n3.1 1 1
    have pf := @plH_pf h5 E.1.length n1.1 (nI 2) n2.1 n3.1 1 1 pa
    generalize plH h5 E.1.length n1.1 (nI 2) n2.1 n3.1 1 1 = hx at *
    rw [k1, k2, k3] at pf
    refine wp_iv k_74 rfl [.ref (hT h5)] rfl ((ax.2.2.2 lp (Nat.ne_of_lt O7.1.2.2.1)).1.trans X7.2.1.1) (r := []) (Nat.le_of_ble_eq_true rfl) (Nat.le_of_ble_eq_true rfl) rfl ?_
    refine c_addNew (P := plP v x y) R7 hWd hn SL7 X7 O7 rfl (Or.inl rfl) ax pf (fun h8 e8 R8 _ _ _ => ⟨rfl, ?_⟩)
    refine wp_pure k_74 rfl rfl ?_
    exact wp_vrt k_74 rfl rfl (K1 v x y q hm h8 R8)
  · obtain ⟨c1, c0⟩ := pieceC9 (by omega) hsl (by omega) g1 g2 g3
    refine wp_br k_74 rfl rfl rfl rfl (fun _ => ?_) (fun z => absurd (show (nI 0 : Int32) = 0 by decide) z)
    cases hm : pieceM tx len (atP E.1 0) E.1.length p with
    | ok z9 =>
      obtain ⟨v, x, y, q⟩ := z9
      exact absurd (by rw [(c1 v x y q hm).2.2.2]) ok
    | error q => exact wp_vrt k_74 rfl rfl (K0 q hm h5 _ (R.rd w5) (c0 q hm).1 (c0 q hm).2)
theorem c_atp9 {h0 h : sm_H} {Q : Nat → Option Value → sm_H → Prop} {r sg sp ed len : Nat} {tx : Nat → Int32} {E : Ed} {p dT dU : Nat} (R : RS h0 h r sg sp ed len tx E (p, -1) dT dU) (hWd : EdW E) (hn : E.1.length < 2 ^ 12) {kd : Nat} (K1 : ∀ v k q, atpM tx len (atP E.1 0) (atP E.1 1) E.1.length p = .ok (v, k, q) → ∀ h', RS h0 h' r sg sp ed len tx (E.1 ++ [plA E.1 v kd k []], E.2.1, E.2.2) (q, -1) (dT + 2) (dU + 2 * E.1.length + 30) → Q 0 none h') (K0 : ∀ q, atpM tx len (atP E.1 0) (atP E.1 1) E.1.length p = .error q → ∀ h' s', RS h0 h' r sg sp ed len tx E s' dT dU → s'.2 = nI q → q ≤ len → Q 0 none h') : sm_wp 76 0 [.ref r, .int (nI kd), jk, jk] [] h Q := by
  obtain ⟨B, w, f, ⟨r1, r2, r3, r4, r5⟩, ⟨z1, z2⟩, esp, sn, sf, lp, ep, pa, bt, SL, X, O⟩ := id R
  have hD : ∀ a, dR h0 h r sp esp a → a ≠ r := fun a ha => ha.2.2.1
  have hDT : ∀ a, dR h0 h r sp esp a → a < hT h := fun a ha => ha.2.1
  have hT0 := f.1
  have hzr : hZ h ≠ r := by have := f.2.2.2.2.1; omega
  have hB := B.2.2.2.2.2.2.2.2.2.2
  have hsl := w.2.2.2.2.2.2.2.2
  refine wp_pure k_76 rfl rfl ?_
  refine wp_iv k_76 rfl [] rfl w.2.2.2.2.1 (r := []) (Nat.le_of_ble_eq_true rfl) (Nat.le_of_ble_eq_true rfl) rfl ?_
  refine c_newN9 B w X O hD hzr (fun h2 n1 g1 w2 => ⟨rfl, ?_⟩)
  refine wp_pure k_76 rfl rfl ?_
  refine wp_pure k_76 rfl rfl ?_
  refine wp_kn k_76 rfl rfl ?_
  refine wp_pure k_76 rfl rfl ?_
  refine wp_iv k_76 rfl [.int (nI 2), .null] rfl w2.2.2.2.2.1 (r := []) (Nat.le_of_ble_eq_true rfl) (Nat.le_of_ble_eq_true rfl) rfl ?_
  refine c_used9n B w2 X O hD hzr (fun h3 n2 g2 e2 w3 => ⟨rfl, ?_⟩) (fun h3 n2 k2 g2 kl2 e2 w3 => ⟨rfl, ?_⟩)
  · refine wp_pure k_76 rfl rfl ?_
    refine wp_pure k_76 rfl rfl ?_
    refine wp_iv k_76 rfl [] rfl w3.2.2.2.2.1 (r := []) (Nat.le_of_ble_eq_true rfl) (Nat.le_of_ble_eq_true rfl) rfl ?_
    refine c_ends B w3 (fun h4 w4 ok => ⟨rfl, ?_⟩) (fun h4 w4 ok => ⟨rfl, ?_⟩)
    · obtain ⟨c1, c0⟩ := atpC9 (by omega) hsl (by omega) g1 g2
      have hmo : ∃ z9, atpM tx len (atP E.1 0) (atP E.1 1) E.1.length p = .ok z9 := by
        cases hm : atpM tx len (atP E.1 0) (atP E.1 1) E.1.length p with
        | error q => exact absurd ((c0 q hm).1.symm.trans ok) (nI_nm1 (by have := (c0 q hm).2; omega))
        | ok z9 => exact ⟨z9, rfl⟩
      obtain ⟨⟨v, k, q⟩, hm⟩ := hmo
      obtain ⟨k1_, k2_, k4⟩ := c1 v k q hm
      have o7 := atpM_ok hm
      exact absurd (e2.symm.trans k2_) (fun z => nI_nm1 (by have := o7.2.2.1; omega) z.symm)
    · obtain ⟨c1, c0⟩ := atpC9 (by omega) hsl (by omega) g1 g2
      refine wp_br k_76 rfl rfl rfl rfl (fun _ => ?_) (fun z => absurd (show (nI 0 : Int32) = 0 by decide) z)
      cases hm : atpM tx len (atP E.1 0) (atP E.1 1) E.1.length p with
      | ok z9 =>
        obtain ⟨v, k, q⟩ := z9
        exact absurd (by rw [(c1 v k q hm).2.2]) ok
      | error q => exact wp_vrt k_76 rfl rfl (K0 q hm h4 _ (R.rd w4) (c0 q hm).1 (c0 q hm).2)
  · refine wp_pure k_76 rfl rfl ?_
    refine wp_pure k_76 rfl rfl ?_
    refine wp_iv k_76 rfl [] rfl w3.2.2.2.2.1 (r := []) (Nat.le_of_ble_eq_true rfl) (Nat.le_of_ble_eq_true rfl) rfl ?_
    refine c_ends B w3 (fun h4 w4 ok => ⟨rfl, ?_⟩) (fun h4 w4 ok => ⟨rfl, ?_⟩)
    · obtain ⟨c1, c0⟩ := atpC9 (by omega) hsl (by omega) g1 g2
      have hmo : ∃ z9, atpM tx len (atP E.1 0) (atP E.1 1) E.1.length p = .ok z9 := by
        cases hm : atpM tx len (atP E.1 0) (atP E.1 1) E.1.length p with
        | error q => exact absurd ((c0 q hm).1.symm.trans ok) (nI_nm1 (by have := (c0 q hm).2; omega))
        | ok z9 => exact ⟨z9, rfl⟩
      obtain ⟨⟨v, k, q⟩, hm⟩ := hmo
      obtain ⟨k1_, k2_, k4⟩ := c1 v k q hm
      have o7 := atpM_ok hm
      have ek := (nI_eq (by omega) (by have := o7.2.2.1; omega)).mp (e2.symm.trans k2_)
      subst ek
      rw [k4] at w4
      have R7 := R.rd w4
      obtain ⟨SL7, X7, O7, B7⟩ := R.rdx SL X O w4
      rw [k1_]
      have pk7 := (X7.2.2.1 k2 kl2).1
      refine wp_br k_76 rfl rfl rfl rfl (fun z => absurd z (show ¬ ((nI 1 : Int32) = 0) by decide)) (fun _ => ?_)
      refine wp_pure k_76 rfl rfl ?_
      refine wp_br k_76 rfl rfl rfl rfl (fun _ => ?_) (fun z => absurd trivial z)
      refine wp_pure k_76 rfl rfl ?_
      refine wp_get k_76 rfl B7.1 B7.2.2.2.1 ?_
      refine wp_get k_76 rfl X7.1.1 X7.1.2.1 ?_
      refine wp_pure k_76 rfl rfl ?_
      refine wp_pure k_76 rfl rfl ?_
      refine wp_pure k_76 rfl rfl ?_
      refine wp_pure k_76 rfl rfl ?_
      refine wp_iv k_76 rfl [.int v, .int (nI kd), .ref (pa k2)] rfl B7.1 (r := [.ref lp]) (Nat.le_of_ble_eq_true rfl) (Nat.le_of_ble_eq_true rfl) rfl ?_
      refine c_newAt B7 X7 hWd o7.2.2.1 o7.2.2.2.1 (fun hy ay pf => ⟨rfl, ?_⟩)
      refine wp_iv k_76 rfl [.ref (hT h4)] rfl ((ay.2.2.2 lp (Nat.ne_of_lt O7.1.2.2.1)).1.trans X7.2.1.1) (r := []) (Nat.le_of_ble_eq_true rfl) (Nat.le_of_ble_eq_true rfl) rfl ?_
      refine c_addNew (P := plA E.1 v kd k2 []) R7 hWd hn SL7 X7 O7 rfl (Or.inr ⟨k2, rfl, kl2⟩) ay pf (fun h8 e8 R8 _ _ _ => ⟨rfl, ?_⟩)
      refine wp_pure k_76 rfl rfl ?_
      exact wp_vrt k_76 rfl rfl (K1 v k2 q hm h8 R8)
    · obtain ⟨c1, c0⟩ := atpC9 (by omega) hsl (by omega) g1 g2
      refine wp_br k_76 rfl rfl rfl rfl (fun _ => ?_) (fun z => absurd (show (nI 0 : Int32) = 0 by decide) z)
      cases hm : atpM tx len (atP E.1 0) (atP E.1 1) E.1.length p with
      | ok z9 =>
        obtain ⟨v, k, q⟩ := z9
        exact absurd (by rw [(c1 v k q hm).2.2]) ok
      | error q => exact wp_vrt k_76 rfl rfl (K0 q hm h4 _ (R.rd w4) (c0 q hm).1 (c0 q hm).2)
