theorem RS.al2 {h0 h h3 hx h5 : sm_H} {r sg sp ed len : Nat} {tx : Nat → Int32} {E : Ed} {s s3 s5 : Nat × Int32} {dT dU : Nat} (R : RS h0 h r sg sp ed len tx E s dT dU) (w3 : RDW h h3 r len s3) (ax : hT hx = hT h3 + 1 ∧ hU hx = hU h3 + 16 ∧ hZ hx = hZ h3 ∧ ∀ a, a ≠ hT h3 → samA h3 hx a) (w5 : RDW hx h5 r len s5) : RS h0 h5 r sg sp ed len tx E s5 (dT + 1) (dU + 16) := by
  obtain ⟨f5, ro, t5, t3, _⟩ := al_glue w3 ax w5 R.2.2.2.1.2.1
  exact R.fr f5 w5.self ro
theorem c_rack {h0 h : sm_H} {Q : Nat → Option Value → sm_H → Prop} {r sg sp ed len : Nat} {tx : Nat → Int32} {E : Ed} {p dT dU : Nat} (R : RS h0 h r sg sp ed len tx E (p, -1) dT dU) (hWd : EdW E) (hn : E.1.length < 2 ^ 12) (K1 : ∀ v x y w hh q, rackM tx len (atP E.1 0) E.1.length p = .ok (v, x, y, w, hh, q) → ∀ h', RS h0 h' r sg sp ed len tx (E.1 ++ [plR v x y w hh], E.2.1, E.2.2) (q, -1) (dT + 2) (dU + 2 * E.1.length + 30) → Q 0 none h') (K0 : ∀ q, rackM tx len (atP E.1 0) E.1.length p = .error q → ∀ h' s', RS h0 h' r sg sp ed len tx E s' (dT + 1) (dU + 16) → s'.2 = nI q → q ≤ len → Q 0 none h') : sm_wp 61 0 [.ref r, jk, jk] [] h Q := by
  obtain ⟨B, w, f, ⟨r1, r2, r3, r4, r5⟩, ⟨z1, z2⟩, esp, sn, sf, lp, ep, pa, bt, SL, X, O⟩ := id R
  have hB := B.2.2.2.2.2.2.2.2.2.2
  have hpl : p ≤ len := w.2.2.2.2.2.2.2.2
  have sgr : sg ≠ r := kne B.2.2.2.2.2.1 B.1 (by decide)
  have hD : ∀ a, dR h0 h r sp esp a → a ≠ r := fun a ha => ha.2.2.1
  have hDT : ∀ a, dR h0 h r sp esp a → a < hT h := fun a ha => ha.2.1
  have hT0 := f.1
  have hzr : hZ h ≠ r := by have := f.2.2.2.2.1; omega
  have hzl : hZ h < hT h := by have := f.2.2.2.2.1; omega
  have hsg : sg < hT h := by omega
  obtain ⟨rk1, rk0⟩ := rackC (tx := tx) (len := len) (nm := atP E.1 0) (n := E.1.length) (p := p) hpl (by omega)
  generalize hn9 : nwC tx len (atP E.1 0) E.1.length (p, -1) = n9 at *
  cases hm : rackM tx len (atP E.1 0) E.1.length p with
  | ok z9 =>
    obtain ⟨v, x, y, ww, hh, q⟩ := z9
    obtain ⟨p9, e9, ea⟩ := rk1 v x y ww hh q hm
    rw [e9] at hn9
    obtain ⟨c1, c2, c3, c4, c5⟩ := areaC_ok ea
    refine wp_pure k_61 rfl rfl ?_
    refine wp_iv k_61 rfl [] rfl w.2.2.2.2.1 (r := []) (Nat.le_of_ble_eq_true rfl) (Nat.le_of_ble_eq_true rfl) rfl ?_
    refine c_newN B w X O hD hzr (fun h2 w2 => ⟨rfl, ?_⟩)
    rw [hn9] at w2 ⊢
    show sm_wp 61 _ _ (.int v :: _) _ _
    refine wp_pure k_61 rfl rfl ?_
    refine wp_pure k_61 rfl rfl ?_
    refine wp_pure k_61 rfl rfl ?_
    refine wp_kn k_61 rfl rfl ?_
    refine wp_iv k_61 rfl [.int (v), .int (nI 0)] rfl w2.2.2.2.2.1 (r := []) (Nat.le_of_ble_eq_true rfl) (Nat.le_of_ble_eq_true rfl) rfl ?_
    refine c_rd69 B w2 X O hD hzr r2 hDT (fun h3 w3 => ⟨rfl, ?_⟩)
    rw [c1, c2, c3, c4]
    have ax := @plH_fr h3 E.1.length v (nI 0) x y ww hh
    have pf := @plH_pf h3 E.1.length v (nI 0) x y ww hh pa
    generalize plH h3 E.1.length v (nI 0) x y ww hh = hx at *
    generalize hs4 : (ar4 tx len (p9, -1)).2 = s4 at *
    obtain ⟨Bx, wx⟩ := B.al w3 ax.2.2.2 r2 hsg r4
    show sm_wp 61 _ _ (.ref (hT h3) :: _) _ _
    refine wp_pure k_61 rfl rfl ?_
    refine wp_pure k_61 rfl rfl ?_
    refine wp_iv k_61 rfl [] rfl wx.2.2.2.2.1 (r := []) (Nat.le_of_ble_eq_true rfl) (Nat.le_of_ble_eq_true rfl) rfl ?_
    refine c_ends Bx wx (fun h5 w5 ok => ⟨rfl, ?_⟩) (fun h5 w5 ok => ⟨rfl, ?_⟩)
    · rw [c5] at w5
      obtain ⟨f5, ro, t5, t3, sP⟩ := al_glue w3 ax w5 r2
      have sed := f5.2.2.2.2.2 ed O.1.1.2.1 (hD _ O.1.1)
      have slp := f5.2.2.2.2.2 lp O.1.2.2.1 (hD _ O.1.2)
      refine wp_br k_61 rfl rfl rfl rfl (fun z => absurd z (show ¬ ((nI 1 : Int32) = 0) by decide)) (fun _ => ?_)
      refine wp_pure k_61 rfl rfl ?_
      refine wp_get k_61 rfl w5.2.2.2.2.1 ((ro 1026 (by decide) (by decide)).trans B.2.2.2.1) ?_
      refine wp_get k_61 rfl (sed.1.trans X.1.1) ((sed.2.2.1 _).trans X.1.2.1) ?_
      refine wp_pure k_61 rfl rfl ?_
      refine wp_iv k_61 rfl [.ref (hT h3)] rfl (slp.1.trans X.2.1.1) (r := []) (Nat.le_of_ble_eq_true rfl) (Nat.le_of_ble_eq_true rfl) rfl ?_
      refine c_addP (P := plR v x y ww hh) R hWd SL X O f5 w5.self ro rfl (Or.inl rfl) (by omega) (by omega) (by omega) (pf.same sP) (fun h6 e6 R6 _ _ _ => ⟨rfl, ?_⟩)
      refine wp_pure k_61 rfl rfl ?_
      exact wp_vrt k_61 rfl rfl (K1 v x y ww hh q hm h6 (R6.le (by omega) (by omega)))
    · exact absurd (by rw [c5]) ok
  | error q =>
    obtain ⟨eq, ql⟩ := rk0 q hm
    refine wp_pure k_61 rfl rfl ?_
    refine wp_iv k_61 rfl [] rfl w.2.2.2.2.1 (r := []) (Nat.le_of_ble_eq_true rfl) (Nat.le_of_ble_eq_true rfl) rfl ?_
    refine c_newN B w X O hD hzr (fun h2 w2 => ⟨rfl, ?_⟩)
    rw [hn9] at w2 ⊢
    refine wp_pure k_61 rfl rfl ?_
    refine wp_pure k_61 rfl rfl ?_
    refine wp_pure k_61 rfl rfl ?_
    refine wp_kn k_61 rfl rfl ?_
    refine wp_iv k_61 rfl [.int (n9.1), .int (nI 0)] rfl w2.2.2.2.2.1 (r := []) (Nat.le_of_ble_eq_true rfl) (Nat.le_of_ble_eq_true rfl) rfl ?_
    refine c_rd69 B w2 X O hD hzr r2 hDT (fun h3 w3 => ⟨rfl, ?_⟩)
    have ax := @plH_fr h3 E.1.length n9.1 (nI 0) (ar1 tx len n9.2).1 (ar2 tx len n9.2).1 (ar3 tx len n9.2).1 (ar4 tx len n9.2).1
    have pf := @plH_pf h3 E.1.length n9.1 (nI 0) (ar1 tx len n9.2).1 (ar2 tx len n9.2).1 (ar3 tx len n9.2).1 (ar4 tx len n9.2).1 pa
    generalize plH h3 E.1.length n9.1 (nI 0) (ar1 tx len n9.2).1 (ar2 tx len n9.2).1 (ar3 tx len n9.2).1 (ar4 tx len n9.2).1 = hx at *
    generalize hs4 : (ar4 tx len n9.2).2 = s4 at *
    obtain ⟨Bx, wx⟩ := B.al w3 ax.2.2.2 r2 hsg r4
    show sm_wp 61 _ _ (.ref (hT h3) :: _) _ _
    refine wp_pure k_61 rfl rfl ?_
    refine wp_pure k_61 rfl rfl ?_
    refine wp_iv k_61 rfl [] rfl wx.2.2.2.2.1 (r := []) (Nat.le_of_ble_eq_true rfl) (Nat.le_of_ble_eq_true rfl) rfl ?_
    refine c_ends Bx wx (fun h5 w5 ok => ⟨rfl, ?_⟩) (fun h5 w5 ok => ⟨rfl, ?_⟩)
    · exact absurd (eq.symm.trans ok) (nI_nm1 (by omega))
    · obtain ⟨f5, ro, t5, t3, sP⟩ := al_glue w3 ax w5 r2
      have sed := f5.2.2.2.2.2 ed O.1.1.2.1 (hD _ O.1.1)
      have slp := f5.2.2.2.2.2 lp O.1.2.2.1 (hD _ O.1.2)
      refine wp_br k_61 rfl rfl rfl rfl (fun _ => ?_) (fun z => absurd (show (nI 0 : Int32) = 0 by decide) z)
      exact wp_vrt k_61 rfl rfl (K0 q hm h5 _ (R.al2 w3 ax w5) eq ql)
