theorem PF.lb {h : sm_H} {p n k : Nat} {pa : Nat → Nat} {a0 a1 a2 a3 a4 a5 a6 a7 l : Int32} (hk : k < 2 ^ 31) (x : PF h p pa n (plF [a0, a1, a2, a3, a4, a5, a6, a7])) : PF (putF (putF h 774 p (.int l)) 775 p (.ref (pa k))) p pa n (plF [a0, a1, a2, a3, a4, a5, l, nI k]) := by
  obtain ⟨x0, x1, x2, x3, x4, x5, x6, x7, x8, x9, x10⟩ := x
  refine ⟨hC_putF.trans (hC_putF.trans x0), fun a ha => ?_, ?_, (hF_putF_f (by decide)).trans ((hF_putF_f (by decide)).trans x3), (hF_putF_f (by decide)).trans ((hF_putF_f (by decide)).trans x4), (hF_putF_f (by decide)).trans ((hF_putF_f (by decide)).trans x5), (hF_putF_f (by decide)).trans ((hF_putF_f (by decide)).trans x6), (hF_putF_f (by decide)).trans ((hF_putF_f (by decide)).trans x7), (hF_putF_f (by decide)).trans ((hF_putF_f (by decide)).trans x8), (hF_putF_f (by decide)).trans ((hF_putF_f (by decide)).trans x9), (hF_putF_f (by decide)).trans ((hF_putF_f (by decide)).trans x10)⟩
  · match a, ha with
    | 0, _ => exact (hF_putF_f (by decide)).trans ((hF_putF_f (by decide)).trans (x1 0 (by decide)))
    | 1, _ => exact (hF_putF_f (by decide)).trans ((hF_putF_f (by decide)).trans (x1 1 (by decide)))
    | 2, _ => exact (hF_putF_f (by decide)).trans ((hF_putF_f (by decide)).trans (x1 2 (by decide)))
    | 3, _ => exact (hF_putF_f (by decide)).trans ((hF_putF_f (by decide)).trans (x1 3 (by decide)))
    | 4, _ => exact (hF_putF_f (by decide)).trans ((hF_putF_f (by decide)).trans (x1 4 (by decide)))
    | 5, _ => exact (hF_putF_f (by decide)).trans ((hF_putF_f (by decide)).trans (x1 5 (by decide)))
    | 6, _ => exact (hF_putF_f (by decide)).trans hF_putF
  · show _ = uV pa (nI k)
    rw [uV_y hk]
    exact hF_putF
theorem c_num9 {h h1 : sm_H} {Q : Nat → Option Value → sm_H → Prop} {r sg sp ed len : Nat} {tx : Nat → Int32} (B : RB h r sg sp ed len tx) {s : Nat × Int32} (w : RDW h h1 r len s) {lo hi : Int32} (K : ∀ h2 n9, nuC tx len lo hi s = n9 → RDW h h2 r len n9.2 → Q 0 (some (.int (nI n9.1))) h2) : sm_wp 70 0 [.ref r, .int lo, .int hi, jk, jk, jk] [] h1 Q := c_num B w (fun h2 w2 => K h2 _ rfl w2)
theorem c_newN9 {h h1 : sm_H} {Q : Nat → Option Value → sm_H → Prop} {r sg sp ed len : Nat} {tx : Nat → Int32} (B : RB h r sg sp ed len tx) {s : Nat × Int32} (w : RDW h h1 r len s) {D : Nat → Prop} {lp ep : Nat} {pa : Nat → Nat} {bt : Nat → Nat → Nat} {E : Ed} {un : Nat → Int32} (X : EdF h ed lp ep pa bt E un) (O : EdO h D ed lp ep pa E) (hD : ∀ a, D a → a ≠ r) (hzr : hZ h ≠ r) (K : ∀ h2 n9, nwC tx len (atP E.1 0) E.1.length s = n9 → RDW h h2 r len n9.2 → Q 0 (some (.int n9.1)) h2) : sm_wp 62 0 [.ref r, jk, jk] [] h1 Q := c_newN B w X O hD hzr (fun h2 w2 => K h2 _ rfl w2)
theorem c_used9n {h h1 : sm_H} {Q : Nat → Option Value → sm_H → Prop} {r sg sp ed len : Nat} {tx : Nat → Int32} (B : RB h r sg sp ed len tx) {s : Nat × Int32} (w : RDW h h1 r len s) {D : Nat → Prop} {lp ep : Nat} {pa : Nat → Nat} {bt : Nat → Nat → Nat} {E : Ed} {un : Nat → Int32} (X : EdF h ed lp ep pa bt E un) (O : EdO h D ed lp ep pa E) (hD : ∀ a, D a → a ≠ r) (hzr : hZ h ≠ r) {c : Int32}  (K0 : ∀ h2 n9, usC tx len (atP E.1 0) (atP E.1 1) E.1.length c (-1) s = n9 → n9.1 = -1 → RDW h h2 r len n9.2 → Q 0 (some .null) h2) (K1 : ∀ h2 n9 k, usC tx len (atP E.1 0) (atP E.1 1) E.1.length c (-1) s = n9 → k < E.1.length → n9.1 = nI k → RDW h h2 r len n9.2 → Q 0 (some (.ref (pa k))) h2) : sm_wp 73 0 [.ref r, .int c, .null, jk, jk] [] h1 Q := by
  have nlen := X.2.1.2.2.2.2.1
  have key : ∀ h2, RDW h h2 r len (usC tx len (atP E.1 0) (atP E.1 1) E.1.length c (-1) s).2 → Q 0 (some (uV pa (usC tx len (atP E.1 0) (atP E.1 1) E.1.length c (-1) s).1)) h2 := fun h2 w2 => by
    rcases @usC_v tx len (atP E.1 0) (atP E.1 1) E.1.length c (-1) s with e | ⟨k, hk, e⟩
    · rw [e, uV_n]; exact K0 h2 _ rfl e w2
    · rw [e, uV_y (by omega)]; exact K1 h2 _ k rfl hk e w2
  have z := c_used B w X O hD hzr (bar := (-1)) (Or.inl rfl) key
  rw [uV_n] at z
  exact z
theorem c_used9b {h h1 : sm_H} {Q : Nat → Option Value → sm_H → Prop} {r sg sp ed len : Nat} {tx : Nat → Int32} (B : RB h r sg sp ed len tx) {s : Nat × Int32} (w : RDW h h1 r len s) {D : Nat → Prop} {lp ep : Nat} {pa : Nat → Nat} {bt : Nat → Nat → Nat} {E : Ed} {un : Nat → Int32} (X : EdF h ed lp ep pa bt E un) (O : EdO h D ed lp ep pa E) (hD : ∀ a, D a → a ≠ r) (hzr : hZ h ≠ r) {c : Int32} {b : Nat} (hb : b < E.1.length) (K0 : ∀ h2 n9, usC tx len (atP E.1 0) (atP E.1 1) E.1.length c (nI b) s = n9 → n9.1 = -1 → RDW h h2 r len n9.2 → Q 0 (some .null) h2) (K1 : ∀ h2 n9 k, usC tx len (atP E.1 0) (atP E.1 1) E.1.length c (nI b) s = n9 → k < E.1.length → n9.1 = nI k → RDW h h2 r len n9.2 → Q 0 (some (.ref (pa k))) h2) : sm_wp 73 0 [.ref r, .int c, .ref (pa b), jk, jk] [] h1 Q := by
  have nlen := X.2.1.2.2.2.2.1
  have key : ∀ h2, RDW h h2 r len (usC tx len (atP E.1 0) (atP E.1 1) E.1.length c (nI b) s).2 → Q 0 (some (uV pa (usC tx len (atP E.1 0) (atP E.1 1) E.1.length c (nI b) s).1)) h2 := fun h2 w2 => by
    rcases @usC_v tx len (atP E.1 0) (atP E.1 1) E.1.length c (nI b) s with e | ⟨k, hk, e⟩
    · rw [e, uV_n]; exact K0 h2 _ rfl e w2
    · rw [e, uV_y (by omega)]; exact K1 h2 _ k rfl hk e w2
  have z := c_used B w X O hD hzr (bar := (nI b)) (Or.inr ⟨b, hb, rfl⟩) key
  rw [uV_y (by omega)] at z
  exact z
theorem c_rd699 {h h1 : sm_H} {Q : Nat → Option Value → sm_H → Prop} {r sg sp ed len : Nat} {tx : Nat → Int32} (B : RB h r sg sp ed len tx) {s : Nat × Int32} (w : RDW h h1 r len s) {D : Nat → Prop} {lp ep : Nat} {pa : Nat → Nat} {bt : Nat → Nat → Nat} {E : Ed} {un : Nat → Int32} (X : EdF h ed lp ep pa bt E un) (O : EdO h D ed lp ep pa E) (hD : ∀ a, D a → a ≠ r) (hzr : hZ h ≠ r) (hr : r < hT h) (hDT : ∀ a, D a → a < hT h) {nm kd : Int32} (K : ∀ h2 x1 x2 x3 x4 s4, (ar1 tx len s).1 = x1 → (ar2 tx len s).1 = x2 → (ar3 tx len s).1 = x3 → (ar4 tx len s).1 = x4 → (ar4 tx len s).2 = s4 → RDW h h2 r len s4 → Q 0 (some (.ref (hT h2))) (plH h2 E.1.length nm kd x1 x2 x3 x4)) : sm_wp 69 0 [.ref r, .int nm, .int kd, jk, jk, jk, jk] [] h1 Q := c_rd69 B w X O hD hzr hr hDT (fun h2 w2 => K h2 _ _ _ _ _ rfl rfl rfl rfl rfl w2)
theorem binC9 {tx : Nat → Int32} {len : Nat} {nm kd : Nat → Int32} {n p : Nat} (rk1 : ∀ v r l x y w h q, binM tx len nm kd n p = .ok (v, r, l, x, y, w, h, q) → ∃ p1 p2 p3, nwC tx len nm n (p, -1) = (v, p1, -1) ∧ usC tx len nm kd n (nI 0) (-1) (p1, -1) = (nI r, p2, -1) ∧ nuC tx len (nI 1) (nI 9) (p2, -1) = (l, p3, -1) ∧ areaM tx len p3 = .ok (x, y, w, h, q)) {n1 : Int32 × Nat × Int32} {n2 : Int32 × Nat × Int32} {n3 : Nat × Nat × Int32} {x1 x2 x3 x4 : Nat} {s4 : Nat × Int32} (g1 : nwC tx len nm n (p, -1) = n1) (g2 : usC tx len nm kd n (nI 0) (-1) n1.2 = n2) (g3 : nuC tx len (nI 1) (nI 9) n2.2 = n3) (h1 : (ar1 tx len n3.2).1 = x1) (h2 : (ar2 tx len n3.2).1 = x2) (h3 : (ar3 tx len n3.2).1 = x3) (h4 : (ar4 tx len n3.2).1 = x4) (hs : (ar4 tx len n3.2).2 = s4) {v : Int32} {rr l x y ww hh q : Nat} (hm : binM tx len nm kd n p = .ok (v, rr, l, x, y, ww, hh, q)) : n1.1 = v ∧ n2.1 = nI rr ∧ n3.1 = l ∧ x1 = x ∧ x2 = y ∧ x3 = ww ∧ x4 = hh ∧ skC tx len (nI 10) s4 = (q, -1) := by
  obtain ⟨p1, p2, p3, e1, e2, e3, ea⟩ := rk1 v rr l x y ww hh q hm
  obtain ⟨c1, c2, c3, c4, c5⟩ := areaC_ok ea
  have y1 : n1 = (v, p1, -1) := g1.symm.trans e1
  subst y1
  have y2 : n2 = (nI rr, p2, -1) := g2.symm.trans e2
  subst y2
  have y3 : n3 = (l, p3, -1) := g3.symm.trans e3
  subst y3
  exact ⟨rfl, rfl, rfl, h1.symm.trans c1, h2.symm.trans c2, h3.symm.trans c3, h4.symm.trans c4, by rw [← hs]; exact c5⟩
theorem binC8 {tx : Nat → Int32} {len : Nat} {nm kd : Nat → Int32} {n p : Nat} (rk0 : ∀ q, binM tx len nm kd n p = .error q → (skC tx len (nI 10) (ar4 tx len (nuC tx len (nI 1) (nI 9) (usC tx len nm kd n (nI 0) (-1) (nwC tx len nm n (p, -1)).2).2).2).2).2 = nI q ∧ q ≤ len) {n1 : Int32 × Nat × Int32} {n2 : Int32 × Nat × Int32} {n3 : Nat × Nat × Int32} {s4 : Nat × Int32} (g1 : nwC tx len nm n (p, -1) = n1) (g2 : usC tx len nm kd n (nI 0) (-1) n1.2 = n2) (g3 : nuC tx len (nI 1) (nI 9) n2.2 = n3) (hs : (ar4 tx len n3.2).2 = s4) {q : Nat} (hm : binM tx len nm kd n p = .error q) : (skC tx len (nI 10) s4).2 = nI q := by
  have e := (rk0 q hm).1
  rw [g1, g2, g3, hs] at e
  exact e
theorem c_bin {h0 h : sm_H} {Q : Nat → Option Value → sm_H → Prop} {r sg sp ed len : Nat} {tx : Nat → Int32} {E : Ed} {p dT dU : Nat} (R : RS h0 h r sg sp ed len tx E (p, -1) dT dU) (hWd : EdW E) (hn : E.1.length < 2 ^ 12) (K1 : ∀ v rr l x y w hh q, binM tx len (atP E.1 0) (atP E.1 1) E.1.length p = .ok (v, rr, l, x, y, w, hh, q) → ∀ h', RS h0 h' r sg sp ed len tx (E.1 ++ [plB v rr l x y w hh], E.2.1, E.2.2) (q, -1) (dT + 2) (dU + 2 * E.1.length + 30) → Q 0 none h') (K0 : ∀ q, binM tx len (atP E.1 0) (atP E.1 1) E.1.length p = .error q → ∀ h' s', RS h0 h' r sg sp ed len tx E s' (dT + 1) (dU + 16) → s'.2 = nI q → q ≤ len → Q 0 none h') : sm_wp 72 0 [.ref r, jk, jk, jk, jk] [] h Q := by
  obtain ⟨B, w, f, ⟨r1, r2, r3, r4, r5⟩, ⟨z1, z2⟩, esp, sn, sf, lp, ep, pa, bt, SL, X, O⟩ := id R
  have hB := B.2.2.2.2.2.2.2.2.2.2
  have hpl : p ≤ len := w.2.2.2.2.2.2.2.2
  have sgr : sg ≠ r := kne B.2.2.2.2.2.1 B.1 (by decide)
  have hD : ∀ a, dR h0 h r sp esp a → a ≠ r := fun a ha => ha.2.2.1
  have hDT : ∀ a, dR h0 h r sp esp a → a < hT h := fun a ha => ha.2.1
  have hT0 := f.1
  have hzr : hZ h ≠ r := by have := f.2.2.2.2.1; omega
  have hzl : hZ h < hT h := by have := f.2.2.2.2.1; omega
  have hsg : sg < hT h := by omega
  obtain ⟨rk1, rk0⟩ := binC (tx := tx) (len := len) (nm := atP E.1 0) (kd := atP E.1 1) (n := E.1.length) (p := p) (by omega) hpl (by omega)
  refine wp_pure k_72 rfl rfl ?_
  refine wp_iv k_72 rfl [] rfl w.2.2.2.2.1 (r := []) (Nat.le_of_ble_eq_true rfl) (Nat.le_of_ble_eq_true rfl) rfl ?_
  refine c_newN9 B w X O hD hzr (fun h2 n1 g1 w2 => ⟨rfl, ?_⟩)
  refine wp_pure k_72 rfl rfl ?_
  refine wp_pure k_72 rfl rfl ?_
  refine wp_kn k_72 rfl rfl ?_
  refine wp_pure k_72 rfl rfl ?_
  refine wp_iv k_72 rfl [.int (nI 0), .null] rfl w2.2.2.2.2.1 (r := []) (Nat.le_of_ble_eq_true rfl) (Nat.le_of_ble_eq_true rfl) rfl ?_
  refine c_used9n B w2 X O hD hzr (fun h3 n2 g2 e2 w3 => ⟨rfl, ?_⟩) (fun h3 n2 k2 g2 kl2 e2 w3 => ⟨rfl, ?_⟩)
  · refine wp_pure k_72 rfl rfl ?_
    refine wp_pure k_72 rfl rfl ?_
    refine wp_kn k_72 rfl rfl ?_
    refine wp_kn k_72 rfl rfl ?_
    refine wp_iv k_72 rfl [.int (nI 1), .int (nI 9)] rfl w3.2.2.2.2.1 (r := []) (Nat.le_of_ble_eq_true rfl) (Nat.le_of_ble_eq_true rfl) rfl ?_
    refine c_num9 B w3 (fun h4 n3 g3 w4 => ⟨rfl, ?_⟩)
    refine wp_pure k_72 rfl rfl ?_
    refine wp_pure k_72 rfl rfl ?_
    refine wp_pure k_72 rfl rfl ?_
    refine wp_kn k_72 rfl rfl ?_
    refine wp_iv k_72 rfl [.int (n1.1), .int (nI 1)] rfl w4.2.2.2.2.1 (r := []) (Nat.le_of_ble_eq_true rfl) (Nat.le_of_ble_eq_true rfl) rfl ?_
    refine c_rd699 B w4 X O hD hzr r2 hDT (fun h5 x1 x2 x3 x4 s4 ha1 ha2 ha3 ha4 hs4 w5 => ⟨rfl, ?_⟩)
    have ax := @plH_fr h5 E.1.length n1.1 (nI 1) x1 x2 x3 x4
    have pf := @plH_pf h5 E.1.length n1.1 (nI 1) x1 x2 x3 x4 pa
    generalize plH h5 E.1.length n1.1 (nI 1) x1 x2 x3 x4 = hx at *
    refine wp_pure k_72 rfl rfl ?_
    refine wp_pure k_72 rfl rfl ?_
    refine wp_pure k_72 rfl rfl ?_
    refine wp_put k_72 rfl pf.1 rfl rfl ?_
    refine wp_pure k_72 rfl rfl ?_
    refine wp_pure k_72 rfl rfl ?_
    refine wp_put k_72 rfl (hC_putF.trans pf.1) rfl rfl ?_
    refine wp_pure k_72 rfl rfl ?_
    refine wp_iv k_72 rfl [] rfl (hC_putF.trans (hC_putF.trans ((ax.2.2.2 r (by have := w5.1; omega)).1.trans w5.2.2.2.2.1))) (r := []) (Nat.le_of_ble_eq_true rfl) (Nat.le_of_ble_eq_true rfl) rfl ?_
    have ay : hT (putF (putF hx 774 (hT h5) (.int (nI n3.1))) 775 (hT h5) .null) = hT h5 + 1 ∧ hU (putF (putF hx 774 (hT h5) (.int (nI n3.1))) 775 (hT h5) .null) = hU h5 + 16 ∧ hZ (putF (putF hx 774 (hT h5) (.int (nI n3.1))) 775 (hT h5) .null) = hZ h5 ∧ ∀ a, a ≠ hT h5 → samA h5 (putF (putF hx 774 (hT h5) (.int (nI n3.1))) 775 (hT h5) .null) a := ⟨hT_putF.trans (hT_putF.trans ax.1), hU_putF.trans (hU_putF.trans ax.2.1), hZ_putF.trans (hZ_putF.trans ax.2.2.1), fun a q => (ax.2.2.2 a q).trans ((samA.putF q).trans (samA.putF q))⟩
    generalize putF (putF hx 774 (hT h5) (.int (nI n3.1))) 775 (hT h5) .null = hy at *
    obtain ⟨By, wy⟩ := B.al w5 ay.2.2.2 r2 hsg r4
    refine c_ends By wy (fun h7 w7 ok => ⟨rfl, ?_⟩) (fun h7 w7 ok => ⟨rfl, ?_⟩)
    · obtain ⟨f5, ro, t5, t3, sP⟩ := al_glue w5 ay w7 r2
      have sed := f5.2.2.2.2.2 ed O.1.1.2.1 (hD _ O.1.1)
      have slp := f5.2.2.2.2.2 lp O.1.2.2.1 (hD _ O.1.2)
      have hmo : ∃ z9, binM tx len (atP E.1 0) (atP E.1 1) E.1.length p = .ok z9 := by
        cases hm : binM tx len (atP E.1 0) (atP E.1 1) E.1.length p with
        | error q => exact absurd ((binC8 rk0 g1 g2 g3 hs4 hm).symm.trans ok) (nI_nm1 (by have := (rk0 q hm).2; omega))
        | ok z9 => exact ⟨z9, rfl⟩
      obtain ⟨⟨v, rr, l, x, y, ww, hh, q⟩, hm⟩ := hmo
      obtain ⟨k1, k2_, k3, k4, k5, k6, k7, k8⟩ := binC9 rk1 g1 g2 g3 ha1 ha2 ha3 ha4 hs4 hm
      exact absurd (e2.symm.trans k2_) (fun z => nI_nm1 (by have := (binM_ok hm).2.2.2.2.2.2.2.2.2.1; omega) z.symm)
    · obtain ⟨f5, ro, t5, t3, sP⟩ := al_glue w5 ay w7 r2
      have sed := f5.2.2.2.2.2 ed O.1.1.2.1 (hD _ O.1.1)
      have slp := f5.2.2.2.2.2 lp O.1.2.2.1 (hD _ O.1.2)
      refine wp_br k_72 rfl rfl rfl rfl (fun _ => ?_) (fun z => absurd (show (nI 0 : Int32) = 0 by decide) z)
      cases hm : binM tx len (atP E.1 0) (atP E.1 1) E.1.length p with
      | ok z9 =>
        obtain ⟨v, rr, l, x, y, ww, hh, q⟩ := z9
        exact absurd (by rw [(binC9 rk1 g1 g2 g3 ha1 ha2 ha3 ha4 hs4 hm).2.2.2.2.2.2.2]) ok
      | error q => exact wp_vrt k_72 rfl rfl (K0 q hm h7 _ (R.al2 w5 ay w7) (binC8 rk0 g1 g2 g3 hs4 hm) (rk0 q hm).2)
  · refine wp_pure k_72 rfl rfl ?_
    refine wp_pure k_72 rfl rfl ?_
    refine wp_kn k_72 rfl rfl ?_
    refine wp_kn k_72 rfl rfl ?_
    refine wp_iv k_72 rfl [.int (nI 1), .int (nI 9)] rfl w3.2.2.2.2.1 (r := []) (Nat.le_of_ble_eq_true rfl) (Nat.le_of_ble_eq_true rfl) rfl ?_
    refine c_num9 B w3 (fun h4 n3 g3 w4 => ⟨rfl, ?_⟩)
    refine wp_pure k_72 rfl rfl ?_
    refine wp_pure k_72 rfl rfl ?_
    refine wp_pure k_72 rfl rfl ?_
    refine wp_kn k_72 rfl rfl ?_
    refine wp_iv k_72 rfl [.int (n1.1), .int (nI 1)] rfl w4.2.2.2.2.1 (r := []) (Nat.le_of_ble_eq_true rfl) (Nat.le_of_ble_eq_true rfl) rfl ?_
    refine c_rd699 B w4 X O hD hzr r2 hDT (fun h5 x1 x2 x3 x4 s4 ha1 ha2 ha3 ha4 hs4 w5 => ⟨rfl, ?_⟩)
    have ax := @plH_fr h5 E.1.length n1.1 (nI 1) x1 x2 x3 x4
    have pf := @plH_pf h5 E.1.length n1.1 (nI 1) x1 x2 x3 x4 pa
    generalize plH h5 E.1.length n1.1 (nI 1) x1 x2 x3 x4 = hx at *
    refine wp_pure k_72 rfl rfl ?_
    refine wp_pure k_72 rfl rfl ?_
    refine wp_pure k_72 rfl rfl ?_
    refine wp_put k_72 rfl pf.1 rfl rfl ?_
    refine wp_pure k_72 rfl rfl ?_
    refine wp_pure k_72 rfl rfl ?_
    refine wp_put k_72 rfl (hC_putF.trans pf.1) rfl rfl ?_
    refine wp_pure k_72 rfl rfl ?_
    refine wp_iv k_72 rfl [] rfl (hC_putF.trans (hC_putF.trans ((ax.2.2.2 r (by have := w5.1; omega)).1.trans w5.2.2.2.2.1))) (r := []) (Nat.le_of_ble_eq_true rfl) (Nat.le_of_ble_eq_true rfl) rfl ?_
    have pg := pf.lb (l := nI n3.1) (k := k2) (by omega)
    have ay : hT (putF (putF hx 774 (hT h5) (.int (nI n3.1))) 775 (hT h5) (.ref (pa k2))) = hT h5 + 1 ∧ hU (putF (putF hx 774 (hT h5) (.int (nI n3.1))) 775 (hT h5) (.ref (pa k2))) = hU h5 + 16 ∧ hZ (putF (putF hx 774 (hT h5) (.int (nI n3.1))) 775 (hT h5) (.ref (pa k2))) = hZ h5 ∧ ∀ a, a ≠ hT h5 → samA h5 (putF (putF hx 774 (hT h5) (.int (nI n3.1))) 775 (hT h5) (.ref (pa k2))) a := ⟨hT_putF.trans (hT_putF.trans ax.1), hU_putF.trans (hU_putF.trans ax.2.1), hZ_putF.trans (hZ_putF.trans ax.2.2.1), fun a q => (ax.2.2.2 a q).trans ((samA.putF q).trans (samA.putF q))⟩
    generalize putF (putF hx 774 (hT h5) (.int (nI n3.1))) 775 (hT h5) (.ref (pa k2)) = hy at *
    obtain ⟨By, wy⟩ := B.al w5 ay.2.2.2 r2 hsg r4
    refine c_ends By wy (fun h7 w7 ok => ⟨rfl, ?_⟩) (fun h7 w7 ok => ⟨rfl, ?_⟩)
    · obtain ⟨f5, ro, t5, t3, sP⟩ := al_glue w5 ay w7 r2
      have sed := f5.2.2.2.2.2 ed O.1.1.2.1 (hD _ O.1.1)
      have slp := f5.2.2.2.2.2 lp O.1.2.2.1 (hD _ O.1.2)
      have hmo : ∃ z9, binM tx len (atP E.1 0) (atP E.1 1) E.1.length p = .ok z9 := by
        cases hm : binM tx len (atP E.1 0) (atP E.1 1) E.1.length p with
        | error q => exact absurd ((binC8 rk0 g1 g2 g3 hs4 hm).symm.trans ok) (nI_nm1 (by have := (rk0 q hm).2; omega))
        | ok z9 => exact ⟨z9, rfl⟩
      obtain ⟨⟨v, rr, l, x, y, ww, hh, q⟩, hm⟩ := hmo
      obtain ⟨k1, k2_, k3, k4, k5, k6, k7, k8⟩ := binC9 rk1 g1 g2 g3 ha1 ha2 ha3 ha4 hs4 hm
      rw [k1, k3, k4, k5, k6, k7, ← e2, k2_] at pg
      rw [k8] at w7
      refine wp_br k_72 rfl rfl rfl rfl (fun z => absurd z (show ¬ ((nI 1 : Int32) = 0) by decide)) (fun _ => ?_)
      refine wp_pure k_72 rfl rfl ?_
      refine wp_get k_72 rfl w7.2.2.2.2.1 ((ro 1026 (by decide) (by decide)).trans B.2.2.2.1) ?_
      refine wp_get k_72 rfl (sed.1.trans X.1.1) ((sed.2.2.1 _).trans X.1.2.1) ?_
      refine wp_pure k_72 rfl rfl ?_
      refine wp_iv k_72 rfl [.ref (hT h5)] rfl (slp.1.trans X.2.1.1) (r := []) (Nat.le_of_ble_eq_true rfl) (Nat.le_of_ble_eq_true rfl) rfl ?_
      refine c_addP (P := plB v rr l x y ww hh) R hWd SL X O f5 w7.self ro rfl (Or.inr ⟨rr, rfl, (binM_ok hm).2.2.2.2.2.2.2.2.2.1⟩) (by omega) (by omega) (by omega) (pg.same sP) (fun h8 e8 R8 _ _ _ => ⟨rfl, ?_⟩)
      refine wp_pure k_72 rfl rfl ?_
      exact wp_vrt k_72 rfl rfl (K1 v rr l x y ww hh q hm h8 (R8.le (by omega) (by omega)))
    · obtain ⟨f5, ro, t5, t3, sP⟩ := al_glue w5 ay w7 r2
      have sed := f5.2.2.2.2.2 ed O.1.1.2.1 (hD _ O.1.1)
      have slp := f5.2.2.2.2.2 lp O.1.2.2.1 (hD _ O.1.2)
      refine wp_br k_72 rfl rfl rfl rfl (fun _ => ?_) (fun z => absurd (show (nI 0 : Int32) = 0 by decide) z)
      cases hm : binM tx len (atP E.1 0) (atP E.1 1) E.1.length p with
      | ok z9 =>
        obtain ⟨v, rr, l, x, y, ww, hh, q⟩ := z9
        exact absurd (by rw [(binC9 rk1 g1 g2 g3 ha1 ha2 ha3 ha4 hs4 hm).2.2.2.2.2.2.2]) ok
      | error q => exact wp_vrt k_72 rfl rfl (K0 q hm h7 _ (R.al2 w5 ay w7) (binC8 rk0 g1 g2 g3 hs4 hm) (rk0 q hm).2)
