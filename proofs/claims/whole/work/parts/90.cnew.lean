/-! a place that is made as it is added -/
theorem c_47 {h : sm_H} {Q : Nat → Option Value → sm_H → Prop} {nm kd : Int32} {x y w hh : Nat} (K : Q 0 none (plH h nm kd x y w hh)) : sm_wp 47 0 [.ref (hT h), .int nm, .int kd, .int (nI x), .int (nI y), .int (nI w), .int (nI hh)] [] (newO h 6 11 (fun g => defaultValue (xty 6 (g - 128 * 6)))) Q := by
  refine wp_pure k_47 rfl rfl ?_
  refine wp_obj k_47 rfl (Nat.le_of_ble_eq_true rfl) ?_
  refine wp_pure k_47 rfl rfl ?_
  refine wp_pure k_47 rfl rfl ?_
  refine wp_put k_47 rfl (if_pos rfl) rfl rfl ?_
  refine wp_pure k_47 rfl rfl ?_
  refine wp_pure k_47 rfl rfl ?_
  refine wp_put k_47 rfl (if_pos rfl) rfl rfl ?_
  refine wp_pure k_47 rfl rfl ?_
  refine wp_pure k_47 rfl rfl ?_
  refine wp_put k_47 rfl (if_pos rfl) rfl rfl ?_
  refine wp_pure k_47 rfl rfl ?_
  refine wp_pure k_47 rfl rfl ?_
  refine wp_put k_47 rfl (if_pos rfl) rfl rfl ?_
  refine wp_pure k_47 rfl rfl ?_
  refine wp_pure k_47 rfl rfl ?_
  refine wp_put k_47 rfl (if_pos rfl) rfl rfl ?_
  refine wp_pure k_47 rfl rfl ?_
  refine wp_pure k_47 rfl rfl ?_
  refine wp_put k_47 rfl (if_pos rfl) rfl rfl ?_
  refine wp_pure k_47 rfl rfl ?_
  refine wp_km k_47 rfl rfl ?_
  refine wp_put k_47 rfl (if_pos rfl) rfl rfl ?_
  exact wp_vrt k_47 rfl rfl K
theorem c_addNew {h0 h hx : sm_H} {Q : Nat → Option Value → sm_H → Prop} {r sg sp ed len : Nat} {tx : Nat → Int32} {E : Ed} {s : Nat × Int32} {dT dU : Nat} (R : RS h0 h r sg sp ed len tx E s dT dU) (hWd : EdW E) (hn : E.1.length < 2 ^ 12) {lp lw lv ls ep ew ev es : Nat} {pa wa va sa : Nat → Nat} (X : EdF h ed lp lw lv ls ep ew ev es pa wa va sa E (fun _ => nI 0)) (O : EdO h (dR h0 h r sp) ed lp lw lv ls ep ew ev es pa wa va sa E) {P : Pl} (hP2 : P.2 = []) (ax : hT hx = hT h + 1 ∧ hU hx = hU h + 11 ∧ hZ hx = hZ h ∧ ∀ a, a ≠ hT h → samA h hx a) (pf : PF hx (hT h) P.1) (K : ∀ h4, RS h0 h4 r sg sp ed len tx (E.1 ++ [P], E.2.1, E.2.2) s (dT + 2) (dU + 2 * E.1.length + 25) → Q 0 (some (.int (nI 1))) h4) : sm_wp 145 0 [.ref lp, .ref (hT h)] [] hx Q := by
  have r2 := R.2.2.2.1.2.1
  have w := R.2.1
  obtain ⟨a1, a2, a3, a4⟩ := ax
  have sr := a4 r (by omega)
  exact c_addP (a := 1) (b := 11) R hWd X O ⟨by omega, by omega, by omega, by omega, a3, fun a ha _ => a4 a (by omega)⟩ ⟨rfl, rfl, rfl, fun a _ => samA.refl hx a, sr.1.trans w.2.2.2.2.1, fun _ _ _ => rfl, (sr.2.2.1 _).trans w.2.2.2.2.2.2.1, (sr.2.2.1 _).trans w.2.2.2.2.2.2.2.1, w.2.2.2.2.2.2.2.2⟩ (fun g _ _ => sr.2.2.1 g) hP2 (by omega) (Nat.le_refl _) (by omega) pf (fun h4 R4 => K h4 (R4.le (by omega) (by omega)))
theorem EdW.pc {E : Ed} (h : EdW E) {k : Nat} (hk : k < E.1.length) (h2 : atP E.1 1 k = nI 2) : ∃ x y, atP E.1 2 k = nI x ∧ atP E.1 3 k = nI y ∧ atP E.1 4 k = nI 1 ∧ atP E.1 5 k = nI 1 := by
  obtain ⟨kd, x, y, w, hh, lv, a1, a2, a3, a4, a5, a6, a7, a8, a9, b1, b2, b3, b4, b5, _⟩ := h.1 k _ (List.getElem?_eq_getElem hk)
  have e := List.getElem?_eq_getElem hk
  rw [atP_some e] at h2
  have hkd : kd = 2 := yE (by omega) (by omega) (a3.symm.trans h2)
  obtain ⟨c1, c2⟩ := b5 hkd
  exact ⟨x, y, (atP_some e 2).trans a4, (atP_some e 3).trans a5, (atP_some e 4).trans (by rw [a6, c1]), (atP_some e 5).trans (by rw [a7, c2])⟩
theorem PF.b7 {h : sm_H} {p : Nat} {a0 a1 a2 a3 a4 a5 a6 a7 b : Int32} (x : PF h p (plF [a0, a1, a2, a3, a4, a5, a6, a7])) : PF (putF h 775 p (.int b)) p (plF [a0, a1, a2, a3, a4, a5, a6, b]) := by
  refine ⟨hC_putF.trans x.1, fun a ha => ?_, (hF_putF_f (by decide)).trans x.2.2.1, (hF_putF_f (by decide)).trans x.2.2.2.1, (hF_putF_f (by decide)).trans x.2.2.2.2⟩
  match a, ha with
  | 0, _ => exact (hF_putF_f (by decide)).trans (x.2.1 0 (by decide))
  | 1, _ => exact (hF_putF_f (by decide)).trans (x.2.1 1 (by decide))
  | 2, _ => exact (hF_putF_f (by decide)).trans (x.2.1 2 (by decide))
  | 3, _ => exact (hF_putF_f (by decide)).trans (x.2.1 3 (by decide))
  | 4, _ => exact (hF_putF_f (by decide)).trans (x.2.1 4 (by decide))
  | 5, _ => exact (hF_putF_f (by decide)).trans (x.2.1 5 (by decide))
  | 6, _ => exact (hF_putF_f (by decide)).trans (x.2.1 6 (by decide))
  | 7, _ => exact hF_putF
theorem c_addAt {h0 h : sm_H} {Q : Nat → Option Value → sm_H → Prop} {r sg sp ed len : Nat} {tx : Nat → Int32} {E : Ed} {s : Nat × Int32} {dT dU : Nat} (R : RS h0 h r sg sp ed len tx E s dT dU) (hWd : EdW E) (hn : E.1.length < 2 ^ 12) {nm : Int32} {kd k : Nat} (hk : k < E.1.length) (hk2 : atP E.1 1 k = nI 2) (K : ∀ h4, RS h0 h4 r sg sp ed len tx (E.1 ++ [plA E.1 nm kd k []], E.2.1, E.2.2) s (dT + 2) (dU + 2 * E.1.length + 25) → Q 0 none h4) : sm_wp 77 0 [.ref r, .int nm, .int (nI kd), .int (nI k), jk, jk] [] h Q := by
  obtain ⟨B, w, f, ⟨r1, r2, r3, r4, r5⟩, ⟨z1, z2⟩, lp, lw, lv, ls, ep, ew, ev, es, pa, wa, va, sa, X, O⟩ := id R
  have hD : ∀ a, dR h0 h r sp a → a ≠ r := fun a ha => ha.2.2.1
  have hT0 := f.1
  have hzr : hZ h ≠ r := by have := f.2.2.2.2.1; omega
  have hB := B.2.2.2.2.2.2.2.2.2.2
  have hsl := w.2.2.2.2.2.2.2.2
  obtain ⟨x, y, ex, ey, e4, e5⟩ := hWd.pc hk hk2
  have hpk : pa k < hT h := (O.2.2.2.2.2.1 k hk).2.1
  have l1 := X.2.1.1
  refine wp_pure k_77 rfl rfl ?_
  refine wp_get k_77 rfl B.1 B.2.2.2.1 ?_
  refine wp_get k_77 rfl X.1.1 X.1.2.1 ?_
  refine wp_pure k_77 rfl rfl ?_
  refine wp_iv k_77 rfl [.int (nI k)] rfl X.2.1.1.1 (r := []) (Nat.le_of_ble_eq_true rfl) (Nat.le_of_ble_eq_true rfl) rfl ?_
  refine c_get l1 hk ⟨rfl, ?_⟩
  refine wp_cc k_77 rfl (X.2.2.1 k hk).1 ?_
  refine wp_pure k_77 rfl rfl ?_
  refine wp_new k_77 rfl rfl ?_
  show sm_wp 77 19 [.ref r, .int nm, .int (nI kd), .int (nI k), .ref (pa k), jk] [.ref (hT h)] _ Q
  refine wp_pure k_77 rfl rfl ?_
  refine wp_pure k_77 rfl rfl ?_
  refine wp_pure k_77 rfl rfl ?_
  refine wp_pure k_77 rfl rfl ?_
  refine wp_get k_77 rfl ((if_neg (Nat.ne_of_lt hpk)).trans (X.2.2.1 k hk).1) ((if_neg (Nat.ne_of_lt hpk)).trans (((X.2.2.1 k hk).2.1 2 (by decide)).trans (congrArg Value.int ex))) ?_
  refine wp_pure k_77 rfl rfl ?_
  refine wp_get k_77 rfl ((if_neg (Nat.ne_of_lt hpk)).trans (X.2.2.1 k hk).1) ((if_neg (Nat.ne_of_lt hpk)).trans (((X.2.2.1 k hk).2.1 3 (by decide)).trans (congrArg Value.int ey))) ?_
  refine wp_pure k_77 rfl rfl ?_
  refine wp_get k_77 rfl ((if_neg (Nat.ne_of_lt hpk)).trans (X.2.2.1 k hk).1) ((if_neg (Nat.ne_of_lt hpk)).trans (((X.2.2.1 k hk).2.1 4 (by decide)).trans (congrArg Value.int e4))) ?_
  refine wp_pure k_77 rfl rfl ?_
  refine wp_get k_77 rfl ((if_neg (Nat.ne_of_lt hpk)).trans (X.2.2.1 k hk).1) ((if_neg (Nat.ne_of_lt hpk)).trans (((X.2.2.1 k hk).2.1 5 (by decide)).trans (congrArg Value.int e5))) ?_
  refine wp_ic k_77 rfl (by decide) [.int nm, .int (nI kd), .int (nI x), .int (nI y), .int (nI 1), .int (nI 1)] rfl (r := [.ref (hT h)]) (Nat.le_of_ble_eq_true rfl) (Nat.le_of_ble_eq_true rfl) rfl ?_
  refine c_47 ⟨rfl, ?_⟩
  have ax := @plH_fr h nm (nI kd) x y 1 1
  have pf := @plH_pf h nm (nI kd) x y 1 1
  generalize plH h nm (nI kd) x y 1 1 = hx at *
  refine wp_pure k_77 rfl rfl ?_
  refine wp_pure k_77 rfl rfl ?_
  refine wp_pure k_77 rfl rfl ?_
  refine wp_put k_77 rfl pf.1 rfl rfl ?_
  have pg := pf.b7 (b := nI k)
  have ay : hT (putF hx 775 (hT h) (.int (nI k))) = hT h + 1 ∧ hU (putF hx 775 (hT h) (.int (nI k))) = hU h + 11 ∧ hZ (putF hx 775 (hT h) (.int (nI k))) = hZ h ∧ ∀ a, a ≠ hT h → samA h (putF hx 775 (hT h) (.int (nI k))) a := ⟨hT_putF.trans ax.1, hU_putF.trans ax.2.1, hZ_putF.trans ax.2.2.1, fun a q => (ax.2.2.2 a q).trans (samA.putF q)⟩
  generalize putF hx 775 (hT h) (.int (nI k)) = hy at *
  have sr := ay.2.2.2 r (by omega)
  have se := ay.2.2.2 ed (by have := O.1.1.2.1; omega)
  have sl := ay.2.2.2 lp (by have := O.1.2.1.2.1; omega)
  refine wp_pure k_77 rfl rfl ?_
  refine wp_get k_77 rfl (sr.1.trans B.1) ((sr.2.2.1 _).trans B.2.2.2.1) ?_
  refine wp_get k_77 rfl (se.1.trans X.1.1) ((se.2.2.1 _).trans X.1.2.1) ?_
  refine wp_pure k_77 rfl rfl ?_
  refine wp_iv k_77 rfl [.ref (hT h)] rfl (sl.1.trans X.2.1.1.1) (r := []) (Nat.le_of_ble_eq_true rfl) (Nat.le_of_ble_eq_true rfl) rfl ?_
  refine c_addNew (P := plA E.1 nm kd k []) R hWd hn X O rfl ay ?_ (fun h8 R8 => ⟨rfl, ?_⟩)
  · show PF hy (hT h) (plF [nm, nI kd, atP E.1 2 k, atP E.1 3 k, nI 1, nI 1, nI 0, nI k])
    rw [ex, ey]
    exact pg
  · refine wp_pure k_77 rfl rfl ?_
    exact wp_vrt k_77 rfl rfl (K h8 R8)
