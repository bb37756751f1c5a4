/-! a place that is made as it is added -/
theorem c_47 {h : sm_H} {Q : Nat → Option Value → sm_H → Prop} {n : Nat} {nm kd : Int32} {x y w hh : Nat} (K : Q 0 none (plH h n nm kd x y w hh)) : sm_wp 47 0 [.ref (hT h), .int (nI n), .int nm, .int kd, .int (nI x), .int (nI y), .int (nI w), .int (nI hh)] [] (newO h 6 16 (fun g => defaultValue (xty 6 (g - 128 * 6)))) Q := by
  refine wp_pure k_47 rfl rfl ?_
  refine wp_obj k_47 rfl (Nat.le_of_ble_eq_true rfl) ?_
  refine wp_pure k_47 rfl rfl ?_
  refine wp_pure k_47 rfl rfl ?_
  refine wp_put k_47 rfl (if_pos rfl) rfl rfl ?_
  refine wp_pure k_47 rfl rfl ?_
  refine wp_pure k_47 rfl rfl ?_
  refine wp_put k_47 rfl (if_pos rfl) rfl rfl ?_
  refine wp_pure k_47 rfl rfl ?_
  refine wp_pure k_47 rfl rfl ?_
  refine wp_put k_47 rfl (if_pos rfl) rfl rfl ?_
  refine wp_pure k_47 rfl rfl ?_
  refine wp_pure k_47 rfl rfl ?_
  refine wp_put k_47 rfl (if_pos rfl) rfl rfl ?_
  refine wp_pure k_47 rfl rfl ?_
  refine wp_pure k_47 rfl rfl ?_
  refine wp_put k_47 rfl (if_pos rfl) rfl rfl ?_
  refine wp_pure k_47 rfl rfl ?_
  refine wp_pure k_47 rfl rfl ?_
  refine wp_put k_47 rfl (if_pos rfl) rfl rfl ?_
  refine wp_pure k_47 rfl rfl ?_
  refine wp_pure k_47 rfl rfl ?_
  refine wp_put k_47 rfl (if_pos rfl) rfl rfl ?_
  exact wp_vrt k_47 rfl rfl K
theorem c_addNew {h0 h hx : sm_H} {Q : Nat → Option Value → sm_H → Prop} {r sg sp ed len : Nat} {tx : Nat → Int32} {E : Ed} {s : Nat × Int32} {dT dU : Nat} (R : RS h0 h r sg sp ed len tx E s dT dU) (hWd : EdW E) (hn : E.1.length < 2 ^ 12) {esp sn lp ep : Nat} {sf pa : Nat → Nat} {bt : Nat → Nat → Nat} (SL : Lst h sp esp sn sf ∧ (esp = hZ h ∨ hT h0 ≤ esp)) (X : EdF h ed lp ep pa bt E (fun _ => nI 0)) (O : EdO h (dR h0 h r sp esp) ed lp ep pa E) {P : Pl} (hP2 : P.2 = []) (hb7 : P.1 7 = -1 ∨ ∃ r, P.1 7 = nI r ∧ r < E.1.length) (ax : hT hx = hT h + 1 ∧ hU hx = hU h + 16 ∧ hZ hx = hZ h ∧ ∀ a, a ≠ hT h → samA h hx a) (pf : PF hx (hT h) pa E.1.length P.1) (K : ∀ h4 e', RS h0 h4 r sg sp ed len tx (E.1 ++ [P], E.2.1, E.2.2) s (dT + 2) (dU + 2 * E.1.length + 30) → (Lst h4 sp esp sn sf ∧ (esp = hZ h4 ∨ hT h0 ≤ esp)) → EdF h4 ed lp e' (fun i => if i = E.1.length then hT h else pa i) (fun c x => if x = E.1.length then 0 else bt c x) (E.1 ++ [P], E.2.1, E.2.2) (fun _ => nI 0) → EdO h4 (dR h0 h4 r sp esp) ed lp e' (fun i => if i = E.1.length then hT h else pa i) (E.1 ++ [P], E.2.1, E.2.2) → Q 0 (some (.int (nI 1))) h4) : sm_wp 145 0 [.ref lp, .ref (hT h)] [] hx Q := by
  have r2 := R.2.2.2.1.2.1
  have w := R.2.1
  obtain ⟨a1, a2, a3, a4⟩ := ax
  have sr := a4 r (by omega)
  exact c_addP (a := 1) (b := 16) R hWd SL X O ⟨by omega, by omega, by omega, by omega, a3, fun a ha _ => a4 a (by omega)⟩ ⟨rfl, rfl, rfl, fun a _ => samA.refl hx a, sr.1.trans w.2.2.2.2.1, fun _ _ _ => rfl, (sr.2.2.1 _).trans w.2.2.2.2.2.2.1, (sr.2.2.1 _).trans w.2.2.2.2.2.2.2.1, w.2.2.2.2.2.2.2.2⟩ (fun g _ _ => sr.2.2.1 g) hP2 hb7 (by omega) (Nat.le_refl _) (by omega) pf (fun h4 e' R4 S4 X4 O4 => K h4 e' (R4.le (by omega) (by omega)) S4 X4 O4)
theorem EdW.pc {E : Ed} (h : EdW E) {k : Nat} (hk : k < E.1.length) (h2 : atP E.1 1 k = nI 2) : ∃ x y, atP E.1 2 k = nI x ∧ atP E.1 3 k = nI y ∧ atP E.1 4 k = nI 1 ∧ atP E.1 5 k = nI 1 := by
  obtain ⟨kd, x, y, w, hh, lv, a1, a2, a3, a4, a5, a6, a7, a8, a9, b1, b2, b3, b4, b5, _⟩ := h.1 k _ (List.getElem?_eq_getElem hk)
  have e := List.getElem?_eq_getElem hk
  rw [atP_some e] at h2
  have hkd : kd = 2 := yE (by omega) (by omega) (a3.symm.trans h2)
  obtain ⟨c1, c2⟩ := b5 hkd
  exact ⟨x, y, (atP_some e 2).trans a4, (atP_some e 3).trans a5, (atP_some e 4).trans (by rw [a6, c1]), (atP_some e 5).trans (by rw [a7, c2])⟩
theorem PF.b7 {h : sm_H} {p n k : Nat} {pa : Nat → Nat} {a0 a1 a2 a3 a4 a5 a6 a7 : Int32} (hk : k < 2 ^ 31) (x : PF h p pa n (plF [a0, a1, a2, a3, a4, a5, a6, a7])) : PF (putF h 775 p (.ref (pa k))) p pa n (plF [a0, a1, a2, a3, a4, a5, a6, nI k]) := by
  obtain ⟨x0, x1, x2, x3, x4, x5, x6, x7, x8, x9, x10⟩ := x
  refine ⟨hC_putF.trans x0, fun a ha => ?_, ?_, (hF_putF_f (by decide)).trans x3, (hF_putF_f (by decide)).trans x4, (hF_putF_f (by decide)).trans x5, (hF_putF_f (by decide)).trans x6, (hF_putF_f (by decide)).trans x7, (hF_putF_f (by decide)).trans x8, (hF_putF_f (by decide)).trans x9, (hF_putF_f (by decide)).trans x10⟩
  · match a, ha with
    | 0, _ => exact (hF_putF_f (by decide)).trans (x1 0 (by decide))
    | 1, _ => exact (hF_putF_f (by decide)).trans (x1 1 (by decide))
    | 2, _ => exact (hF_putF_f (by decide)).trans (x1 2 (by decide))
    | 3, _ => exact (hF_putF_f (by decide)).trans (x1 3 (by decide))
    | 4, _ => exact (hF_putF_f (by decide)).trans (x1 4 (by decide))
    | 5, _ => exact (hF_putF_f (by decide)).trans (x1 5 (by decide))
    | 6, _ => exact (hF_putF_f (by decide)).trans (x1 6 (by decide))
  · show _ = uV pa (nI k)
    rw [uV_y hk]
    exact hF_putF
theorem c_newAt {h : sm_H} {Q : Nat → Option Value → sm_H → Prop} {r sg sp ed len : Nat} {tx : Nat → Int32} (B : RB h r sg sp ed len tx) {lp ep : Nat} {pa : Nat → Nat} {bt : Nat → Nat → Nat} {E : Ed} {un : Nat → Int32} (X : EdF h ed lp ep pa bt E un) (hWd : EdW E) {nm : Int32} {kd k : Nat} (hk : k < E.1.length) (hk2 : atP E.1 1 k = nI 2) (K : ∀ hy, (hT hy = hT h + 1 ∧ hU hy = hU h + 16 ∧ hZ hy = hZ h ∧ ∀ a, a ≠ hT h → samA h hy a) → PF hy (hT h) pa E.1.length (plA E.1 nm kd k []).1 → Q 0 (some (.ref (hT h))) hy) : sm_wp 77 0 [.ref r, .int nm, .int (nI kd), .ref (pa k), jk, jk] [] h Q := by
  obtain ⟨x, y, ex, ey, e4, e5⟩ := hWd.pc hk hk2
  have l1 := X.2.1
  have n1 := l1.2.2.2.2.1
  have hpk : pa k < hT h := (l1.2.2.2.2.2.2.2.2 k hk).2.2.2
  refine wp_pure k_77 rfl rfl ?_
  refine wp_get k_77 rfl B.1 B.2.2.2.1 ?_
  refine wp_get k_77 rfl X.1.1 X.1.2.1 ?_
  refine wp_iv k_77 rfl [] rfl X.2.1.1 (r := []) (Nat.le_of_ble_eq_true rfl) (Nat.le_of_ble_eq_true rfl) rfl ?_
  refine c_size l1 ⟨rfl, ?_⟩
  refine wp_pure k_77 rfl rfl ?_
  refine wp_new k_77 rfl rfl ?_
  show sm_wp 77 15 [.ref r, .int nm, .int (nI kd), .ref (pa k), .int (nI (E.1.length)), jk] [.ref (hT h)] _ Q
  refine wp_pure k_77 rfl rfl ?_
  refine wp_pure k_77 rfl rfl ?_
  refine wp_pure k_77 rfl rfl ?_
  refine wp_pure k_77 rfl rfl ?_
  refine wp_pure k_77 rfl rfl ?_
  refine wp_get k_77 rfl ((if_neg (Nat.ne_of_lt hpk)).trans (X.2.2.1 k hk).1) ((if_neg (Nat.ne_of_lt hpk)).trans (((X.2.2.1 k hk).2.1 2 (by decide)).trans (congrArg Value.int ex))) ?_
  refine wp_pure k_77 rfl rfl ?_
  refine wp_get k_77 rfl ((if_neg (Nat.ne_of_lt hpk)).trans (X.2.2.1 k hk).1) ((if_neg (Nat.ne_of_lt hpk)).trans (((X.2.2.1 k hk).2.1 3 (by decide)).trans (congrArg Value.int ey))) ?_
  refine wp_pure k_77 rfl rfl ?_
  refine wp_get k_77 rfl ((if_neg (Nat.ne_of_lt hpk)).trans (X.2.2.1 k hk).1) ((if_neg (Nat.ne_of_lt hpk)).trans (((X.2.2.1 k hk).2.1 4 (by decide)).trans (congrArg Value.int e4))) ?_
  refine wp_pure k_77 rfl rfl ?_
  refine wp_get k_77 rfl ((if_neg (Nat.ne_of_lt hpk)).trans (X.2.2.1 k hk).1) ((if_neg (Nat.ne_of_lt hpk)).trans (((X.2.2.1 k hk).2.1 5 (by decide)).trans (congrArg Value.int e5))) ?_
  refine wp_ic k_77 rfl (by decide) [.int (nI (E.1.length)), .int nm, .int (nI kd), .int (nI x), .int (nI y), .int (nI 1), .int (nI 1)] rfl (r := [.ref (hT h)]) (Nat.le_of_ble_eq_true rfl) (Nat.le_of_ble_eq_true rfl) rfl ?_
  refine c_47 ⟨rfl, ?_⟩
  have ax := @plH_fr h E.1.length nm (nI kd) x y 1 1
  have pf := @plH_pf h E.1.length nm (nI kd) x y 1 1 pa
  generalize plH h E.1.length nm (nI kd) x y 1 1 = hx at *
  refine wp_pure k_77 rfl rfl ?_
  refine wp_pure k_77 rfl rfl ?_
  refine wp_pure k_77 rfl rfl ?_
  refine wp_put k_77 rfl pf.1 rfl rfl ?_
  refine wp_pure k_77 rfl rfl ?_
  have pg := pf.b7 (k := k) (by omega)
  have ay : hT (putF hx 775 (hT h) (.ref (pa k))) = hT h + 1 ∧ hU (putF hx 775 (hT h) (.ref (pa k))) = hU h + 16 ∧ hZ (putF hx 775 (hT h) (.ref (pa k))) = hZ h ∧ ∀ a, a ≠ hT h → samA h (putF hx 775 (hT h) (.ref (pa k))) a := ⟨hT_putF.trans ax.1, hU_putF.trans ax.2.1, hZ_putF.trans ax.2.2.1, fun a q => (ax.2.2.2 a q).trans (samA.putF q)⟩
  refine wp_rt k_77 rfl rfl rfl rfl rfl rfl rfl (K _ ay ?_)
  show PF (putF hx 775 (hT h) (.ref (pa k))) (hT h) pa E.1.length (plF [nm, nI kd, atP E.1 2 k, atP E.1 3 k, nI 1, nI 1, nI 0, nI k])
  rw [ex, ey]
  exact pg
theorem RS.rdx {h0 h h1 : sm_H} {r sg sp ed len : Nat} {tx : Nat → Int32} {E : Ed} {s s' : Nat × Int32} {dT dU : Nat} (R : RS h0 h r sg sp ed len tx E s dT dU) {esp sn lp ep : Nat} {sf pa : Nat → Nat} {bt : Nat → Nat → Nat} (SL : Lst h sp esp sn sf ∧ (esp = hZ h ∨ hT h0 ≤ esp)) (X : EdF h ed lp ep pa bt E (fun _ => nI 0)) (O : EdO h (dR h0 h r sp esp) ed lp ep pa E) (w : RDW h h1 r len s') : (Lst h1 sp esp sn sf ∧ (esp = hZ h1 ∨ hT h0 ≤ esp)) ∧ EdF h1 ed lp ep pa bt E (fun _ => nI 0) ∧ EdO h1 (dR h0 h1 r sp esp) ed lp ep pa E ∧ RB h1 r sg sp ed len tx := by
  have B1 := (R.rd w).1
  obtain ⟨B, _, f, ⟨r1, r2, r3, r4, r5⟩, ⟨z1, z2⟩, _⟩ := R
  have hT0 := f.1
  have hzr : hZ h ≠ r := by have := f.2.2.2.2.1; omega
  have spr : sp ≠ r := kne B.2.2.2.2.2.2.2.2.1 B.1 (by decide)
  have esr : esp ≠ r := kne2 SL.1.ke B.1 (by decide) (by decide)
  have x := EdFO.same X O (fun b hb => w.2.2.2.1 b hb.2.2.1) (w.2.2.2.1 _ hzr) w.2.2.1 (Nat.le_of_eq w.1.symm)
  have k : ∀ b, hC h1 b = hC h b := fun b => by
    by_cases q : b = r
    · rw [q, w.2.2.2.2.1, B.1]
    · exact (w.2.2.2.1 b q).1
  exact ⟨⟨SL.1.kp (w.2.2.2.1 _ spr) (w.2.2.2.1 _ esr) (fun b _ _ _ => k b) w.2.2.1 (Nat.le_of_eq w.1.symm), by rw [w.2.2.1]; exact SL.2⟩, x.1, x.2.mono (fun a ha => ⟨ha.1, by rw [w.1]; exact ha.2.1, ha.2.2⟩), B1⟩
