/-! the class reads a lift -/
theorem c_addPs {h0 h h3 : sm_H} {Q : Nat → Option Value → sm_H → Prop} {r sg sp ed len : Nat} {tx : Nat → Int32} {E : Ed} {s s3 : Nat × Int32} {dT dU a b : Nat} (R : RS h0 h r sg sp ed len tx E s dT dU) (hWd : EdW E) {lp lw lv ls ep ew ev es : Nat} {pa wa va sa : Nat → Nat} (X : EdF h ed lp lw lv ls ep ew ev es pa wa va sa E (fun _ => nI 0)) (O : EdO h (dR h0 h r sp) ed lp lw lv ls ep ew ev es pa wa va sa E) (f3 : Fr h h3 (fun c => c = r) a b) (w3 : RDW h3 h3 r len s3) (ro : ∀ g, g ≠ 1028 → g ≠ 1029 → hF h3 g r = hF h g r) {p : Nat} {P : Pl} (hP2 : P.2 = []) (hn : E.1.length < 2 ^ 13) (p1 : hT h ≤ p) (p2 : p < hT h3)
    (hf : hC h3 p = 22 ∧ (∀ a, a < 8 → hF h3 (768 + a) p = .int (P.1 a)) ∧ hF h3 776 p = .int (nI 0) ∧ hF h3 777 p = .int (nI 0) ∧ hF h3 778 p = .int (nI 0)) (K : ∀ h4, RS h0 h4 r sg sp ed len tx (E.1 ++ [P], E.2.1, E.2.2) s3 (dT + a + 1) (dU + b + (2 * E.1.length + 14)) → samA h h4 sp → Q 0 (some (.int (nI 1))) h4) : sm_wp 145 0 [.ref lp, .ref p] [] h3 Q := by
  obtain ⟨B, _, f, ⟨r1, r2, r3, r4, r5⟩, ⟨z1, z2⟩, _⟩ := R
  have hzh : hZ h = hZ h0 := f.2.2.2.2.1
  have zlt : hZ h < hT h := by have := f.1; omega
  have zk : hC h (hZ h) = 14 := by rw [hzh]; exact ((f.2.2.2.2.2 _ z2 id).1).trans z1
  have hzr : hZ h ≠ r := by omega
  have sgr : sg ≠ r := kne B.2.2.2.2.2.1 B.1 (by decide)
  have spr : sp ≠ r := kne B.2.2.2.2.2.2.2.2.1 B.1 (by decide)
  have hT3 := f3.1
  have s3' : ∀ a, a < hT h → a ≠ r → samA h h3 a := f3.2.2.2.2.2
  have sz3 := s3' _ zlt hzr
  have z3 : hZ h3 = hZ h := f3.2.2.2.2.1
  obtain ⟨X3, O3⟩ := EdFO.same X O (fun b hb => s3' b hb.2.1 hb.2.2.1) sz3 z3 hT3
  have l1 := X3.2.1.1
  have B3 : RB h3 r sg sp ed len tx := B.same w3.2.2.2.2.1 ro (s3' _ (by have := f.1; omega) sgr) ⟨(s3' _ r4 spr).1.trans B.2.2.2.2.2.2.2.2.1, (s3' _ r4 spr).2.1.trans B.2.2.2.2.2.2.2.2.2.1⟩
  refine c_add l1 (by omega) (by rw [hf.1]; decide) (by rw [hf.1]; decide) p2 (fun h4 e' L w4 f4 => ?_)
  have zk3 : hC h3 (hZ h3) = 14 := by rw [z3]; exact sz3.1.trans zk
  have hT4 := f4.1
  have s4 : ∀ a, a < hT h3 → a ≠ lp → (a ≠ ep ∨ hC h3 ep = 14) → samA h3 h4 a := fun a ha h1 h2 => f4.2.2.2.2.2 a ha (fun q => q.elim h1 (fun q => h2.elim (fun z => z q.1) (fun z => by rw [q.2] at z; cases z)))
  have sk : ∀ a k, a < hT h3 → hC h3 a = k → k ≠ 26 → k ≠ 7 → k ≠ 14 → samA h3 h4 a := fun a k ha hk h1 h2 h3 => s4 a ha (kne hk l1.1 h1) (Or.inl (Ne.symm (kne2 l1.ke hk h3 h2)))
  have sz4 : samA h3 h4 (hZ h3) := s4 _ (by omega) (kne zk3 l1.1 (by decide)) (by
    by_cases q : hZ h3 = ep
    · right; rw [← q]; exact zk3
    · exact Or.inl q)
  have kz4 : hC h4 (hZ h4) = 14 := by rw [f4.2.2.2.2.1]; exact sz4.1.trans zk3
  have e7 : hT h3 ≤ e' → hC h4 e' = 7 := fun q => by
    rcases L.2.2.2.2.2.2.2.1 with ⟨y, _⟩ | ⟨y, _⟩
    · have := f4.2.2.2.2.1; omega
    · exact y
  have epD : hC h3 ep = 7 → dR h0 h r sp ep := fun q => O3.2.1.resolve_left (by rw [q]; decide)
  have r24 : hC h3 r = 24 := B3.1
  have sr := sk r 24 (by omega) r24 (by decide) (by decide) (by decide)
  have x := EdF.push X3 O3 (D' := dR h0 h4 r sp) hWd hP2 L (fun a ha h1 h2 => s4 a (by have := ha.2.1; omega) h1 h2) sz4 f4.2.2.2.2.1 hT4 (by
      rcases w4 with ⟨y1, y2⟩ | y1
      · right
        rw [y1]
        have := epD y2
        exact ⟨this.1, by have := this.2.1; omega, this.2.2⟩
      · right
        have := L.2.2.2.2.2.2.1
        have := f.1
        exact ⟨by omega, by omega, by omega, by omega⟩) (by
      rcases w4 with ⟨y1, y2⟩ | y1
      · exact Or.inl y1
      · exact Or.inr ⟨fun z => by have := z.2.1; omega, e7 (by omega)⟩) (fun a ha => ⟨ha.1, by have := ha.2.1; omega, ha.2.2⟩) ⟨by have := f.1; omega, by omega, by omega, by omega⟩ (fun z => by have := z.2.1; omega) (by
      have sp4 := sk p 22 p2 hf.1 (by decide) (by decide) (by decide)
      exact ⟨sp4.1.trans hf.1, fun a ha => (sp4.2.2.1 _).trans (hf.2.1 a ha), (sp4.2.2.1 _).trans hf.2.2.1, (sp4.2.2.1 _).trans hf.2.2.2.1, (sp4.2.2.1 _).trans hf.2.2.2.2⟩)
  have ssg := sk sg 3 (by have := f.1; omega) B3.2.2.2.2.2.1 (by decide) (by decide) (by decide)
  have ssp := sk sp 1 (by omega) B3.2.2.2.2.2.2.2.2.1 (by decide) (by decide) (by decide)
  refine K h4 ?_ ((s3' _ r4 spr).trans ssp)
  refine ⟨B3.same (sr.1.trans r24) (fun g _ _ => sr.2.2.1 g) ssg ⟨ssp.1.trans B3.2.2.2.2.2.2.2.2.1, ssp.2.1.trans B3.2.2.2.2.2.2.2.2.2.1⟩, ⟨rfl, rfl, rfl, fun a _ => samA.refl h4 a, sr.1.trans r24, fun _ _ _ => rfl, (sr.2.2.1 _).trans w3.2.2.2.2.2.2.1, (sr.2.2.1 _).trans w3.2.2.2.2.2.2.2.1, w3.2.2.2.2.2.2.2.2⟩, ?_, ⟨r1, by omega, r3, by omega, r5⟩, ⟨z1, z2⟩, _, _, _, _, _, _, _, _, _, _, _, _, x⟩
  refine (f.trans f3 (Z := fun _ => False) (fun _ _ q => q) (fun c hc q => by rw [q] at hc; omega) (Nat.le_refl _) (Nat.le_refl _)).trans f4 (fun _ _ q => q) (fun c hc q => ?_) (by omega) (by omega)
  rcases q with q | q
  · have := O.1.2.1.1
    omega
  · have := (epD q.2).1
    omega
theorem c_addNews {h0 h hx : sm_H} {Q : Nat → Option Value → sm_H → Prop} {r sg sp ed len : Nat} {tx : Nat → Int32} {E : Ed} {s : Nat × Int32} {dT dU : Nat} (R : RS h0 h r sg sp ed len tx E s dT dU) (hWd : EdW E) (hn : E.1.length < 2 ^ 12) {lp lw lv ls ep ew ev es : Nat} {pa wa va sa : Nat → Nat} (X : EdF h ed lp lw lv ls ep ew ev es pa wa va sa E (fun _ => nI 0)) (O : EdO h (dR h0 h r sp) ed lp lw lv ls ep ew ev es pa wa va sa E) {P : Pl} (hP2 : P.2 = []) (ax : hT hx = hT h + 1 ∧ hU hx = hU h + 11 ∧ hZ hx = hZ h ∧ ∀ a, a ≠ hT h → samA h hx a) (pf : PF hx (hT h) P.1) (K : ∀ h4, RS h0 h4 r sg sp ed len tx (E.1 ++ [P], E.2.1, E.2.2) s (dT + 2) (dU + 2 * E.1.length + 25) → samA h h4 sp → Q 0 (some (.int (nI 1))) h4) : sm_wp 145 0 [.ref lp, .ref (hT h)] [] hx Q := by
  have r2 := R.2.2.2.1.2.1
  have w := R.2.1
  obtain ⟨a1, a2, a3, a4⟩ := ax
  have sr := a4 r (by omega)
  exact c_addPs (a := 1) (b := 11) R hWd X O ⟨by omega, by omega, by omega, by omega, a3, fun a ha _ => a4 a (by omega)⟩ ⟨rfl, rfl, rfl, fun a _ => samA.refl hx a, sr.1.trans w.2.2.2.2.1, fun _ _ _ => rfl, (sr.2.2.1 _).trans w.2.2.2.2.2.2.1, (sr.2.2.1 _).trans w.2.2.2.2.2.2.2.1, w.2.2.2.2.2.2.2.2⟩ (fun g _ _ => sr.2.2.1 g) hP2 (by omega) (Nat.le_refl _) (by omega) pf (fun h4 R4 S4 => K h4 (R4.le (by omega) (by omega)) S4)
theorem c_addAts {h0 h : sm_H} {Q : Nat → Option Value → sm_H → Prop} {r sg sp ed len : Nat} {tx : Nat → Int32} {E : Ed} {s : Nat × Int32} {dT dU : Nat} (R : RS h0 h r sg sp ed len tx E s dT dU) (hWd : EdW E) (hn : E.1.length < 2 ^ 12) {nm : Int32} {kd k : Nat} (hk : k < E.1.length) (hk2 : atP E.1 1 k = nI 2) (K : ∀ h4, RS h0 h4 r sg sp ed len tx (E.1 ++ [plA E.1 nm kd k []], E.2.1, E.2.2) s (dT + 2) (dU + 2 * E.1.length + 25) → samA h h4 sp → Q 0 none h4) : sm_wp 77 0 [.ref r, .int nm, .int (nI kd), .int (nI k), jk, jk] [] h Q := by
  obtain ⟨B, w, f, ⟨r1, r2, r3, r4, r5⟩, ⟨z1, z2⟩, lp, lw, lv, ls, ep, ew, ev, es, pa, wa, va, sa, X, O⟩ := id R
  have hD : ∀ a, dR h0 h r sp a → a ≠ r := fun a ha => ha.2.2.1
  have hT0 := f.1
  have hzr : hZ h ≠ r := by have := f.2.2.2.2.1; omega
  have hB := B.2.2.2.2.2.2.2.2.2.2
  have hsl := w.2.2.2.2.2.2.2.2
  obtain ⟨x, y, ex, ey, e4, e5⟩ := hWd.pc hk hk2
  have hpk : pa k < hT h := (O.2.2.2.2.2.1 k hk).2.1
  have l1 := X.2.1.1
  refine wp_pure k_77 rfl rfl ?_
  refine wp_get k_77 rfl B.1 B.2.2.2.1 ?_
  refine wp_get k_77 rfl X.1.1 X.1.2.1 ?_
  refine wp_pure k_77 rfl rfl ?_
  refine wp_iv k_77 rfl [.int (nI k)] rfl X.2.1.1.1 (r := []) (Nat.le_of_ble_eq_true rfl) (Nat.le_of_ble_eq_true rfl) rfl ?_
  refine c_get l1 hk ⟨rfl, ?_⟩
  refine wp_cc k_77 rfl (X.2.2.1 k hk).1 ?_
  refine wp_pure k_77 rfl rfl ?_
  refine wp_new k_77 rfl rfl ?_
  show sm_wp 77 19 [.ref r, .int nm, .int (nI kd), .int (nI k), .ref (pa k), jk] [.ref (hT h)] _ Q
  refine wp_pure k_77 rfl rfl ?_
  refine wp_pure k_77 rfl rfl ?_
  refine wp_pure k_77 rfl rfl ?_
  refine wp_pure k_77 rfl rfl ?_
  refine wp_get k_77 rfl ((if_neg (Nat.ne_of_lt hpk)).trans (X.2.2.1 k hk).1) ((if_neg (Nat.ne_of_lt hpk)).trans (((X.2.2.1 k hk).2.1 2 (by decide)).trans (congrArg Value.int ex))) ?_
  refine wp_pure k_77 rfl rfl ?_
  refine wp_get k_77 rfl ((if_neg (Nat.ne_of_lt hpk)).trans (X.2.2.1 k hk).1) ((if_neg (Nat.ne_of_lt hpk)).trans (((X.2.2.1 k hk).2.1 3 (by decide)).trans (congrArg Value.int ey))) ?_
  refine wp_pure k_77 rfl rfl ?_
  refine wp_get k_77 rfl ((if_neg (Nat.ne_of_lt hpk)).trans (X.2.2.1 k hk).1) ((if_neg (Nat.ne_of_lt hpk)).trans (((X.2.2.1 k hk).2.1 4 (by decide)).trans (congrArg Value.int e4))) ?_
  refine wp_pure k_77 rfl rfl ?_
  refine wp_get k_77 rfl ((if_neg (Nat.ne_of_lt hpk)).trans (X.2.2.1 k hk).1) ((if_neg (Nat.ne_of_lt hpk)).trans (((X.2.2.1 k hk).2.1 5 (by decide)).trans (congrArg Value.int e5))) ?_
  refine wp_ic k_77 rfl (by decide) [.int nm, .int (nI kd), .int (nI x), .int (nI y), .int (nI 1), .int (nI 1)] rfl (r := [.ref (hT h)]) (Nat.le_of_ble_eq_true rfl) (Nat.le_of_ble_eq_true rfl) rfl ?_
  refine c_47 ⟨rfl, ?_⟩
  have ax := @plH_fr h nm (nI kd) x y 1 1
  have pf := @plH_pf h nm (nI kd) x y 1 1
  generalize plH h nm (nI kd) x y 1 1 = hx at *
  refine wp_pure k_77 rfl rfl ?_
  refine wp_pure k_77 rfl rfl ?_
  refine wp_pure k_77 rfl rfl ?_
  refine wp_put k_77 rfl pf.1 rfl rfl ?_
  have pg := pf.b7 (b := nI k)
  have ay : hT (putF hx 775 (hT h) (.int (nI k))) = hT h + 1 ∧ hU (putF hx 775 (hT h) (.int (nI k))) = hU h + 11 ∧ hZ (putF hx 775 (hT h) (.int (nI k))) = hZ h ∧ ∀ a, a ≠ hT h → samA h (putF hx 775 (hT h) (.int (nI k))) a := ⟨hT_putF.trans ax.1, hU_putF.trans ax.2.1, hZ_putF.trans ax.2.2.1, fun a q => (ax.2.2.2 a q).trans (samA.putF q)⟩
  generalize putF hx 775 (hT h) (.int (nI k)) = hy at *
  have sr := ay.2.2.2 r (by omega)
  have se := ay.2.2.2 ed (by have := O.1.1.2.1; omega)
  have sl := ay.2.2.2 lp (by have := O.1.2.1.2.1; omega)
  refine wp_pure k_77 rfl rfl ?_
  refine wp_get k_77 rfl (sr.1.trans B.1) ((sr.2.2.1 _).trans B.2.2.2.1) ?_
  refine wp_get k_77 rfl (se.1.trans X.1.1) ((se.2.2.1 _).trans X.1.2.1) ?_
  refine wp_pure k_77 rfl rfl ?_
  refine wp_iv k_77 rfl [.ref (hT h)] rfl (sl.1.trans X.2.1.1.1) (r := []) (Nat.le_of_ble_eq_true rfl) (Nat.le_of_ble_eq_true rfl) rfl ?_
  refine c_addNews (P := plA E.1 nm kd k []) R hWd hn X O rfl ay ?_ (fun h8 R8 S8 => ⟨rfl, ?_⟩)
  · show PF hy (hT h) (plF [nm, nI kd, atP E.1 2 k, atP E.1 3 k, nI 1, nI 1, nI 0, nI k])
    rw [ex, ey]
    exact pg
  · refine wp_pure k_77 rfl rfl ?_
    exact wp_vrt k_77 rfl rfl (K h8 R8 S8)
theorem RS.spw {h0 h : sm_H} {r sg sp ed len : Nat} {tx : Nat → Int32} {E : Ed} {s : Nat × Int32} {dT dU : Nat} (R : RS h0 h r sg sp ed len tx E s dT dU) {i : Nat} {v : Value} : RS h0 (putA h sp i v) r sg sp ed len tx E s dT dU := by
  obtain ⟨B, w, f, ⟨r1, r2, r3, r4, r5⟩, ⟨z1, z2⟩, lp, lw, lv, ls, ep, ew, ev, es, pa, wa, va, sa, X, O⟩ := R
  have sgr : sg ≠ sp := kne B.2.2.2.2.2.1 B.2.2.2.2.2.2.2.2.1 (by decide)
  have spr : r ≠ sp := kne B.1 B.2.2.2.2.2.2.2.2.1 (by decide)
  have hzr : hZ h ≠ sp := by have := f.2.2.2.2.1; omega
  have s9 : ∀ a, a ≠ sp → samA h (putA h sp i v) a := fun a q => samA.putA q
  have c9 : hC (putA h sp i v) sp = 1 ∧ hL (putA h sp i v) sp = 4 := ⟨B.2.2.2.2.2.2.2.2.1, B.2.2.2.2.2.2.2.2.2.1⟩
  have t9 : hT (putA h sp i v) = hT h ∧ hU (putA h sp i v) = hU h ∧ hZ (putA h sp i v) = hZ h := ⟨rfl, rfl, rfl⟩
  generalize putA h sp i v = h' at *
  have x := EdFO.same X O (fun b hb => s9 b hb.2.2.2) (s9 _ hzr) t9.2.2 (by rw [t9.1]; exact Nat.le_refl _)
  have sr := s9 r spr
  refine ⟨B.same (sr.1.trans B.1) (fun g _ _ => sr.2.2.1 g) (s9 sg sgr) c9, ⟨rfl, rfl, rfl, fun a _ => samA.refl h' a, sr.1.trans B.1, fun _ _ _ => rfl, (sr.2.2.1 _).trans w.2.2.2.2.2.2.1, (sr.2.2.1 _).trans w.2.2.2.2.2.2.2.1, w.2.2.2.2.2.2.2.2⟩, ?_, ⟨r1, by rw [t9.1]; exact r2, r3, by rw [t9.1]; exact r4, r5⟩, ⟨z1, z2⟩, lp, lw, lv, ls, ep, ew, ev, es, pa, wa, va, sa, x.1, x.2.mono (fun a ha => ⟨ha.1, by rw [t9.1]; exact ha.2.1, ha.2.2⟩)⟩
  exact f.trans (⟨by rw [t9.1]; exact Nat.le_refl _, by rw [t9.1]; exact Nat.le_refl _, by rw [t9.2.1]; exact Nat.le_refl _, by rw [t9.2.1]; exact Nat.le_refl _, t9.2.2, fun a _ ha => s9 a ha⟩ : Fr h h' (fun b => b = sp) 0 0) (fun _ _ q => q) (fun b hb q => by rw [q] at hb; omega) (Nat.le_refl _) (Nat.le_refl _)
theorem getD_l {l : List Int32} {x : Int32} {i : Nat} (h : i < l.length) : (l ++ [x]).getD i 0 = l.getD i 0 := by
  rw [List.getD_eq_getElem?_getD, List.getElem?_append_left h, ← List.getD_eq_getElem?_getD]
theorem getD_r {l : List Int32} {x : Int32} : (l ++ [x]).getD l.length 0 = x := by
  rw [List.getD_eq_getElem?_getD, List.getElem?_append_right (Nat.le_refl _), Nat.sub_self]; rfl
theorem getD_m {l : List Nat} {i : Nat} (h : i < l.length) : (l.map nI).getD i 0 = nI (l.getD i 0) := by
  rw [List.getD_eq_getElem?_getD, List.getD_eq_getElem?_getD, List.getElem?_map, List.getElem?_eq_getElem h]; rfl
theorem tk_su {l : List Nat} {i : Nat} (h : i < l.length) : l.take i ++ [l.getD i 0] = l.take (i + 1) := by
  rw [List.take_add_one, List.getD_eq_getElem?_getD, List.getElem?_eq_getElem h]; rfl
theorem sp_w {h h2 : sm_H} {sp n : Nat} {l : List Int32} {x : Int32} (s : samA h h2 sp) (c : ∀ i, i < l.length → hA h sp i = .int (l.getD i 0)) (hn : n = l.length) : ∀ i, i < (l ++ [x]).length → hA (putA h2 sp n (.int x)) sp i = .int ((l ++ [x]).getD i 0) := by
  subst hn
  intro i hi
  have hi : i < l.length + 1 := by rw [List.length_append] at hi; exact hi
  by_cases q : i = l.length
  · subst q; rw [getD_r]; exact hA_putA
  · rw [getD_l (by omega), hA_putA_i q, s.2.2.2]; exact c i (by omega)
theorem c_liftL {h0 : sm_H} {Q : Nat → Option Value → sm_H → Prop} {r sg sp ed len : Nat} {tx : Nat → Int32} {E : Ed} {dT dU : Nat} (hn : E.1.length < 2 ^ 12) {nm : Int32} {Z : List Int32 × Nat × Int32} (K : ∀ h2, RS h0 h2 r sg sp ed len tx E Z.2 dT dU → (∀ i, i < Z.1.length → hA h2 sp i = .int (Z.1.getD i 0)) → Z.1.length ≤ 4 → sm_wp 78 59 [.ref r, .int nm, .int (nI Z.1.length), jk, jk] [] h2 Q) : ∀ (k : Nat) (l : List Int32) (s : Nat × Int32) (h : sm_H), l.length + k = 4 → RS h0 h r sg sp ed len tx E s dT dU → (∀ i, i < l.length → hA h sp i = .int (l.getD i 0)) → lsC tx len (atP E.1 0) (atP E.1 1) E.1.length k l s = Z → sm_wp 78 19 [.ref r, .int nm, .int (nI l.length), jk, jk] [] h Q := by
  intro k
  induction k with
  | zero =>
    intro l s h h4 R C hlz
    have hlz : (l, s) = Z := hlz
    subst hlz
    refine wp_pure k_78 rfl rfl ?_
    refine wp_kn k_78 rfl rfl ?_
    refine wp_br k_78 rfl rfl rfl rfl (fun _ => ?_) (fun z => absurd ((nI_leI (by omega) (by omega)).mpr (show 4 ≤ l.length by omega)) z)
    exact K h R C (by show l.length ≤ 4; omega)
  | succ k ih =>
    intro l s h h4 R C hlz
    obtain ⟨B, w, f, ⟨r1, r2, r3, r4, r5⟩, ⟨z1, z2⟩, lp, lw, lv, ls, ep, ew, ev, es, pa, wa, va, sa, X, O⟩ := id R
    have hD : ∀ a, dR h0 h r sp a → a ≠ r := fun a ha => ha.2.2.1
    have hT0 := f.1
    have hzr : hZ h ≠ r := by have := f.2.2.2.2.1; omega
    have hB := B.2.2.2.2.2.2.2.2.2.2
    have hsl := w.2.2.2.2.2.2.2.2
    have spr : sp ≠ r := kne B.2.2.2.2.2.2.2.2.1 B.1 (by decide)
    obtain ⟨kv, hv⟩ : ∃ kv, tk tx len s.1 = kv := ⟨_, rfl⟩
    refine wp_pure k_78 rfl rfl ?_
    refine wp_kn k_78 rfl rfl ?_
    refine wp_br k_78 rfl rfl rfl rfl (fun z => absurd z (nI_ge (show l.length < 4 by omega) (by omega))) (fun _ => ?_)
    refine wp_pure k_78 rfl rfl ?_
    refine wp_get k_78 rfl w.2.2.2.2.1 w.2.2.2.2.2.2.2.1 ?_
    refine wp_km k_78 rfl rfl ?_
    refine wp_br k_78 rfl rfl rfl rfl (fun (z29 : ¬ s.2 = -1) => ?_) (fun (z29 : ¬ (¬ s.2 = -1)) => ?_)
    · rw [lsC_n (fun z => z29 z.1)] at hlz
      subst hlz
      exact K h R C (by show l.length ≤ 4; omega)
    · refine wp_pure k_78 rfl rfl ?_
      refine wp_iv k_78 rfl [] rfl w.2.2.2.2.1 (r := []) (Nat.le_of_ble_eq_true rfl) (Nat.le_of_ble_eq_true rfl) rfl ?_
      refine c_peek B w hv ⟨rfl, ?_⟩
      refine wp_kn k_78 rfl rfl ?_
      refine wp_br k_78 rfl rfl rfl rfl (fun (z38 : ¬ kv = nI 32) => ?_) (fun (z38 : ¬ (¬ kv = nI 32)) => ?_)
      · rw [lsC_n (fun z => z38 (hv.symm.trans z.2))] at hlz
        subst hlz
        exact K h R C (by show l.length ≤ 4; omega)
      · refine wp_pure k_78 rfl rfl ?_
        refine wp_get k_78 rfl w.2.2.2.2.1 ((w.2.2.2.2.2.1 1027 (by decide) (by decide)).trans B.2.2.2.2.1) ?_
        refine wp_pure k_78 rfl rfl ?_
        refine wp_pure k_78 rfl rfl ?_
        refine wp_kn k_78 rfl rfl ?_
        refine wp_km k_78 rfl rfl ?_
        refine wp_iv k_78 rfl [.int (nI 2), .int (-1)] rfl w.2.2.2.2.1 (r := [.int (nI (l.length)), .ref sp]) (Nat.le_of_ble_eq_true rfl) (Nat.le_of_ble_eq_true rfl) rfl ?_
        refine c_used9 B w X O hD hzr (fun h2 n1 g1 w2 => ⟨rfl, ?_⟩)
        refine wp_iast k_78 rfl ((w2.2.2.2.1 sp spr).1.trans B.2.2.2.2.2.2.2.2.1) (nLt ((w2.2.2.2.1 sp spr).2.1.trans B.2.2.2.2.2.2.2.2.2.1) (show l.length < 4 by omega)) (nLb ((w2.2.2.2.1 sp spr).2.1.trans B.2.2.2.2.2.2.2.2.2.1) (by omega)) ?_
        refine wp_inc k_78 rfl rfl rfl ?_
        refine wp_br k_78 rfl rfl rfl rfl (fun _ => ?_) (fun z => absurd trivial z)
        have hv2 : tk tx len s.1 = nI 32 := hv.trans (Classical.not_not.mp z38)
        have hl9 : (l ++ [n1.1]).length = l.length + 1 := by rw [List.length_append]; rfl
        rw [lsC_y ⟨Classical.not_not.mp z29, hv2⟩, g1] at hlz
        have y := ih (l ++ [n1.1]) n1.2 _ (by rw [hl9]; omega) (R.rd w2).spw (sp_w (n := l.length) (w2.2.2.2.1 sp spr) C rfl) hlz
        rw [hl9] at y
        exact y
theorem c_lift9 {h0 h : sm_H} {Q : Nat → Option Value → sm_H → Prop} {r sg sp ed len : Nat} {tx : Nat → Int32} {E : Ed} {p dT dU : Nat} (R : RS h0 h r sg sp ed len tx E (p, -1) dT dU) (hWd : EdW E) (hn : E.1.length < 2 ^ 12) (hn10 : E.1.length ≤ 1000) (K1 : ∀ v l q, lftM tx len (atP E.1 0) (atP E.1 1) E.1.length p = .ok (v, l, q) → ∀ h', RS h0 h' r sg sp ed len tx (E.1 ++ [plA E.1 v 6 (l.getD 0 0) l], E.2.1, E.2.2) (q, -1) (dT + 10) (dU + (34 * E.1.length + 150)) → Q 0 none h') (K0 : ∀ q, lftM tx len (atP E.1 0) (atP E.1 1) E.1.length p = .error q → ∀ h' s', RS h0 h' r sg sp ed len tx E s' dT dU → s'.2 = nI q → q ≤ len → Q 0 none h') : sm_wp 78 0 [.ref r, jk, jk, jk, jk] [] h Q := by
  obtain ⟨B, w, f, ⟨r1, r2, r3, r4, r5⟩, ⟨z1, z2⟩, lp, lw, lv, ls, ep, ew, ev, es, pa, wa, va, sa, X, O⟩ := id R
  have hD : ∀ a, dR h0 h r sp a → a ≠ r := fun a ha => ha.2.2.1
  have hT0 := f.1
  have hzr : hZ h ≠ r := by have := f.2.2.2.2.1; omega
  have hB := B.2.2.2.2.2.2.2.2.2.2
  have hsl := w.2.2.2.2.2.2.2.2
  have spr : sp ≠ r := kne B.2.2.2.2.2.2.2.2.1 B.1 (by decide)
  refine wp_pure k_78 rfl rfl ?_
  refine wp_iv k_78 rfl [] rfl w.2.2.2.2.1 (r := []) (Nat.le_of_ble_eq_true rfl) (Nat.le_of_ble_eq_true rfl) rfl ?_
  refine c_newN9 B w X O hD hzr (fun h2 n1 g1 w2 => ⟨rfl, ?_⟩)
  refine wp_pure k_78 rfl rfl ?_
  refine wp_pure k_78 rfl rfl ?_
  refine wp_get k_78 rfl w2.2.2.2.2.1 ((w2.2.2.2.2.2.1 1027 (by decide) (by decide)).trans B.2.2.2.2.1) ?_
  refine wp_kn k_78 rfl rfl ?_
  refine wp_pure k_78 rfl rfl ?_
  refine wp_kn k_78 rfl rfl ?_
  refine wp_km k_78 rfl rfl ?_
  refine wp_iv k_78 rfl [.int (nI 2), .int (-1)] rfl w2.2.2.2.2.1 (r := [.int (nI 0), .ref sp]) (Nat.le_of_ble_eq_true rfl) (Nat.le_of_ble_eq_true rfl) rfl ?_
  refine c_used9 B w2 X O hD hzr (fun h3 n2 g2 w3 => ⟨rfl, ?_⟩)
  refine wp_iast k_78 rfl ((w3.2.2.2.1 sp spr).1.trans B.2.2.2.2.2.2.2.2.1) (nLt ((w3.2.2.2.1 sp spr).2.1.trans B.2.2.2.2.2.2.2.2.2.1) (show 0 < 4 by omega)) (nLb ((w3.2.2.2.1 sp spr).2.1.trans B.2.2.2.2.2.2.2.2.2.1) (by omega)) ?_
  have R4 := (R.rd w3).spw (i := 0) (v := .int n2.1)
  have C4 := sp_w (n := 0) (l := []) (x := n2.1) (samA.refl h3 sp) (fun i hi => absurd hi (Nat.not_lt_zero i)) rfl
  generalize putA h3 sp 0 (.int n2.1) = h4 at *
  obtain ⟨z3, g3⟩ : ∃ z3, lsC tx len (atP E.1 0) (atP E.1 1) E.1.length 3 [n2.1] n2.2 = z3 := ⟨_, rfl⟩
  obtain ⟨c1, c0⟩ := lftC9 (by omega) hsl (by omega) g1 g2 g3
  refine wp_kn k_78 rfl rfl ?_
  refine wp_pure k_78 rfl rfl ?_
  refine c_liftL hn (Z := z3) (fun h5 R5 C5 hl5 => ?_) 3 [n2.1] n2.2 h4 rfl R4 C4 g3
  obtain ⟨B5, w5, f5, ⟨r15, r25, r35, r45, r55⟩, ⟨z15, z25⟩, lp5, lw5, lv5, ls5, ep5, ew5, ev5, es5, pa5, wa5, va5, sa5, X5, O5⟩ := id R5
  refine wp_pure k_78 rfl rfl ?_
  refine wp_iv k_78 rfl [] rfl B5.1 (r := []) (Nat.le_of_ble_eq_true rfl) (Nat.le_of_ble_eq_true rfl) rfl ?_
  refine c_ends B5 w5 (fun h6 w6 ok => ⟨rfl, ?_⟩) (fun h6 w6 ok => ⟨rfl, ?_⟩)
  · skip
    have hmo : ∃ z9, lftM tx len (atP E.1 0) (atP E.1 1) E.1.length p = .ok z9 := by
      cases hm : lftM tx len (atP E.1 0) (atP E.1 1) E.1.length p with
      | error q => exact absurd ((c0 q hm).1.symm.trans ok) (nI_nm1 (by have := (c0 q hm).2; omega))
      | ok z9 => exact ⟨z9, rfl⟩
    obtain ⟨⟨v, l, q⟩, hm⟩ := hmo
    obtain ⟨k1, k2, k4⟩ := c1 v l q hm
    rw [k4] at w6
    have R7 := R5.rd w6
    have o7 := lftM_ok hm
    obtain ⟨l9, s9⟩ := z3
    dsimp only at k2 k4 C5 hl5 ok w6
    subst k2
    rw [List.length_map] at C5 hl5
    have C7 : ∀ i, i < l.length → hA h6 sp i = .int (nI (l.getD i 0)) := fun i hi => ((w6.2.2.2.1 sp spr).2.2.2 i).trans ((C5 i hi).trans (congrArg Value.int (getD_m hi)))
    have hd7 := o7.2.2.2.2.1
    have hm7 : ∀ i, i < l.length → l.getD i 0 < E.1.length ∧ atP E.1 1 (l.getD i 0) = nI 2 := fun i hi => hd7 _ (by rw [List.getD_eq_getElem?_getD, List.getElem?_eq_getElem hi]; exact List.getElem_mem hi)
    obtain ⟨B7, w7, f7, ⟨r17, r27, r37, r47, r57⟩, ⟨z17, z27⟩, lp7, lw7, lv7, ls7, ep7, ew7, ev7, es7, pa7, wa7, va7, sa7, X7, O7⟩ := id R7
    show sm_wp 78 63 [.ref r, .int n1.1, .int (nI (l.map nI).length), jk, jk] [.int (nI 1)] h6 Q
    rw [k1, List.length_map]
    refine wp_br k_78 rfl rfl rfl rfl (fun z => absurd z (show ¬ ((nI 1 : Int32) = 0) by decide)) (fun _ => ?_)
    refine wp_pure k_78 rfl rfl ?_
    refine wp_get k_78 rfl B7.1 B7.2.2.2.1 ?_
    refine wp_get k_78 rfl X7.1.1 X7.1.2.1 ?_
    refine wp_iv k_78 rfl [] rfl X7.2.1.1.1 (r := []) (Nat.le_of_ble_eq_true rfl) (Nat.le_of_ble_eq_true rfl) rfl ?_
    refine c_size X7.2.1.1 ⟨rfl, ?_⟩
    refine wp_pure k_78 rfl rfl ?_
    refine wp_pure k_78 rfl rfl ?_
    refine wp_pure k_78 rfl rfl ?_
    refine wp_kn k_78 rfl rfl ?_
    refine wp_pure k_78 rfl rfl ?_
    refine wp_get k_78 rfl B7.1 B7.2.2.2.2.1 ?_
    refine wp_kn k_78 rfl rfl ?_
    refine wp_iald k_78 rfl (cTy B7.2.2.2.2.2.2.2.2.1 rfl) (nLt B7.2.2.2.2.2.2.2.2.2.1 (show 0 < 4 by omega)) (nLb B7.2.2.2.2.2.2.2.2.2.1 (by omega)) (C7 0 (by omega)) ?_
    refine wp_iv k_78 rfl [.int v, .int (nI 6), .int (nI (l.getD 0 0))] rfl B7.1 (r := []) (Nat.le_of_ble_eq_true rfl) (Nat.le_of_ble_eq_true rfl) rfl ?_
    refine c_addAts R7 hWd hn (hm7 0 (by omega)).1 (hm7 0 (by omega)).2 (fun h8 R8 S8 => ⟨rfl, ?_⟩)
    refine wp_kn k_78 rfl rfl ?_
    refine wp_pure k_78 rfl rfl ?_
    refine dn (n := l.length) (P := fun i => ∀ h9, RS h0 h9 r sg sp ed len tx (E.1 ++ [plA E.1 v 6 (l.getD 0 0) (l.take i)], E.2.1, E.2.2) (q, -1) (dT + 2 + 2 * i) (dU + (2 * E.1.length + 25) + i * (8 * E.1.length + 25)) → (∀ j, j < l.length → hA h9 sp j = .int (nI (l.getD j 0))) → sm_wp 78 93 [.ref r, .int v, .int (nI l.length), .int (nI E.1.length), .int (nI i)] [] h9 Q) ?_ ?_ 0 (Nat.zero_le _) h8 (R8.le (by omega) (by omega)) (fun j hj => (S8.2.2.2 j).trans (C7 j hj))
    · intro h9 R9 C9
      rw [List.take_length] at R9
      refine wp_pure k_78 rfl rfl ?_
      refine wp_pure k_78 rfl rfl ?_
      refine wp_br k_78 rfl rfl rfl rfl (fun _ => ?_) (fun z => absurd (Int32.le_refl _) z)
      exact wp_vrt k_78 rfl rfl (K1 v l q hm h9 (R9.le (by omega) (by
        have : l.length * (8 * E.1.length + 25) ≤ 4 * (8 * E.1.length + 25) := Nat.mul_le_mul_right _ (by omega)
        omega)))
    · intro i hi ih h9 R9 C9
      have hR9 := R9
      obtain ⟨B9, w9, f9, ⟨r19, r29, r39, r49, r59⟩, ⟨z19, z29⟩, lp9, lw9, lv9, ls9, ep9, ew9, ev9, es9, pa9, wa9, va9, sa9, X9, O9⟩ := id R9
      have hs9 : (sts (E.1 ++ [plA E.1 v 6 (l.getD 0 0) (l.take i)])).length ≤ 4 * E.1.length + 4 := by
        rw [sts_new, List.length_append, List.length_map]
        have h1 : (sts E.1).length ≤ 4 * E.1.length := stsN_len hWd _ (Nat.le_refl _)
        have h2 : (l.take i).length ≤ 4 := by rw [List.length_take]; omega
        show (sts E.1).length + (l.take i).length ≤ _
        omega
      have hb9 : l.getD i 0 < (E.1 ++ [plA E.1 v 6 (l.getD 0 0) (l.take i)]).length := by rw [List.length_append]; have := (hm7 i hi).1; omega
      refine wp_pure k_78 rfl rfl ?_
      refine wp_pure k_78 rfl rfl ?_
      refine wp_br k_78 rfl rfl rfl rfl (fun z => absurd z (nI_ge hi (by omega))) (fun _ => ?_)
      refine wp_pure k_78 rfl rfl ?_
      refine wp_get k_78 rfl B9.1 B9.2.2.2.1 ?_
      refine wp_pure k_78 rfl rfl ?_
      refine wp_pure k_78 rfl rfl ?_
      refine wp_get k_78 rfl B9.1 B9.2.2.2.2.1 ?_
      refine wp_pure k_78 rfl rfl ?_
      refine wp_iald k_78 rfl (cTy B9.2.2.2.2.2.2.2.2.1 rfl) (nLt B9.2.2.2.2.2.2.2.2.2.1 (show i < 4 by omega)) (nLb B9.2.2.2.2.2.2.2.2.2.1 (by omega)) (C9 i hi) ?_
      refine wp_iv k_78 rfl [.int (nI (E.1.length)), .int (nI (l.getD i 0))] rfl X9.1.1 (r := []) (Nat.le_of_ble_eq_true rfl) (Nat.le_of_ble_eq_true rfl) rfl ?_
      refine c_addStop hR9 (by dsimp only; omega) rfl hWd rfl rfl hb9 (fun h4 Rz Sz => ⟨rfl, ?_⟩)
      refine wp_inc k_78 rfl rfl rfl ?_
      refine wp_br k_78 rfl rfl rfl rfl (fun _ => ?_) (fun z => absurd trivial z)
      refine ih h4 ?_ (fun j hj => (Sz.2.2.2 j).trans (C9 j hj))
      have Rz : RS h0 h4 r sg sp ed len tx (E.1 ++ [plA E.1 v 6 (l.getD 0 0) (l.take i ++ [l.getD i 0])], E.2.1, E.2.2) (q, -1) _ _ := Rz
      rw [tk_su hi] at Rz
      refine Rz.le (by omega) ?_
      dsimp only
      have e9 : (i + 1) * (8 * E.1.length + 25) = i * (8 * E.1.length + 25) + (8 * E.1.length + 25) := by rw [Nat.add_mul, Nat.one_mul]
      omega
  · refine wp_br k_78 rfl rfl rfl rfl (fun _ => ?_) (fun z => absurd (show (nI 0 : Int32) = 0 by decide) z)
    cases hm : lftM tx len (atP E.1 0) (atP E.1 1) E.1.length p with
    | ok z9 =>
      obtain ⟨v, l, q⟩ := z9
      exact absurd (by rw [(c1 v l q hm).2.2]) ok
    | error q => exact wp_vrt k_78 rfl rfl (K0 q hm h6 _ (R5.rd w6) (c0 q hm).1 (c0 q hm).2)
