theorem c_differ {h : sm_H} {Q : Nat → Option Value → sm_H → Prop} {x : Nat} {σ : Sg} {P : Nat → Prop} (C : CR h x σ P) (S : SI σ) {a : Int32} (Kt : ¬ (∃ e, e ≤ sE σ ∧ a = nI e) → Q 12 (some (.ref (hT h))) (thH h 11)) (K1 : ∀ e, e ≤ sE σ → a = nI e → ∀ h', CR h' x (dfS σ (mvN (sCur σ) (edP σ e) (sUn σ e) (edP σ e).length).1) P → (∀ a, P a → samA h h' a) → hT h' = hT h → hU h' = hU h → hZ h' = hZ h → Q 0 (some (.int (mvN (sCur σ) (edP σ e) (sUn σ e) (edP σ e).length).2)) h') : sm_wp 14 0 [.ref x, .int a, jk, jk, jk, jk] [] h Q := by
  obtain ⟨sg, eds, ee, go, on, bk, sl, ins, lf, ef, pl, pls, fnd, ea, fa, lo, hi, onf, bkf, dk, rc, ex, c1, c2, c3, c4, c5, c6, c7, c8, c9⟩ := id C
  have keE := c7.1.ke
  have keF := c6.2.2.1.ke
  obtain ⟨x0, x1, x2, x3, x4, x5, x6, x7, x8, x9⟩ := id c1
  have hlen := S.2.2.2.1
  have hlen8 := S.2.2.2.2.1
  have hsl : sE σ < (sEd σ).length := by unfold sE; omega
  have hCA : CA h x sg eds ee go on bk sl ins lf ef pl pls fnd ea fa lo hi onf bkf dk rc ex σ P := ⟨c1, c2, c3, c4, c5, c6, c7, c8, c9⟩
  by_cases q1 : ∃ e, e < (sEd σ).length ∧ a = nI e
  · obtain ⟨e, he, rfl⟩ := q1
    obtain ⟨E2, qE, _, _, lp2, lw2, lv2, ls2, ep2, ew2, ev2, es2, pa2, wa2, va2, sa2, X2, O2⟩ := c7.2 e he
    obtain ⟨E9, _, hE9, _, lp, lw, lv, ls, ep, ew, ev, es, pa, wa, va, sa, X, O⟩ := c7.2 (sE σ) hsl
    have hE9 := hE9 rfl
    subst hE9
    have n6 : E2.1.length ≤ 60 := by rw [qE]; exact S.2.2.2.2.2.2.1 e
    have hse : e ≤ sE σ := by unfold sE; omega
    have hWd2 : EdW (E2.1, [], []) := by rw [qE]; exact S.2.1 e
    refine wp_pure k_14 rfl rfl ?_
    refine wp_pure k_14 rfl rfl ?_
    refine wp_iv k_14 rfl [.int (nI e)] rfl x0 (r := []) (Nat.le_of_ble_eq_true rfl) (Nat.le_of_ble_eq_true rfl) rfl ?_
    refine c_edN hCA (fun k9 hk9 e9 => ?_) (fun q => absurd ⟨e, he, rfl⟩ q)
    have e9 := (nI_eq (by omega) (by omega)).mp e9
    subst e9
    refine ⟨rfl, ?_⟩
    refine wp_pure k_14 rfl rfl ?_
    refine wp_pure k_14 rfl rfl ?_
    refine wp_br k_14 rfl rfl rfl rfl (fun _ => ?_) (fun z => absurd trivial z)
    refine wp_pure k_14 rfl rfl ?_
    refine wp_kn k_14 rfl rfl ?_
    refine wp_put k_14 rfl x0 rfl rfl ?_
    refine wp_kn k_14 rfl rfl ?_
    refine wp_pure k_14 rfl rfl ?_
    refine wp_kn k_14 rfl rfl ?_
    refine wp_pure k_14 rfl rfl ?_
    generalize hh0 : putF h 8 x (.int (nI 0)) = h0
    refine dn (n := E2.1.length) (P := fun i => ∀ (x5 : Value) (h1 : sm_H), hT h1 = hT h → hU h1 = hU h → hZ h1 = hZ h → (∀ a, a ≠ x → a ≠ fnd → samA h h1 a) → cX h1 x sg eds (ea (sE σ)) go ins pl fnd (sLen σ) (mvN (sCur σ) (edP σ e) (sUn σ e) i).1.length → cN h1 fnd (mvN (sCur σ) (edP σ e) (sUn σ e) i).1 → sm_wp 14 30 [.ref x, .int (nI e), .ref (ea e), .int (mvN (sCur σ) (edP σ e) (sUn σ e) i).2, .int (nI i), x5] [] h1 Q) ?_ ?_ 0 (Nat.zero_le _) jk h0 (by rw [← hh0]; rfl) (by rw [← hh0]; rfl) (by rw [← hh0]; rfl) (fun a h1 _ => by rw [← hh0]; exact samA.putF h1) ?_ ?_
    · intro x5 h1 hT1 hU1 hz nW d1 d3
      have sE2 := fun b hb => nW b (c8.2.2.2.2.2.2.1 e he b hb).2.1 (c8.2.2.2.2.2.2.1 e he b hb).2.2.2.2.2.2.2.2.2.2.2.2.2.2.1
      have sE1 := fun b hb => nW b (c8.2.2.2.2.2.2.1 (sE σ) hsl b hb).2.1 (c8.2.2.2.2.2.2.1 (sE σ) hsl b hb).2.2.2.2.2.2.2.2.2.2.2.2.2.2.1
      have sZ : samA h h1 (hZ h) := nW _ (fun q => (c8.1 x (by simp)).2 (by rw [← q]; exact c9.2.2.1)) (fun q => (c8.1 fnd (by simp)).2 (by rw [← q]; exact c9.2.2.1))
      have X21 := (EdFO.same X2 O2 sE2 sZ hz (by omega)).1
      have X11 := (EdFO.same X O sE1 sZ hz (by omega)).1
      obtain ⟨⟨e02, e12, e22, e32, e42⟩, ⟨l12, l22, l32, l42⟩, hP2, hW2, hV2, hS2⟩ := id X21
      obtain ⟨⟨e0, e1, e2, e3, e4⟩, ⟨l1, l2, l3, l4⟩, hP, hW, hV, hS⟩ := id X11
      obtain ⟨x0, x1, x2, x3, x4, x5_, x6, x7, x8, x9⟩ := id d1
      refine wp_pure k_14 rfl rfl ?_
      refine wp_pure k_14 rfl rfl ?_
      refine wp_get k_14 rfl e02 e12 ?_
      refine wp_iv k_14 rfl [] rfl l12.1 (r := [.int (nI (E2.1.length))]) (Nat.le_of_ble_eq_true rfl) (Nat.le_of_ble_eq_true rfl) rfl ?_
      refine c_size l12 ⟨rfl, ?_⟩
      refine wp_br k_14 rfl rfl rfl rfl (fun _ => ?_) (fun z => absurd (Int32.le_refl _) z)
      refine wp_pure k_14 rfl rfl ?_
      have ht : hT h ≤ hT h1 := by omega
      have nW := fun a (_ : a < hT h) => nW a
      rw [qE] at d1 d3 ⊢
      exact wp_irt k_14 rfl rfl rfl (K1 e hse rfl h1 ⟨sg, eds, ee, go, on, bk, sl, ins, lf, ef, pl, pls, fnd, ea, fa, lo, hi, onf, bkf, dk, rc, ex, d1, (c2.same (nW sg (c8.1 _ (by simp)).1 (kne c2.1 c1.1 (by decide)) (kne c2.1 c3.1 (by decide)))), d3, (c4.same (nW pl (c8.1 _ (by simp)).1 (kne c4.1 c1.1 (by decide)) (kne c4.1 c3.1 (by decide))) (nW pls (c8.1 _ (by simp)).1 (kne c4.2.2.2.1 c1.1 (by decide)) (kne c4.2.2.2.1 c3.1 (by decide)))), (c5.same (nW go (c8.1 _ (by simp)).1 (kne c5.1.1 c1.1 (by decide)) (kne c5.1.1 c3.1 (by decide))) (nW on (c8.1 _ (by simp)).1 (kne c5.2.1.1 c1.1 (by decide)) (kne c5.2.1.1 c3.1 (by decide))) (nW bk (c8.1 _ (by simp)).1 (kne c5.2.2.1.1 c1.1 (by decide)) (kne c5.2.2.1.1 c3.1 (by decide))) (nW sl (c8.1 _ (by simp)).1 (kne c5.2.2.2.1.1 c1.1 (by decide)) (kne c5.2.2.2.1.1 c3.1 (by decide)))), (c6.same (nW ins (c8.1 _ (by simp)).1 (kne c6.1 c1.1 (by decide)) (kne c6.1 c3.1 (by decide))) (nW lf (c8.1 _ (by simp)).1 (kne c6.2.2.1.1 c1.1 (by decide)) (kne c6.2.2.1.1 c3.1 (by decide))) (nW ef c6.2.2.1.2.2.2.2.2.2.1 (kne2 keF c1.1 (by decide) (by decide)) (kne2 keF c3.1 (by decide) (by decide))) (fun i hi => nW _ (c6.2.2.1.2.2.2.2.2.2.2.2 i hi).2.2.2 (kne (c6.2.2.2 i _ (List.getElem?_eq_getElem hi)).1 c1.1 (by decide)) (kne (c6.2.2.2 i _ (List.getElem?_eq_getElem hi)).1 c3.1 (by decide))) hz ht), (c7.same (nW eds (c8.1 _ (by simp)).1 (kne c7.1.1 c1.1 (by decide)) (kne c7.1.1 c3.1 (by decide))) (nW ee c7.1.2.2.2.2.2.2.1 (kne2 keE c1.1 (by decide) (by decide)) (kne2 keE c3.1 (by decide) (by decide))) (fun e he a ha => by
        have z := c8.2.2.2.2.2.2.1 e he a ha
        obtain ⟨E', _, _, r⟩ := c7.2 e he
        exact nW a (by have := r.1; have := ha.2; omega) (z.2.1) (z.2.2.2.2.2.2.2.2.2.2.2.2.2.2.1)) (nW _ (c9.2.2.2 _ c9.2.2.1) (fun q => (c8.1 x (by simp)).2 (by rw [← q]; exact c9.2.2.1)) (fun q => (c8.1 fnd (by simp)).2 (by rw [← q]; exact c9.2.2.1))) hz ht), (c8.same ht (nW ee c7.1.2.2.2.2.2.2.1 (kne2 keE c1.1 (by decide) (by decide)) (kne2 keE c3.1 (by decide) (by decide))).1 (nW ef c6.2.2.1.2.2.2.2.2.2.1 (kne2 keF c1.1 (by decide) (by decide)) (kne2 keF c3.1 (by decide) (by decide))).1), (c9.same (nW _ (c9.2.2.2 _ c9.2.2.1) (fun q => (c8.1 x (by simp)).2 (by rw [← q]; exact c9.2.2.1)) (fun q => (c8.1 fnd (by simp)).2 (by rw [← q]; exact c9.2.2.1))) hz ht)⟩ (fun a ha => nW a (c9.2.2.2 a ha) (fun q => (c8.1 x (by simp)).2 (by rw [← q]; exact ha)) (fun q => (c8.1 fnd (by simp)).2 (by rw [← q]; exact ha))) hT1 hU1 hz)
    · intro i hi9 ih x5 h1 hT1 hU1 hz nW d1 d3
      have sE2 := fun b hb => nW b (c8.2.2.2.2.2.2.1 e he b hb).2.1 (c8.2.2.2.2.2.2.1 e he b hb).2.2.2.2.2.2.2.2.2.2.2.2.2.2.1
      have sE1 := fun b hb => nW b (c8.2.2.2.2.2.2.1 (sE σ) hsl b hb).2.1 (c8.2.2.2.2.2.2.1 (sE σ) hsl b hb).2.2.2.2.2.2.2.2.2.2.2.2.2.2.1
      have sZ : samA h h1 (hZ h) := nW _ (fun q => (c8.1 x (by simp)).2 (by rw [← q]; exact c9.2.2.1)) (fun q => (c8.1 fnd (by simp)).2 (by rw [← q]; exact c9.2.2.1))
      have X21 := (EdFO.same X2 O2 sE2 sZ hz (by omega)).1
      have X11 := (EdFO.same X O sE1 sZ hz (by omega)).1
      obtain ⟨⟨e02, e12, e22, e32, e42⟩, ⟨l12, l22, l32, l42⟩, hP2, hW2, hV2, hS2⟩ := id X21
      obtain ⟨⟨e0, e1, e2, e3, e4⟩, ⟨l1, l2, l3, l4⟩, hP, hW, hV, hS⟩ := id X11
      obtain ⟨x0, x1, x2, x3, x4, x5_, x6, x7, x8, x9⟩ := id d1
      have hml := @mvN_le (sCur σ) (edP σ e) (sUn σ e) i
      obtain ⟨u9, hu9, eu9⟩ := S.2.2.1 e i
      refine wp_pure k_14 rfl rfl ?_
      refine wp_pure k_14 rfl rfl ?_
      refine wp_get k_14 rfl e02 e12 ?_
      refine wp_iv k_14 rfl [] rfl l12.1 (r := [.int (nI i)]) (Nat.le_of_ble_eq_true rfl) (Nat.le_of_ble_eq_true rfl) rfl ?_
      refine c_size l12 ⟨rfl, ?_⟩
      refine wp_br k_14 rfl rfl rfl rfl (fun z => absurd z (nI_ge hi9 (by omega))) (fun _ => ?_)
      refine wp_pure k_14 rfl rfl ?_
      refine wp_get k_14 rfl x0 x9 ?_
      refine wp_kn k_14 rfl rfl ?_
      refine wp_br k_14 rfl rfl rfl rfl (fun z => absurd z (show ¬ (nI 60 ≤ nI ((mvN (sCur σ) (edP σ e) (sUn σ e) i).1.length)) from (nI_ge (by omega) (by decide)))) (fun _ => ?_)
      refine wp_pure k_14 rfl rfl ?_
      refine wp_get k_14 rfl e02 e12 ?_
      refine wp_pure k_14 rfl rfl ?_
      refine wp_iv k_14 rfl [.int (nI i)] rfl l12.1 (r := []) (Nat.le_of_ble_eq_true rfl) (Nat.le_of_ble_eq_true rfl) rfl ?_
      refine c_get l12 (by omega) ⟨rfl, ?_⟩
      refine wp_cc k_14 rfl (hP2 i (by omega)).1 ?_
      refine wp_pure k_14 rfl rfl ?_
      refine wp_pure k_14 rfl rfl ?_
      refine wp_get k_14 rfl (hP2 i (by omega)).1 ((hP2 i (by omega)).2.1 1 (by decide)) ?_
      refine wp_kn k_14 rfl rfl ?_
      refine wp_br k_14 rfl rfl rfl rfl (fun (z71 : ¬ atP E2.1 1 i = nI 1) => ?_) (fun (z71 : ¬ (¬ atP E2.1 1 i = nI 1)) => ?_)
      · refine wp_inc k_14 rfl rfl rfl ?_
        refine wp_br k_14 rfl rfl rfl rfl (fun _ => ?_) (fun z => absurd trivial z)
        rw [mvN_n (cur := sCur σ) (old := edP σ e) (un := sUn σ e) (fun q => z71 (by rw [qE]; exact q.1))] at ih
        exact ih _ h1 hT1 hU1 hz nW d1 d3
      · refine wp_pure k_14 rfl rfl ?_
        refine wp_get k_14 rfl (hP2 i (by omega)).1 (((hP2 i (by omega)).2.2.2.2).trans (congrArg Value.int eu9)) ?_
        refine wp_br k_14 rfl rfl rfl rfl (fun (z79 : nI u9 ≤ 0) => ?_) (fun (z79 : ¬ (nI u9 ≤ 0)) => ?_)
        · have y79 : u9 ≤ 0 := yLe (by omega) (by omega) (show nI u9 ≤ nI 0 from z79)
          refine wp_inc k_14 rfl rfl rfl ?_
          refine wp_br k_14 rfl rfl rfl rfl (fun _ => ?_) (fun z => absurd trivial z)
          rw [mvN_n (cur := sCur σ) (old := edP σ e) (un := sUn σ e) (fun q => q.2.1 (by rw [eu9, show u9 = 0 by omega]))] at ih
          exact ih _ h1 hT1 hU1 hz nW d1 d3
        · have y79 : 0 < u9 := yNLe (by omega) (by omega) (show ¬ (nI u9 ≤ nI 0) from z79)
          refine wp_pure k_14 rfl rfl ?_
          refine wp_get k_14 rfl x0 x4 ?_
          refine wp_pure k_14 rfl rfl ?_
          refine wp_pure k_14 rfl rfl ?_
          refine wp_iv k_14 rfl [.ref (pa2 i), .ref (ea e)] rfl e0 (r := []) (Nat.le_of_ble_eq_true rfl) (Nat.le_of_ble_eq_true rfl) rfl ?_
          refine c_keeps X11 X21 S.1 hWd2 (i := i) (by omega) (Classical.not_not.mp z71) (fun zk => ⟨rfl, ?_⟩) (fun zk => ⟨rfl, ?_⟩)
          · refine wp_br k_14 rfl rfl rfl rfl (fun _ => ?_) (fun z => absurd (show ¬ (nI 1 : Int32) = 0 by decide) z)
            refine wp_inc k_14 rfl rfl rfl ?_
            refine wp_br k_14 rfl rfl rfl rfl (fun _ => ?_) (fun z => absurd trivial z)
            rw [mvN_n (cur := sCur σ) (old := edP σ e) (un := sUn σ e) (fun q => q.2.2 (by rw [qE] at zk; exact zk))] at ih
            exact ih _ h1 hT1 hU1 hz nW d1 d3
          · refine wp_br k_14 rfl rfl rfl rfl (fun z => absurd z (show ¬ (¬ (nI 0 : Int32) = 0) by decide)) (fun _ => ?_)
            refine wp_pure k_14 rfl rfl ?_
            refine wp_get k_14 rfl x0 x8 ?_
            refine wp_pure k_14 rfl rfl ?_
            refine wp_get k_14 rfl x0 x9 ?_
            refine wp_pure k_14 rfl rfl ?_
            refine wp_iast k_14 rfl d3.1 (by rw [d3.2.1]; exact (show (mvN (sCur σ) (edP σ e) (sUn σ e) i).1.length < 60 by omega)) (by rw [d3.2.1]; omega) ?_
            refine wp_pure k_14 rfl rfl ?_
            refine wp_pure k_14 rfl rfl ?_
            refine wp_get k_14 rfl x0 x9 ?_
            refine wp_kn k_14 rfl rfl ?_
            refine wp_addN k_14 rfl ?_
            refine wp_put k_14 rfl x0 rfl rfl ?_
            refine wp_pure k_14 rfl rfl ?_
            refine wp_pure k_14 rfl rfl ?_
            refine wp_get k_14 rfl (hP2 i (by omega)).1 ((hF_putF_f (by decide)).trans (((hP2 i (by omega)).2.2.2.2).trans (congrArg Value.int eu9))) ?_
            refine wp_iadd k_14 rfl ?_
            refine wp_pure k_14 rfl rfl ?_
            refine wp_inc k_14 rfl rfl rfl ?_
            refine wp_br k_14 rfl rfl rfl rfl (fun _ => ?_) (fun z => absurd trivial z)
            have hmp : mvP (sCur σ) (edP σ e) (sUn σ e) i := ⟨by rw [← qE]; exact Classical.not_not.mp z71, fun q => by rw [eu9] at q; have := (nI_eq (by omega) (by decide)).mp q; omega, by rw [← qE]; exact zk⟩
            rw [mvN_y (cur := sCur σ) (old := edP σ e) (un := sUn σ e) hmp] at ih
            generalize hh2 : putF (putA h1 fnd (mvN (sCur σ) (edP σ e) (sUn σ e) i).1.length (.int (nI i))) 8 x (.int (nI ((mvN (sCur σ) (edP σ e) (sUn σ e) i).1.length + 1))) = h2
            rw [← eu9]
            refine ih _ h2 (by rw [← hh2]; exact hT1) (by rw [← hh2]; exact hU1) (by rw [← hh2]; exact hz) (fun a h1 h2 => by rw [← hh2]; exact (nW a h1 h2).trans ((samA.putA h2).trans (samA.putF h1))) ?_ ?_
            · rw [← hh2, List.length_append]
              exact ⟨x0, (hF_putF_f (by decide)).trans x1, (hF_putF_f (by decide)).trans x2, (hF_putF_f (by decide)).trans x3, (hF_putF_f (by decide)).trans x4, (hF_putF_f (by decide)).trans x5_, (hF_putF_f (by decide)).trans x6, (hF_putF_f (by decide)).trans x7, (hF_putF_f (by decide)).trans x8, hF_putF⟩
            · rw [← hh2]
              refine ⟨d3.1, d3.2.1, fun j y hj => ?_⟩
              by_cases w : j < (mvN (sCur σ) (edP σ e) (sUn σ e) i).1.length
              · rw [List.getElem?_append_left w] at hj
                exact (hA_putA_i (by omega)).trans (d3.2.2 j y hj)
              · have hk := (List.getElem?_eq_some_iff.mp hj).1
                rw [List.length_append] at hk
                have e2 : j = (mvN (sCur σ) (edP σ e) (sUn σ e) i).1.length := by have : j < (mvN (sCur σ) (edP σ e) (sUn σ e) i).1.length + 1 := hk; omega
                rw [e2, List.getElem?_append_right (Nat.le_refl _), Nat.sub_self] at hj
                cases hj
                rw [e2]
                exact hA_putA
    · rw [← hh0]
      exact ⟨x0, (hF_putF_f (by decide)).trans x1, (hF_putF_f (by decide)).trans x2, (hF_putF_f (by decide)).trans x3, (hF_putF_f (by decide)).trans x4, (hF_putF_f (by decide)).trans x5, (hF_putF_f (by decide)).trans x6, (hF_putF_f (by decide)).trans x7, (hF_putF_f (by decide)).trans x8, hF_putF⟩
    · rw [← hh0]
      exact ⟨c3.1, c3.2.1, fun i k hi => by cases hi⟩
  · skip
    refine wp_pure k_14 rfl rfl ?_
    refine wp_pure k_14 rfl rfl ?_
    refine wp_iv k_14 rfl [.int a] rfl x0 (r := []) (Nat.le_of_ble_eq_true rfl) (Nat.le_of_ble_eq_true rfl) rfl ?_
    refine c_edN hCA (fun k9 hk9 e9 => absurd ⟨k9, hk9, e9⟩ q1) (fun _ => ⟨rfl, ?_⟩)
    refine wp_pure k_14 rfl rfl ?_
    refine wp_pure k_14 rfl rfl ?_
    refine wp_br k_14 rfl rfl rfl rfl (fun _ => ?_) (fun z => absurd trivial z)
    exact wp_th k_14 rfl (Kt (fun ⟨e9, h1, f1⟩ => q1 ⟨e9, by omega, f1⟩))
