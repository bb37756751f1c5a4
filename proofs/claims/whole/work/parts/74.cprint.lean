theorem plC_eq {E : Ed} (hWd : EdW E) (j : Nat) : pit (kcv E.1 3 (j % 41) (j / 41)) (nI 68) (pit (kcv E.1 4 (j % 41) (j / 41)) (nI 83) (pit (kcv E.1 5 (j % 41) (j / 41)) (nI 67) (pit (scv E.1 (j % 41) (j / 41)) (nI 69) (pit (kcv E.1 2 (j % 41) (j / 41)) (nI 43) (pit (kcv E.1 1 (j % 41) (j / 41)) (nI 98) (pit (kcv E.1 0 (j % 41) (j / 41)) (nI 35) (c0P j))))))) = plC E.1 j := by
  unfold plC c0P
  by_cases q : j % 41 = 40
  · have nc : ∀ k, k < E.1.length → ¬ covE E.1 k (j % 41) (j / 41) := fun k hk c => by
      obtain ⟨kd9, x9, y9, w9, h9, lv9, a1, a2, a3, a4, a5, a6, a7, a8, a9, b1, b2, b3, _⟩ := hWd.pl hk
      have c2 := c.2.1
      rw [a4, a6, nI_add] at c2
      have := (nI_ltI (by omega) (by omega)).mp c2
      omega
    have nk : ∀ kd, ¬ kcv E.1 kd (j % 41) (j / 41) := fun kd ⟨k, q1, _, q3⟩ => nc k q1 q3
    have ns : ¬ scv E.1 (j % 41) (j / 41) := fun ⟨k, s, q1, q2, q3, q4⟩ => by
      obtain ⟨i, r1, r2⟩ := s_ex q3
      obtain ⟨_, hb⟩ := hWd.st6 q1 r1
      rw [r2] at hb
      exact nc s hb q4
    rw [pit_n (nk 3), pit_n (nk 4), pit_n (nk 5), pit_n ns, pit_n (nk 2), pit_n (nk 1), pit_n (nk 0)]
    rw [if_pos q, if_pos q]
  · rw [if_neg q, if_neg q]
    rfl
theorem c_layOut {h : sm_H} {Q : Nat → Option Value → sm_H → Prop} {lo hi ed lp ep : Nat} {pa : Nat → Nat} {bt : Nat → Nat → Nat} {E : Ed} {un : Nat → Int32} (X : EdF h ed lp ep pa bt E un) (O : EdO h (inI lo hi) ed lp ep pa E) (hWd : EdW E) (hn : E.1.length ≤ 60) {pl pls : Nat} (hpl : ∀ a, inI lo hi a → a ≠ pl ∧ a ≠ pls) (hz1 : hZ h ≠ pl) (hz2 : hZ h ≠ pls) (h1 : hC h pl = 23) (h2 : hF h 896 pl = .ref pls) (h3 : hC h pls = 3) (h4 : hL h pls = 820) (K : ∀ h', PLW h h' pl pls (41 * rowE E.1) (plC E.1) → Q 0 none h') : sm_wp 52 0 [.ref pl, .ref ed] [] h Q := by
  have hr : rowE E.1 ≤ 20 := rowN_le hWd _ (Nat.le_refl _)
  refine wp_pure k_52 rfl rfl ?_
  refine wp_pure k_52 rfl rfl ?_
  refine wp_is k_52 rfl (by decide) [.ref ed] rfl (r := [.ref pl]) (Nat.le_of_ble_eq_true rfl) (Nat.le_of_ble_eq_true rfl) rfl ?_
  refine c_rows X hWd hn ⟨rfl, ?_⟩
  refine wp_iv k_52 rfl [.int (nI (rowE E.1))] rfl h1 (r := []) (Nat.le_of_ble_eq_true rfl) (Nat.le_of_ble_eq_true rfl) rfl ?_
  refine c_empty hr h1 h2 h3 h4 (fun h5 w5 => ⟨rfl, ?_⟩)
  refine wp_pure k_52 rfl rfl ?_
  refine wp_pure k_52 rfl rfl ?_
  refine wp_kn k_52 rfl rfl ?_
  refine wp_kn k_52 rfl rfl ?_
  refine wp_iv k_52 rfl [.ref ed, .int (nI 0), .int (nI 35)] rfl w5.2.2.2.2.1 (r := []) (Nat.le_of_ble_eq_true rfl) (Nat.le_of_ble_eq_true rfl) rfl ?_
  refine c_kind X O hWd hn hpl hz1 hz2 w5 (by decide) (by omega) (fun h6 w6 => ⟨rfl, ?_⟩)
  refine wp_pure k_52 rfl rfl ?_
  refine wp_pure k_52 rfl rfl ?_
  refine wp_kn k_52 rfl rfl ?_
  refine wp_kn k_52 rfl rfl ?_
  refine wp_iv k_52 rfl [.ref ed, .int (nI 1), .int (nI 98)] rfl w6.2.2.2.2.1 (r := []) (Nat.le_of_ble_eq_true rfl) (Nat.le_of_ble_eq_true rfl) rfl ?_
  refine c_kind X O hWd hn hpl hz1 hz2 w6 (by decide) (by omega) (fun h7 w7 => ⟨rfl, ?_⟩)
  refine wp_pure k_52 rfl rfl ?_
  refine wp_pure k_52 rfl rfl ?_
  refine wp_kn k_52 rfl rfl ?_
  refine wp_kn k_52 rfl rfl ?_
  refine wp_iv k_52 rfl [.ref ed, .int (nI 2), .int (nI 43)] rfl w7.2.2.2.2.1 (r := []) (Nat.le_of_ble_eq_true rfl) (Nat.le_of_ble_eq_true rfl) rfl ?_
  refine c_kind X O hWd hn hpl hz1 hz2 w7 (by decide) (by omega) (fun h8 w8 => ⟨rfl, ?_⟩)
  refine wp_pure k_52 rfl rfl ?_
  refine wp_pure k_52 rfl rfl ?_
  refine wp_iv k_52 rfl [.ref ed] rfl w8.2.2.2.2.1 (r := []) (Nat.le_of_ble_eq_true rfl) (Nat.le_of_ble_eq_true rfl) rfl ?_
  refine c_stops X O hWd hn hpl hz1 hz2 w8 (by omega) (fun h9 w9 => ⟨rfl, ?_⟩)
  refine wp_pure k_52 rfl rfl ?_
  refine wp_pure k_52 rfl rfl ?_
  refine wp_kn k_52 rfl rfl ?_
  refine wp_kn k_52 rfl rfl ?_
  refine wp_iv k_52 rfl [.ref ed, .int (nI 5), .int (nI 67)] rfl w9.2.2.2.2.1 (r := []) (Nat.le_of_ble_eq_true rfl) (Nat.le_of_ble_eq_true rfl) rfl ?_
  refine c_kind X O hWd hn hpl hz1 hz2 w9 (by decide) (by omega) (fun h10 w10 => ⟨rfl, ?_⟩)
  refine wp_pure k_52 rfl rfl ?_
  refine wp_pure k_52 rfl rfl ?_
  refine wp_kn k_52 rfl rfl ?_
  refine wp_kn k_52 rfl rfl ?_
  refine wp_iv k_52 rfl [.ref ed, .int (nI 4), .int (nI 83)] rfl w10.2.2.2.2.1 (r := []) (Nat.le_of_ble_eq_true rfl) (Nat.le_of_ble_eq_true rfl) rfl ?_
  refine c_kind X O hWd hn hpl hz1 hz2 w10 (by decide) (by omega) (fun h11 w11 => ⟨rfl, ?_⟩)
  refine wp_pure k_52 rfl rfl ?_
  refine wp_pure k_52 rfl rfl ?_
  refine wp_kn k_52 rfl rfl ?_
  refine wp_kn k_52 rfl rfl ?_
  refine wp_iv k_52 rfl [.ref ed, .int (nI 3), .int (nI 68)] rfl w11.2.2.2.2.1 (r := []) (Nat.le_of_ble_eq_true rfl) (Nat.le_of_ble_eq_true rfl) rfl ?_
  refine c_kind X O hWd hn hpl hz1 hz2 w11 (by decide) (by omega) (fun h12 w12 => ⟨rfl, ?_⟩)
  exact wp_vrt k_52 rfl rfl (K _ (w12.eq (fun j _ => plC_eq hWd j)))
theorem c_print {h : sm_H} {Q : Nat → Option Value → sm_H → Prop} {x : Nat} {σ : Sg} {P : Nat → Prop} (C : CR h x σ P) (S : SI σ) (K1 : ∀ h', CR h' x (prS σ (plnE (sCur σ))) P → (∀ a, P a → samA h h' a) → hT h' = hT h → hU h' = hU h → hZ h' = hZ h → Q 0 (some (.int (nI (plnE (sCur σ)).length))) h') : sm_wp 3 0 [.ref x] [] h Q := by
  obtain ⟨sg, eds, ee, go, ins, lf, ef, pl, pls, fnd, efd, ea, fa, fda, lo, hi, dk, rc, ex, c1, c2, c3, c4, c5, c6, c7, c8, c9⟩ := id C
  have keE := c7.1.ke
  have keF := c6.2.2.1.ke
  have keD := c3.1.ke
  obtain ⟨x0, x1, x2, x3, x4, x5, x6, x7, x8⟩ := id c1
  have hlen := S.2.2.2.1
  have hsl : sE σ < (sEd σ).length := by unfold sE; omega
  obtain ⟨E9, _, hE9, _, lp, ep, pa, bt, X, O⟩ := c7.2 (sE σ) hsl
  have hE9 := hE9 rfl
  subst hE9
  have n6 : (cE σ).1.length ≤ 60 := S.2.2.2.2.2.1
  have hr : rowE (cE σ).1 ≤ 20 := rowN_le S.1 _ (Nat.le_refl _)
  have hpl : ∀ a, inI (lo (sE σ)) (hi (sE σ)) a → a ≠ pl ∧ a ≠ pls := fun a ha => by
    have z := c8.2.2.2.2.2.2.2.1 (sE σ) hsl a ha
    exact ⟨z.2.2.2.2.2.2.2.2.2.1, z.2.2.2.2.2.2.2.2.2.2.1⟩
  have hz1 : hZ h ≠ pl := fun q => (c8.1 pl (by simp)).2 (by rw [← q]; exact c9.2.2.1)
  have hz2 : hZ h ≠ pls := fun q => (c8.1 pls (by simp)).2 (by rw [← q]; exact c9.2.2.1)
  have hx1 : x ≠ pl := kne x0 c4.1 (by decide)
  have hx2 : x ≠ pls := kne x0 c4.2.2.2.1 (by decide)
  refine wp_pure k_3 rfl rfl ?_
  refine wp_get k_3 rfl x0 x7 ?_
  refine wp_pure k_3 rfl rfl ?_
  refine wp_get k_3 rfl x0 x4 ?_
  refine wp_iv k_3 rfl [.ref (ea (sE σ))] rfl c4.1 (r := []) (Nat.le_of_ble_eq_true rfl) (Nat.le_of_ble_eq_true rfl) rfl ?_
  refine c_layOut X O S.1 n6 hpl hz1 hz2 c4.1 c4.2.1 c4.2.2.2.1 c4.2.2.2.2.1 (fun h7 w7 => ⟨rfl, ?_⟩)
  refine wp_pure k_3 rfl rfl ?_
  refine wp_get k_3 rfl ((w7.2.2.2.1 x hx1 hx2).1.trans x0) ((w7.2.2.2.1 x hx1 hx2).2.2.1 _ |>.trans x7) ?_
  refine wp_get k_3 rfl w7.2.2.2.2.1 w7.2.2.2.2.2.2.1 ?_
  obtain ⟨hT1, hU1, hz, nW0, d1, d2, d3, d4, d5, d6⟩ := w7
  have ht : hT h ≤ hT h7 := by omega
  have nW := fun a (_ : a < hT h) => nW0 a
  have el : (plnE (sCur σ)).length = 41 * rowE (cE σ).1 := plnE_len _
  refine wp_irt k_3 rfl rfl rfl ?_
  rw [← el]
  refine K1 h7 ⟨sg, eds, ee, go, ins, lf, ef, pl, pls, fnd, efd, ea, fa, fda, lo, hi, dk, rc, ex, (c1.same (nW x (c8.1 _ (by simp)).1 (kne x0 c4.1 (by decide)) (kne x0 c4.2.2.2.1 (by decide)))), (c2.same (nW sg (c8.1 _ (by simp)).1 (kne c2.1 c4.1 (by decide)) c8.2.1.1)), (c3.same (nW fnd (c8.1 _ (by simp)).1 (kne c3.1.1 c4.1 (by decide)) (kne c3.1.1 c4.2.2.2.1 (by decide))) (nW efd c3.1.2.2.2.2.2.2.1 (kne2 keD c4.1 (by decide) (by decide)) (kne2 keD c4.2.2.2.1 (by decide) (by decide))) (fun i hi => ⟨(nW _ (c3.1.2.2.2.2.2.2.2.2 i hi).2.2.2 (kne (c3.k hi) c4.1 (by decide)) (kne (c3.k hi) c4.2.2.2.1 (by decide))).1, (nW _ (c3.1.2.2.2.2.2.2.2.2 i hi).2.2.2 (kne (c3.k hi) c4.1 (by decide)) (kne (c3.k hi) c4.2.2.2.1 (by decide))).2.2.1 _⟩) hz ht), ⟨d1, d2, by show _ = Value.int (nI (plnE (sCur σ)).length); rw [el]; exact d3, d4, d5, fun i c hc => ?_⟩, (c5.same (nW go (c8.1 _ (by simp)).1 (kne c5.1.1 c4.1 (by decide)) (kne c5.1.1 c4.2.2.2.1 (by decide)))), (c6.same (nW ins (c8.1 _ (by simp)).1 (kne c6.1 c4.1 (by decide)) (kne c6.1 c4.2.2.2.1 (by decide))) (nW lf (c8.1 _ (by simp)).1 (kne c6.2.2.1.1 c4.1 (by decide)) (kne c6.2.2.1.1 c4.2.2.2.1 (by decide))) (nW ef c6.2.2.1.2.2.2.2.2.2.1 (kne2 keF c4.1 (by decide) (by decide)) (kne2 keF c4.2.2.2.1 (by decide) (by decide))) (fun i hi => (nW _ (c6.2.2.1.2.2.2.2.2.2.2.2 i hi).2.2.2 (kne (c6.2.2.2 i _ (List.getElem?_eq_getElem hi)).1 c4.1 (by decide)) (kne (c6.2.2.2 i _ (List.getElem?_eq_getElem hi)).1 c4.2.2.2.1 (by decide)))) hz ht), (c7.same (nW eds (c8.1 _ (by simp)).1 (kne c7.1.1 c4.1 (by decide)) (kne c7.1.1 c4.2.2.2.1 (by decide))) (nW ee c7.1.2.2.2.2.2.2.1 (kne2 keE c4.1 (by decide) (by decide)) (kne2 keE c4.2.2.2.1 (by decide) (by decide))) (fun e he a ha => by
    have z := c8.2.2.2.2.2.2.2.1 e he a ha
    obtain ⟨E', _, _, r⟩ := c7.2 e he
    exact nW a (by have := r.1; have := ha.2; omega) (z.2.2.2.2.2.2.2.2.2.1) (z.2.2.2.2.2.2.2.2.2.2.1)) (nW _ (c9.2.2.2 _ c9.2.2.1) (fun q => (c8.1 pl (by simp)).2 (by rw [← q]; exact c9.2.2.1)) (fun q => (c8.1 pls (by simp)).2 (by rw [← q]; exact c9.2.2.1))) hz ht), (c8.same ht (nW ee c7.1.2.2.2.2.2.2.1 (kne2 keE c4.1 (by decide) (by decide)) (kne2 keE c4.2.2.2.1 (by decide) (by decide))).1 (nW ef c6.2.2.1.2.2.2.2.2.2.1 (kne2 keF c4.1 (by decide) (by decide)) (kne2 keF c4.2.2.2.1 (by decide) (by decide))).1 (nW efd c3.1.2.2.2.2.2.2.1 (kne2 keD c4.1 (by decide) (by decide)) (kne2 keD c4.2.2.2.1 (by decide) (by decide))).1), (c9.same (nW _ (c9.2.2.2 _ c9.2.2.1) (fun q => (c8.1 pl (by simp)).2 (by rw [← q]; exact c9.2.2.1)) (fun q => (c8.1 pls (by simp)).2 (by rw [← q]; exact c9.2.2.1))) hz ht)⟩ (fun a ha => nW a (c9.2.2.2 a ha) (fun q => (c8.1 pl (by simp)).2 (by rw [← q]; exact ha)) (fun q => (c8.1 pls (by simp)).2 (by rw [← q]; exact ha))) hT1 hU1 hz
  obtain ⟨q1, q2⟩ := plnE_get hc
  rw [q2]
  exact d6 i q1
