theorem ed0_O {h1 : sm_H} {a : Nat} {pa : Nat → Nat} (k14 : hC h1 (hZ h1) = 14) (t1 : hT h1 = a + 2) : EdO h1 (inI a (a + 2)) a (a + 1) (hZ h1) pa ([], [], []) :=
  ⟨⟨⟨by omega, by omega⟩, ⟨by omega, by omega⟩⟩, Or.inl k14, fun k hk => absurd hk (Nat.not_lt_zero k), fun i j hi => absurd hi (Nat.not_lt_zero i)⟩
theorem mk_CR {h9 : sm_H} {T : Nat} {P : Nat → Prop} {ef efd : Nat} {ea fa fda pa : Nat → Nat} {bt : Nat → Nat → Nat} (hP : ∀ a, P a → a < T) (ht : hT h9 = T + 12) (zz : hC h9 (hZ h9) = 14 ∧ nI (hL h9 (hZ h9)) = 0) (hPz : P (hZ h9)) (c1 : cX h9 T (T + 1) (T + 2) (T + 3) (T + 6) (T + 7) (T + 9) (T + 11) 0) (c2 : hC h9 (T + 1) = 3 ∧ hL h9 (T + 1) = 3000) (c3 : Lst h9 (T + 11) efd 0 fda) (hefd : efd = hZ h9) (c4 : cP h9 (T + 9) (T + 10) []) (c5 : GoR h9 (T + 6) (T + 3) ([], [], []) 0 0 0) (c6 : cI h9 (T + 7) (T + 8) ef fa []) (hef : ef = hZ h9) (L : Lst h9 (T + 2) (T + 5) 1 ea) (hea : ea 0 = T + 3) (X : EdF h9 (T + 3) (T + 4) (hZ h9) pa bt ([], [], []) (fun _ => nI 0)) (O : EdO h9 (inI (T + 3) (T + 5)) (T + 3) (T + 4) (hZ h9) pa ([], [], [])) : CR h9 T s0 P := by
  have hz := hP _ hPz
  have e0 : ea (sE s0) = T + 3 := hea
  refine ⟨T + 1, T + 2, T + 5, T + 6, T + 7, T + 8, ef, T + 9, T + 10, T + 11, efd, ea, fa, fda, (fun _ => T + 3), (fun _ => T + 5), 0, 0, 0, ?_, ⟨c2.1, c2.2, fun i hi => absurd hi (Nat.not_lt_zero i)⟩, ⟨c3, fun i k hi => by cases hi⟩, c4, ?_, c6, ⟨L, fun e he => ?_⟩, ?_, zz.1, zz.2, hPz, fun a ha => by have := hP a ha; omega⟩
  · rw [e0]; exact c1
  · rw [e0]; exact c5
  · have he : e < 1 := he
    have e0 : e = 0 := by omega
    subst e0
    refine ⟨([], [], []), rfl, fun _ => rfl, by show T + 5 ≤ hT h9; omega, T + 4, hZ h9, pa, bt, ?_, ?_⟩
    · rw [hea]; exact X
    · rw [hea]; exact O
  · refine ⟨fun a ha => ?_, ⟨by omega, by omega, by omega, by omega⟩, Or.inr (fun z => by have := hP _ z; omega), Or.inl (by rw [hef]; exact zz.1), Or.inl (by rw [hefd]; exact zz.1), ⟨fun _ => ⟨by rw [hef]; omega, by rw [hefd]; omega⟩, fun q => by rw [hef, zz.1] at q; cases q⟩, fun i hi => absurd hi (Nat.not_lt_zero i), fun e he a ha => ?_, fun e e' h1 h2 hne => ?_⟩
    · have hr : T ≤ a ∧ a < T + 12 := by rcases ha with z | z | z | z | z | z | z | z | z <;> omega
      exact ⟨by omega, fun z => by have := hP _ z; omega⟩
    · have h1 := ha.1
      have h2 := ha.2
      have h1 : T + 3 ≤ a := h1
      have h2 : a < T + 5 := h2
      refine ⟨fun z => by have := hP _ z; omega, by omega, by omega, by omega, by omega, by omega, by omega, by omega, by rw [hef]; omega, by omega, by omega, by omega, by rw [hefd]; omega, fun i hi => absurd hi (Nat.not_lt_zero i)⟩
    · have h1 : e < 1 := h1
      have h2 : e' < 1 := h2
      omega
theorem c_0 {h : sm_H} {Q : Nat → Option Value → sm_H → Prop} {P : Nat → Prop} (zz : hC h (hZ h) = 14 ∧ nI (hL h (hZ h)) = 0 ∧ hZ h < hT h) (hP : ∀ a, P a → a < hT h) (hPz : P (hZ h)) (K : ∀ h', RdO h h' (hT h) s0 P 18 4200 → hT h' = hT h + 12 → Q 0 none h') : sm_wp 0 0 [.ref (hT h)] [] (newO h 0 8 (fun g => defaultValue (xty 0 (g - 128 * 0)))) Q := by
  obtain ⟨a1, a2, a3, a4, a5, a6⟩ := @newO_t h 0 8 (fun g => defaultValue (xty 0 (g - 128 * 0)))
  generalize newO h 0 8 (fun g => defaultValue (xty 0 (g - 128 * 0))) = g0 at *
  obtain ⟨x, hx⟩ : ∃ x, hT h = x := ⟨_, rfl⟩
  rw [hx] at a1 a4 a5 a6 ⊢
  have hxz : hZ h < x := by omega
  have a6' : ∀ a, a < x → samA h g0 a := fun a ha => a6 a (by omega)
  refine wp_pure k_0 rfl rfl ?_
  refine wp_obj k_0 rfl (Nat.le_of_ble_eq_true rfl) ?_
  refine wp_pure k_0 rfl rfl ?_
  refine wp_kn k_0 rfl rfl ?_
  refine wp_newa k_0 rfl (by decide) (by decide) ?_
  show sm_wp 0 10 [.ref x] [.ref (hT g0), .ref x] (newA g0 3 3000 (.int (nI 0))) Q
  obtain ⟨n11, n12, n13, n14, n15, n16, n17⟩ := @newA_t g0 3 3000 (.int (nI 0))
  generalize newA g0 3 3000 (.int (nI 0)) = y1 at *
  refine wp_put k_0 rfl ((n17 x (by omega)).1.trans a4) rfl rfl ?_
  obtain ⟨c1', v1, q1, s1, r1, t1, u1, e1⟩ := stg (x := x) (fid := 0) (v := (.ref (hT g0))) (show x < hT g0 by omega) (fun a ha => n17 a (by omega))
  generalize putF y1 0 x (.ref (hT g0)) = g1 at *
  have c1 := c1'.trans a4
  have m1 : samA y1 g1 (hT g0) := r1 _ (by omega)
  have e1h : hZ g1 = hZ h := by rw [e1, n13, a3]
  have p1 : ∀ a, a < x → samA h g1 a := fun a ha => (a6' a ha).trans (s1 a (by omega) (by omega))
  have zz1 : hC g1 (hZ g1) = 14 ∧ nI (hL g1 (hZ g1)) = 0 ∧ hZ g1 < hT g1 := by
    have sz := p1 _ hxz
    exact ⟨by rw [e1h]; exact sz.1.trans zz.1, by rw [e1h, sz.2.1]; exact zz.2.1, by omega⟩
  refine wp_pure k_0 rfl rfl ?_
  refine wp_new k_0 rfl rfl ?_
  show sm_wp 0 17 [.ref x] [.ref (hT g1), .ref x] _ Q
  refine wp_pure k_0 rfl rfl ?_
  refine wp_ic k_0 rfl (by decide) [] rfl (r := [.ref (hT g1), .ref x]) (Nat.le_of_ble_eq_true rfl) (Nat.le_of_ble_eq_true rfl) rfl ?_
  have b2 := @newO_t g1 10 3 (fun g => defaultValue (xty 10 (g - 128 * 10)))
  generalize newO g1 10 3 (fun g => defaultValue (xty 10 (g - 128 * 10))) = y2 at *
  have zz2 : hC y2 (hZ y2) = 14 ∧ nI (hL y2 (hZ y2)) = 0 ∧ hZ y2 < hT y2 := by
    have sz := b2.2.2.2.2.2 (hZ g1) (by omega)
    have ez : hZ y2 = hZ g1 := b2.2.2.1
    exact ⟨by rw [ez]; exact sz.1.trans zz1.1, by rw [ez, sz.2.1]; exact zz1.2.1, by omega⟩
  refine c_initL b2.2.2.2.1 ((b2.2.2.2.2.1 _).trans rfl) (by omega) zz2.1 zz2.2.1 zz2.2.2 (fun x2 n2 L2 f2 => ⟨rfl, ?_⟩)
  refine wp_put k_0 rfl ((f2.2.2.2.2.2 _ (by omega) (by omega)).1.trans ((b2.2.2.2.2.2 x (by omega)).1.trans c1)) rfl rfl ?_
  obtain ⟨t2, u2, e2, c2', v2, q2, s2, d2, l2, v2'⟩ := nlS (ed := x) (fid := 2) ⟨b2.1, b2.2.1, b2.2.2.1, b2.2.2.2.2.2⟩ f2 L2 (by omega)
  have m2 : samA x2 (putF x2 2 x (.ref (hT g1))) (hT g1) := samA.putF (by omega)
  generalize putF x2 2 x (.ref (hT g1)) = g2 at *
  have c2 := c2'.trans c1
  have e2h : hZ g2 = hZ h := e2.trans e1h
  have p2 : ∀ a, a < x → samA h g2 a := fun a ha => (p1 a ha).trans (s2 a (by omega) (by omega))
  have zz2' : hC g2 (hZ g2) = 14 ∧ nI (hL g2 (hZ g2)) = 0 ∧ hZ g2 < hT g2 := by
    have sz := p2 _ hxz
    exact ⟨by rw [e2h]; exact sz.1.trans zz.1, by rw [e2h, sz.2.1]; exact zz.2.1, by omega⟩
  clear zz2 L2 f2 b2
  refine wp_pure k_0 rfl rfl ?_
  refine wp_new k_0 rfl rfl ?_
  show sm_wp 0 28 [.ref x] [.ref (hT g2), .ref x] _ Q
  refine wp_pure k_0 rfl rfl ?_
  refine wp_ic k_0 rfl (by decide) [] rfl (r := [.ref (hT g2), .ref x]) (Nat.le_of_ble_eq_true rfl) (Nat.le_of_ble_eq_true rfl) rfl ?_
  refine c_17 zz2' (fun h3 pa bt t3 u3 z3 s3 X3 => ⟨rfl, ?_⟩)
  refine wp_put k_0 rfl ((s3 x (by omega)).1.trans c2) rfl rfl ?_
  have O3 := @ed0_O h3 (hT g2) pa (by rw [z3]; exact (s3 _ zz2'.2.2).1.trans zz2'.1) t3
  have t3' := t3
  have u3' := u3
  have s3' := s3
  clear t3 u3 s3
  obtain ⟨c3', v3, q3, s3, r3, t3, u3, e3⟩ := stg (x := x) (fid := 3) (v := (.ref (hT g2))) (show x < hT g2 by omega) s3'
  generalize putF h3 3 x (.ref (hT g2)) = g3 at *
  have c3 := c3'.trans c2
  have e3h : hZ g3 = hZ h := by rw [e3, z3, e2h]
  have p3 : ∀ a, a < x → samA h g3 a := fun a ha => (p2 a ha).trans (s3 a (by omega) (by omega))
  have zz3 : hC g3 (hZ g3) = 14 ∧ nI (hL g3 (hZ g3)) = 0 ∧ hZ g3 < hT g3 := by
    have sz := p3 _ hxz
    exact ⟨by rw [e3h]; exact sz.1.trans zz.1, by rw [e3h, sz.2.1]; exact zz.2.1, by omega⟩
  have w3 : samA x2 g3 (hT g1) := m2.trans (s3 _ (by omega) (by omega))
  have l3 : Lst g3 (hT g1) (hZ g3) 0 (fun _ => 0) := Lst.mk0 (w3.1.trans d2) ⟨(w3.2.2.1 _).trans l2.1, l2.2.1.imp (fun q hq => (w3.2.2.1 _).trans hq), (w3.2.2.1 _).trans (by rw [l2.2.2, e3h, e1h])⟩ (by omega) zz3 _
  obtain ⟨X3', O3'⟩ := EdFO.same X3 O3 (fun b hb => r3 b (by have := hb.1; omega)) (r3 _ (by omega)) e3 (by omega)
  refine wp_pure k_0 rfl rfl ?_
  refine wp_get k_0 rfl c3 ((q3 _ (by decide)).trans v2) ?_
  refine wp_pure k_0 rfl rfl ?_
  refine wp_get k_0 rfl c3 v3 ?_
  refine wp_iv k_0 rfl [.ref (hT g2)] rfl l3.1 (r := []) (Nat.le_of_ble_eq_true rfl) (Nat.le_of_ble_eq_true rfl) rfl ?_
  refine c_add l3 (by decide) (by rw [X3'.1.1]; decide) (by rw [X3'.1.1]; decide) (by omega) (fun g4 e' L4 w4 f4 => ⟨rfl, ?_⟩)
  have e'e : e' = hT g3 := w4.elim (fun z => by rw [zz3.1] at z; exact absurd z.2 (by decide)) id
  have t4a := f4.1
  have t4b := f4.2.1
  have t4c := L4.2.2.2.2.2.2.1
  have t4 : hT g4 = hT g3 + 1 := by omega
  have u4 := f4.2.2.2.1
  have u4' := f4.2.2.1
  have s4 : ∀ a, a < hT g3 → a ≠ hT g1 → samA g3 g4 a := fun a ha hne => f4.2.2.2.2.2 a ha (fun z => z.elim hne (fun z => by rw [zz3.1] at z; exact absurd z.2 (by decide)))
  have sx4 := s4 x (by omega) (by omega)
  have c4 := sx4.1.trans c3
  have e4h : hZ g4 = hZ h := f4.2.2.2.2.1.trans e3h
  have p4 : ∀ a, a < x → samA h g4 a := fun a ha => (p3 a ha).trans (s4 a (by omega) (by omega))
  refine wp_pure k_0 rfl rfl ?_
  refine wp_pure k_0 rfl rfl ?_
  refine wp_new k_0 rfl rfl ?_
  show sm_wp 0 51 [.ref x] [.ref (hT g4), .ref x] _ Q
  refine wp_pure k_0 rfl rfl ?_
  refine wp_pure k_0 rfl rfl ?_
  refine wp_get k_0 rfl ((if_neg (show x ≠ hT g4 by omega)).trans c4) ((if_neg (show x ≠ hT g4 by omega)).trans ((sx4.2.2.1 _).trans v3)) ?_
  refine wp_ic k_0 rfl (by decide) [.ref (hT g2)] rfl (r := [.ref (hT g4), .ref x]) (Nat.le_of_ble_eq_true rfl) (Nat.le_of_ble_eq_true rfl) rfl ?_
  refine c_27 (fun h5 t5' u5' z5 s5' G5 => ⟨rfl, ?_⟩)
  refine wp_put k_0 rfl ((s5' x (by omega)).1.trans c4) rfl rfl ?_
  obtain ⟨c5', v5, q5, s5, r5, t5, u5, e5⟩ := stg (x := x) (fid := 4) (v := (.ref (hT g4))) (show x < hT g4 by omega) s5'
  generalize putF h5 4 x (.ref (hT g4)) = g5 at *
  have c5 := c5'.trans c4
  have e5h : hZ g5 = hZ h := by rw [e5, z5, e4h]
  have p5 : ∀ a, a < x → samA h g5 a := fun a ha => (p4 a ha).trans (s5 a (by omega) (by omega))
  have zz5 : hC g5 (hZ g5) = 14 ∧ nI (hL g5 (hZ g5)) = 0 ∧ hZ g5 < hT g5 := by
    have sz := p5 _ hxz
    exact ⟨by rw [e5h]; exact sz.1.trans zz.1, by rw [e5h, sz.2.1]; exact zz.2.1, by omega⟩
  refine wp_pure k_0 rfl rfl ?_
  refine wp_new k_0 rfl rfl ?_
  show sm_wp 0 66 [.ref x] [.ref (hT g5), .ref x] _ Q
  refine wp_pure k_0 rfl rfl ?_
  refine wp_ic k_0 rfl (by decide) [] rfl (r := [.ref (hT g5), .ref x]) (Nat.le_of_ble_eq_true rfl) (Nat.le_of_ble_eq_true rfl) rfl ?_
  refine c_39 zz5 (fun h6 fa t6' u6' z6 s6' I6 => ⟨rfl, ?_⟩)
  refine wp_put k_0 rfl ((s6' x (by omega)).1.trans c5) rfl rfl ?_
  obtain ⟨c6', v6, q6, s6, r6, t6, u6, e6⟩ := stg (x := x) (fid := 5) (v := (.ref (hT g5))) (show x < hT g5 by omega) s6'
  generalize putF h6 5 x (.ref (hT g5)) = g6 at *
  have c6 := c6'.trans c5
  have e6h : hZ g6 = hZ h := by rw [e6, z6, e5h]
  refine wp_pure k_0 rfl rfl ?_
  refine wp_new k_0 rfl rfl ?_
  show sm_wp 0 77 [.ref x] [.ref (hT g6), .ref x] _ Q
  refine wp_pure k_0 rfl rfl ?_
  refine wp_ic k_0 rfl (by decide) [] rfl (r := [.ref (hT g6), .ref x]) (Nat.le_of_ble_eq_true rfl) (Nat.le_of_ble_eq_true rfl) rfl ?_
  refine c_51 (fun h7 t7' u7' z7 s7' P7 => ⟨rfl, ?_⟩)
  refine wp_put k_0 rfl ((s7' x (by omega)).1.trans c6) rfl rfl ?_
  obtain ⟨c7', v7, q7, s7, r7, t7, u7, e7⟩ := stg (x := x) (fid := 6) (v := (.ref (hT g6))) (show x < hT g6 by omega) s7'
  generalize putF h7 6 x (.ref (hT g6)) = g7 at *
  have c7 := c7'.trans c6
  have e7h : hZ g7 = hZ h := by rw [e7, z7, e6h]
  have p7 : ∀ a, a < x → samA h g7 a := fun a ha => ((p5 a ha).trans (s6 a (by omega) (by omega))).trans (s7 a (by omega) (by omega))
  have zz7 : hC g7 (hZ g7) = 14 ∧ nI (hL g7 (hZ g7)) = 0 ∧ hZ g7 < hT g7 := by
    have sz := p7 _ hxz
    exact ⟨by rw [e7h]; exact sz.1.trans zz.1, by rw [e7h, sz.2.1]; exact zz.2.1, by omega⟩
  refine wp_pure k_0 rfl rfl ?_
  refine wp_new k_0 rfl rfl ?_
  show sm_wp 0 88 [.ref x] [.ref (hT g7), .ref x] _ Q
  refine wp_pure k_0 rfl rfl ?_
  refine wp_ic k_0 rfl (by decide) [] rfl (r := [.ref (hT g7), .ref x]) (Nat.le_of_ble_eq_true rfl) (Nat.le_of_ble_eq_true rfl) rfl ?_
  have b8 := @newO_t g7 10 3 (fun g => defaultValue (xty 10 (g - 128 * 10)))
  generalize newO g7 10 3 (fun g => defaultValue (xty 10 (g - 128 * 10))) = y8 at *
  have zz8 : hC y8 (hZ y8) = 14 ∧ nI (hL y8 (hZ y8)) = 0 ∧ hZ y8 < hT y8 := by
    have sz := b8.2.2.2.2.2 (hZ g7) (by omega)
    have ez : hZ y8 = hZ g7 := b8.2.2.1
    exact ⟨by rw [ez]; exact sz.1.trans zz7.1, by rw [ez, sz.2.1]; exact zz7.2.1, by omega⟩
  refine c_initL b8.2.2.2.1 ((b8.2.2.2.2.1 _).trans rfl) (by omega) zz8.1 zz8.2.1 zz8.2.2 (fun x8 n8 L8 f8 => ⟨rfl, ?_⟩)
  refine wp_put k_0 rfl ((f8.2.2.2.2.2 _ (by omega) (by omega)).1.trans ((b8.2.2.2.2.2 x (by omega)).1.trans c7)) rfl rfl ?_
  obtain ⟨t8, u8, e8, c8', v8, q8, s8, d8, l8, v8'⟩ := nlS (ed := x) (fid := 7) ⟨b8.1, b8.2.1, b8.2.2.1, b8.2.2.2.2.2⟩ f8 L8 (by omega)
  have m8 : samA x8 (putF x8 7 x (.ref (hT g7))) (hT g7) := samA.putF (by omega)
  generalize putF x8 7 x (.ref (hT g7)) = g8 at *
  have c8 := c8'.trans c7
  have e8h : hZ g8 = hZ h := e8.trans e7h
  clear zz8 L8 f8 b8
  have k0 : hT g0 = x + 1 := a1
  have k1 : hT g1 = x + 2 := by omega
  have k2 : hT g2 = x + 3 := by omega
  have k3 : hT g3 = x + 5 := by omega
  have k4 : hT g4 = x + 6 := by omega
  have k5 : hT g5 = x + 7 := by omega
  have k6 : hT g6 = x + 9 := by omega
  have k7 : hT g7 = x + 11 := by omega
  have k8 : hT g8 = x + 12 := by omega
  have s78 : ∀ a, a < x + 11 → a ≠ x → samA g7 g8 a := fun a ha hne => s8 a (by omega) hne
  have s68 : ∀ a, a < x + 9 → a ≠ x → samA g6 g8 a := fun a ha hne => (s7 a (by omega) hne).trans (s78 a (by omega) hne)
  have s58 : ∀ a, a < x + 7 → a ≠ x → samA g5 g8 a := fun a ha hne => (s6 a (by omega) hne).trans (s68 a (by omega) hne)
  have s48 : ∀ a, a < x + 6 → a ≠ x → samA g4 g8 a := fun a ha hne => (s5 a (by omega) hne).trans (s58 a (by omega) hne)
  have s38 : ∀ a, a < x + 5 → a ≠ x → a ≠ x + 2 → samA g3 g8 a := fun a ha hne h2 => (s4 a (by omega) (by omega)).trans (s48 a (by omega) hne)
  have s18 : ∀ a, a < x + 2 → a ≠ x → samA g1 g8 a := fun a ha hne => ((s2 a (by omega) hne).trans (s3 a (by omega) hne)).trans (s38 a (by omega) hne (by omega))
  have p8 : ∀ a, a < x → samA h g8 a := fun a ha => (p1 a ha).trans (s18 a (by omega) (by omega))
  have F8 : ∀ f, f ≠ 7 → hF g8 f x = hF g7 f x := q8
  have F7 : ∀ f, f ≠ 6 → f ≠ 7 → hF g8 f x = hF g6 f x := fun f h1 h2 => (F8 f h2).trans (q7 f h1)
  have F6 : ∀ f, f ≠ 5 → f ≠ 6 → f ≠ 7 → hF g8 f x = hF g5 f x := fun f h0 h1 h2 => (F7 f h1 h2).trans (q6 f h0)
  have F5 : ∀ f, f ≠ 4 → f ≠ 5 → f ≠ 6 → f ≠ 7 → hF g8 f x = hF g3 f x := fun f h9 h0 h1 h2 => (F6 f h0 h1 h2).trans ((q5 f h9).trans (sx4.2.2.1 f))
  have F3 : ∀ f, f ≠ 3 → f ≠ 4 → f ≠ 5 → f ≠ 6 → f ≠ 7 → hF g8 f x = hF g2 f x := fun f h8 h9 h0 h1 h2 => (F5 f h9 h0 h1 h2).trans (q3 f h8)
  have F2 : ∀ f, f ≠ 2 → f ≠ 3 → f ≠ 4 → f ≠ 5 → f ≠ 6 → f ≠ 7 → hF g8 f x = hF g1 f x := fun f h7 h8 h9 h0 h1 h2 => (F3 f h8 h9 h0 h1 h2).trans (q2 f h7)
  have sz8 := p8 _ hxz
  have zz8 : hC g8 (hZ g8) = 14 ∧ nI (hL g8 (hZ g8)) = 0 := ⟨by rw [e8h]; exact sz8.1.trans zz.1, by rw [e8h, sz8.2.1]; exact zz.2.1⟩
  refine wp_vrt k_0 rfl rfl (K g8 ⟨?_, fun c hc => p8 c (by have := hP c hc; omega), by omega, by omega, by omega, by omega, e8h⟩ (by omega))
  rw [hx] at hP
  rw [k2] at X3' O3'
  have z38 : samA g3 g8 (hZ g3) := s38 _ (by omega) (by omega) (by omega)
  obtain ⟨X8, O8⟩ := EdFO.same X3' O3' (fun b hb => s38 b hb.2 (by have := hb.1; omega) (by have := hb.1; omega)) z38 (by rw [e8h, e3h]) (by omega)
  rw [k4] at G5
  rw [k5] at I6
  rw [k6] at P7
  have L8 : Lst g8 (hT g1) e' 1 (fun i => if i = 0 then hT g2 else (fun _ => 0) i) := L4.same (s48 _ (by omega) (by omega)) (s48 _ (by omega) (by omega)) (fun i hi => by
    have hi0 : i = 0 := by omega
    subst hi0
    exact (s48 _ (by show hT g2 < x + 6; omega) (by show hT g2 ≠ x; omega)).1) (by rw [e8h, e4h]) (by omega)
  rw [k1, e'e, k3] at L8
  have zx : hZ h3 = hZ g8 := by rw [z3, e2h, e8h]
  rw [zx] at X8 O8
  have sG : samA h5 g8 (x + 6) := (r5 _ (by omega)).trans (s58 _ (by omega) (by omega))
  have G8 : GoR g8 (x + 6) (x + 3) ([], [], []) 0 0 0 := go0 ⟨sG.1.trans G5.1, (sG.2.2.1 _).trans (by rw [G5.2.1, k2]), (sG.2.2.1 _).trans G5.2.2.1, (sG.2.2.1 _).trans G5.2.2.2.1, (sG.2.2.1 _).trans G5.2.2.2.2⟩
  have P8 := P7.same ((r7 _ (by omega)).trans (s78 _ (by omega) (by omega))) ((r7 _ (by omega)).trans (s78 _ (by omega) (by omega)))
  have zy : hZ h6 = hZ g8 := by rw [z6, e5h, e8h]
  have s6z : samA h6 g8 (hZ h6) := (r6 _ (by omega)).trans (s68 _ (by omega) (by omega))
  have I8 := I6.same ((r6 _ (by omega)).trans (s68 _ (by omega) (by omega))) ((r6 _ (by omega)).trans (s68 _ (by omega) (by omega))) s6z (fun i hi => absurd hi (Nat.not_lt_zero i)) zy.symm (by omega)
  have M1 : samA y1 g8 (x + 1) := by
    have z := m1
    rw [k0] at z
    exact z.trans (s18 _ (by omega) (by omega))
  have N8 : Lst g8 (hT g7) (hZ g8) 0 (fun _ => 0) := Lst.mk0 (m8.1.trans d8) ⟨(m8.2.2.1 _).trans l8.1, l8.2.1.imp (fun q hq => (m8.2.2.1 _).trans hq), (m8.2.2.1 _).trans (by rw [l8.2.2, e8h, e7h])⟩ (by omega) ⟨zz8.1, zz8.2, by omega⟩ _
  rw [k0] at n14 n15 v1
  rw [k1] at v2
  rw [k2] at v3
  rw [k4] at v5
  rw [k5] at v6
  rw [k6] at v7
  rw [k7] at v8 N8
  rw [hx]
  refine mk_CR hP k8 zz8 (by rw [e8h]; exact hPz) ⟨c8, ?_, ?_, ?_, ?_, ?_, ?_, ?_, v8⟩ ⟨M1.1.trans n14, M1.2.1.trans n15⟩ N8 rfl P8 G8 I8 zy L8 (by show (if (0 : Nat) = 0 then hT g2 else 0) = x + 3; rw [if_pos rfl, k2]) X8 O8
  · exact (F2 _ (by decide) (by decide) (by decide) (by decide) (by decide) (by decide)).trans v1
  · exact (F2 _ (by decide) (by decide) (by decide) (by decide) (by decide) (by decide)).trans ((q1 _ (by decide)).trans ((a5 _).trans rfl))
  · exact (F3 _ (by decide) (by decide) (by decide) (by decide) (by decide)).trans v2
  · exact (F5 _ (by decide) (by decide) (by decide) (by decide)).trans v3
  · exact (F6 _ (by decide) (by decide) (by decide)).trans v5
  · exact (F7 _ (by decide) (by decide)).trans v6
  · exact (F8 _ (by decide)).trans v7
