/-! THE CLASS's OBJECT is made -/
theorem stg {g hx : sm_H} {x fid : Nat} {v : Value} (hx0 : x < hT g) (s : ∀ a, a < hT g → samA g hx a) : hC (putF hx fid x v) x = hC g x ∧ hF (putF hx fid x v) fid x = v ∧ (∀ f, f ≠ fid → hF (putF hx fid x v) f x = hF g f x) ∧ (∀ a, a < hT g → a ≠ x → samA g (putF hx fid x v) a) ∧ (∀ a, a ≠ x → samA hx (putF hx fid x v) a) ∧ hT (putF hx fid x v) = hT hx ∧ hU (putF hx fid x v) = hU hx ∧ hZ (putF hx fid x v) = hZ hx :=
  ⟨hC_putF.trans (s x hx0).1, hF_putF, fun f hf => (hF_putF_f hf).trans ((s x hx0).2.2.1 f), fun a ha hax => (s a ha).trans (samA.putF hax), fun a hax => samA.putF hax, hT_putF, hU_putF, hZ_putF⟩
theorem go0 {h : sm_H} {go ed : Nat} (g : hC h go = 19 ∧ hF h 384 go = .ref ed ∧ hF h 385 go = .long (lN 0) ∧ hF h 386 go = .long (lN 0) ∧ hF h 387 go = .long (lN 0)) : GoR h go ed ([], [], []) 0 0 0 := by
  have t0 : ∀ (j : Nat), (0 : Nat).testBit j = true ↔ False := fun j => by rw [Nat.zero_testBit]; exact ⟨fun z => (by cases z), fun z => z.elim⟩
  have noD : ∀ d, ¬ dkE ([], [], []) d := fun d z => by
    obtain ⟨k, hk, _⟩ := z
    exact absurd hk (Nat.not_lt_zero k)
  refine ⟨g, fun d => (t0 d).trans ⟨fun z => z.elim, fun z => noD _ z⟩, fun p => (t0 p).trans ⟨fun z => z.elim, fun z => ?_⟩, fun p => (t0 p).trans ⟨fun z => z.elim, fun z => ?_⟩⟩
  · obtain ⟨d, l, z1, _⟩ := z
    exact noD _ z1
  · obtain ⟨d, l, z1, _⟩ := z
    exact noD _ z1
theorem c_39 {h : sm_H} {Q : Nat → Option Value → sm_H → Prop} (zz : hC h (hZ h) = 14 ∧ nI (hL h (hZ h)) = 0 ∧ hZ h < hT h) (K : ∀ h' fa, hT h' = hT h + 2 → hU h' = hU h + 4 → hZ h' = hZ h → (∀ a, a < hT h → samA h h' a) → cI h' (hT h) (hT h + 1) (hZ h') fa [] → Q 0 none h') : sm_wp 39 0 [.ref (hT h)] [] (newO h 4 1 (fun g => defaultValue (xty 4 (g - 128 * 4)))) Q := by
  obtain ⟨a1, a2, a3, a4, a5, a6⟩ := @newO_t h 4 1 (fun g => defaultValue (xty 4 (g - 128 * 4)))
  generalize newO h 4 1 (fun g => defaultValue (xty 4 (g - 128 * 4))) = g0 at *
  refine wp_pure k_39 rfl rfl ?_
  refine wp_obj k_39 rfl (Nat.le_of_ble_eq_true rfl) ?_
  refine wp_pure k_39 rfl rfl ?_
  refine wp_new k_39 rfl rfl ?_
  show sm_wp 39 8 [.ref (hT h)] [.ref (hT g0), .ref (hT h)] _ Q
  refine wp_pure k_39 rfl rfl ?_
  refine wp_ic k_39 rfl (by decide) [] rfl (r := [.ref (hT g0), .ref (hT h)]) (Nat.le_of_ble_eq_true rfl) (Nat.le_of_ble_eq_true rfl) rfl ?_
  have b0 := @newO_t g0 10 3 (fun g => defaultValue (xty 10 (g - 128 * 10)))
  generalize newO g0 10 3 (fun g => defaultValue (xty 10 (g - 128 * 10))) = y0 at *
  have zz0 : hC y0 (hZ y0) = 14 ∧ nI (hL y0 (hZ y0)) = 0 ∧ hZ y0 < hT y0 := by
    have sz : samA h y0 (hZ h) := (a6 (hZ h) (by omega)).trans (b0.2.2.2.2.2 (hZ h) (by omega))
    have ez : hZ y0 = hZ h := b0.2.2.1.trans a3
    exact ⟨by rw [ez]; exact sz.1.trans zz.1, by rw [ez, sz.2.1]; exact zz.2.1, by omega⟩
  refine c_initL b0.2.2.2.1 ((b0.2.2.2.2.1 _).trans rfl) (by omega) zz0.1 zz0.2.1 zz0.2.2 (fun x0 n0 L0 f0 => ⟨rfl, ?_⟩)
  refine wp_put k_39 rfl ((f0.2.2.2.2.2 _ (by omega) (by omega)).1.trans ((b0.2.2.2.2.2 (hT h) (by omega)).1.trans a4)) rfl rfl ?_
  obtain ⟨t1, u1, e1, c1, r1, q1, s1, d1, l1, v1⟩ := nlS (ed := hT h) (fid := 512) ⟨b0.1, b0.2.1, b0.2.2.1, b0.2.2.2.2.2⟩ f0 L0 (by omega)
  have m1 : samA x0 (putF x0 512 (hT h) (.ref (hT g0))) (hT g0) := samA.putF (by omega)
  generalize putF x0 512 (hT h) (.ref (hT g0)) = g1 at *
  have e2 : hZ g1 = hZ h := e1.trans a3
  have sz : samA h g1 (hZ h) := (a6 _ (by omega)).trans (s1 _ (by omega) (by omega))
  have x0' : hT g0 = hT h + 1 := by omega
  refine wp_vrt k_39 rfl rfl (K g1 (fun _ => 0) (by omega) (by omega) e2 (fun a ha => (a6 a (by omega)).trans (s1 a (by omega) (by omega))) ⟨c1.trans a4, ?_, ?_, fun i f hf => by simp at hf⟩)
  · rw [← x0']; exact r1
  · rw [← x0']
    exact Lst.mk0 (m1.1.trans d1) ⟨(m1.2.2.1 _).trans l1.1, l1.2.1.imp (fun q hq => (m1.2.2.1 _).trans hq), (m1.2.2.1 _).trans (by rw [l1.2.2, e2, a3])⟩ (by omega) ⟨by rw [e2]; exact sz.1.trans zz.1, by rw [e2, sz.2.1]; exact zz.2.1, by omega⟩ _
theorem c_51 {h : sm_H} {Q : Nat → Option Value → sm_H → Prop} (K : ∀ h', hT h' = hT h + 2 → hU h' = hU h + 822 → hZ h' = hZ h → (∀ a, a < hT h → samA h h' a) → cP h' (hT h) (hT h + 1) [] → Q 0 none h') : sm_wp 51 0 [.ref (hT h)] [] (newO h 7 2 (fun g => defaultValue (xty 7 (g - 128 * 7)))) Q := by
  obtain ⟨a1, a2, a3, a4, a5, a6⟩ := @newO_t h 7 2 (fun g => defaultValue (xty 7 (g - 128 * 7)))
  generalize newO h 7 2 (fun g => defaultValue (xty 7 (g - 128 * 7))) = g0 at *
  refine wp_pure k_51 rfl rfl ?_
  refine wp_obj k_51 rfl (Nat.le_of_ble_eq_true rfl) ?_
  refine wp_pure k_51 rfl rfl ?_
  refine wp_kn k_51 rfl rfl ?_
  refine wp_newa k_51 rfl (by decide) (by decide) ?_
  show sm_wp 51 10 [.ref (hT h)] [.ref (hT g0), .ref (hT h)] (newA g0 3 820 (.int (nI 0))) Q
  obtain ⟨n1, n2, n3, n4, n5, n6, n7⟩ := @newA_t g0 3 820 (.int (nI 0))
  generalize newA g0 3 820 (.int (nI 0)) = y1 at *
  refine wp_put k_51 rfl ((n7 (hT h) (by omega)).1.trans a4) rfl rfl ?_
  obtain ⟨c1, v1, q1, s1, r1, t1, u1, e1⟩ := stg (x := hT h) (fid := 896) (v := .ref (hT g0)) (show hT h < hT g0 by omega) (fun a ha => n7 a (by omega))
  generalize putF y1 896 (hT h) (.ref (hT g0)) = g1 at *
  have m1 : samA y1 g1 (hT g0) := r1 _ (by omega)
  have x0' : hT g0 = hT h + 1 := by omega
  refine wp_vrt k_51 rfl rfl (K g1 (by omega) (by omega) (by rw [e1, n3, a3]) (fun a ha => (a6 a (by omega)).trans (s1 a (by omega) (by omega))) ⟨c1.trans a4, ?_, (q1 _ (by decide)).trans ((a5 _).trans rfl), ?_, ?_, fun i c hc => by simp at hc⟩)
  · rw [← x0']; exact v1
  · rw [← x0']; exact m1.1.trans n4
  · rw [← x0']; exact m1.2.1.trans n5
