/-! an edition, a reader are made -/
theorem newO_t {g : sm_H} {ci n : Nat} {dv : Nat → Value} : hT (newO g ci n dv) = hT g + 1 ∧ hU (newO g ci n dv) = hU g + n ∧ hZ (newO g ci n dv) = hZ g ∧ hC (newO g ci n dv) (hT g) = 16 + ci ∧ (∀ f, hF (newO g ci n dv) f (hT g) = dv f) ∧ ∀ a, a ≠ hT g → samA g (newO g ci n dv) a := ⟨rfl, rfl, rfl, if_pos rfl, fun _ => if_pos rfl, fun _ q => samA.newO q⟩
theorem newA_t {g : sm_H} {t n : Nat} {dv : Value} : hT (newA g t n dv) = hT g + 1 ∧ hU (newA g t n dv) = hU g + n ∧ hZ (newA g t n dv) = hZ g ∧ hC (newA g t n dv) (hT g) = t ∧ hL (newA g t n dv) (hT g) = n ∧ (∀ i, hA (newA g t n dv) (hT g) i = dv) ∧ ∀ a, a ≠ hT g → samA g (newA g t n dv) a := ⟨rfl, rfl, rfl, if_pos rfl, if_pos rfl, fun _ => if_pos rfl, fun _ q => samA.newA q⟩
theorem nlS {g gx hx : sm_H} {ed fid : Nat} {fn : Nat → Nat} (ax : hT gx = hT g + 1 ∧ hU gx = hU g + 3 ∧ hZ gx = hZ g ∧ ∀ a, a ≠ hT g → samA g gx a) (f4 : Fr gx hx (fun b => b = hT g) 0 0) (L : Lst hx (hT g) (hZ hx) 0 fn) (hed : ed < hT g) : hT (putF hx fid ed (.ref (hT g))) = hT g + 1 ∧ hU (putF hx fid ed (.ref (hT g))) = hU g + 3 ∧ hZ (putF hx fid ed (.ref (hT g))) = hZ g ∧ hC (putF hx fid ed (.ref (hT g))) ed = hC g ed ∧ hF (putF hx fid ed (.ref (hT g))) fid ed = .ref (hT g) ∧ (∀ f, f ≠ fid → hF (putF hx fid ed (.ref (hT g))) f ed = hF g f ed) ∧ (∀ a, a < hT g → a ≠ ed → samA g (putF hx fid ed (.ref (hT g))) a) ∧ hC hx (hT g) = 26 ∧ (hF hx 1281 (hT g) = .int (nI 0) ∧ (∃ q, hF hx 1282 (hT g) = .int q) ∧ hF hx 1280 (hT g) = .ref (hZ g)) ∧ hZ hx = hZ g := by
  obtain ⟨a1, a2, a3, a4⟩ := ax
  have s : ∀ a, a < hT g → samA g hx a := fun a ha => (a4 a (by omega)).trans (f4.2.2.2.2.2 a (by omega) (by omega))
  have hz : hZ hx = hZ g := f4.2.2.2.2.1.trans a3
  have t1 := f4.1
  have t2 := f4.2.1
  have u1 := f4.2.2.1
  have u2 := f4.2.2.2.1
  exact ⟨hT_putF.trans (by omega), hU_putF.trans (by omega), hZ_putF.trans hz, hC_putF.trans (s ed hed).1, hF_putF, fun f hf => (hF_putF_f hf).trans ((s ed hed).2.2.1 f), fun a ha hae => (s a ha).trans (samA.putF hae), L.1, ⟨L.2.1, L.2.2.1, by have := L.2.2.2.1; rw [hz] at this; exact this⟩, hz⟩
/-- a list that is empty, with the JDK's own array -/
theorem Lst.mk0 {h : sm_H} {a : Nat} (c : hC h a = 26) (f : hF h 1281 a = .int (nI 0) ∧ (∃ q, hF h 1282 a = .int q) ∧ hF h 1280 a = .ref (hZ h)) (ha : a < hT h) (zz : hC h (hZ h) = 14 ∧ nI (hL h (hZ h)) = 0 ∧ hZ h < hT h) (fn : Nat → Nat) : Lst h a (hZ h) 0 fn := ⟨c, f.1, f.2.1, f.2.2, by decide, ha, zz.2.2, Or.inl ⟨rfl, zz.1, zz.2.1, rfl⟩, fun i hi => absurd hi (Nat.not_lt_zero i)⟩
theorem c_17 {h : sm_H} {Q : Nat → Option Value → sm_H → Prop} (zz : hC h (hZ h) = 14 ∧ nI (hL h (hZ h)) = 0 ∧ hZ h < hT h) (K : ∀ h' pa wa va sa, hT h' = hT h + 5 → hU h' = hU h + 16 → hZ h' = hZ h → (∀ a, a < hT h → samA h h' a) → EdF h' (hT h) (hT h + 1) (hT h + 2) (hT h + 3) (hT h + 4) (hZ h') (hZ h') (hZ h') (hZ h') pa wa va sa ([], [], []) (fun _ => nI 0) → Q 0 none h') : sm_wp 17 0 [.ref (hT h)] [] (newO h 1 4 (fun g => defaultValue (xty 1 (g - 128 * 1)))) Q := by
  obtain ⟨a1, a2, a3, a4, a5, a6⟩ := @newO_t h 1 4 (fun g => defaultValue (xty 1 (g - 128 * 1)))
  generalize newO h 1 4 (fun g => defaultValue (xty 1 (g - 128 * 1))) = g0 at *
  refine wp_pure k_17 rfl rfl ?_
  refine wp_obj k_17 rfl (Nat.le_of_ble_eq_true rfl) ?_
  refine wp_pure k_17 rfl rfl ?_
  refine wp_new k_17 rfl rfl ?_
  show sm_wp 17 8 [.ref (hT h)] [.ref (hT g0), .ref (hT h)] _ Q
  refine wp_pure k_17 rfl rfl ?_
  refine wp_ic k_17 rfl (by decide) [] rfl (r := [.ref (hT g0), .ref (hT h)]) (Nat.le_of_ble_eq_true rfl) (Nat.le_of_ble_eq_true rfl) rfl ?_
  have b0 := @newO_t g0 10 3 (fun g => defaultValue (xty 10 (g - 128 * 10)))
  generalize newO g0 10 3 (fun g => defaultValue (xty 10 (g - 128 * 10))) = y0 at *
  have zz0 : hC y0 (hZ y0) = 14 ∧ nI (hL y0 (hZ y0)) = 0 ∧ hZ y0 < hT y0 := by
    have sz : samA h y0 (hZ h) := (a6 (hZ h) (by omega)).trans (b0.2.2.2.2.2 (hZ h) (by omega))
    have ez : hZ y0 = hZ h := b0.2.2.1.trans a3
    exact ⟨by rw [ez]; exact sz.1.trans zz.1, by rw [ez, sz.2.1]; exact zz.2.1, by omega⟩
  refine c_initL b0.2.2.2.1 ((b0.2.2.2.2.1 _).trans rfl) (by omega) zz0.1 zz0.2.1 zz0.2.2 (fun x0 n0 L0 f0 => ⟨rfl, ?_⟩)
  refine wp_put k_17 rfl ((f0.2.2.2.2.2 _ (by omega) (by omega)).1.trans ((b0.2.2.2.2.2 (hT h) (by omega)).1.trans a4)) rfl rfl ?_
  obtain ⟨t1, u1, e1', c1', r1, q1, s1', d1, l1, v1⟩ := nlS (ed := hT h) (fid := 128) ⟨b0.1, b0.2.1, b0.2.2.1, b0.2.2.2.2.2⟩ f0 L0 (by omega)
  generalize hg1 : putF x0 128 (hT h) (.ref (hT g0)) = g1 at *
  have c1 : hC g1 (hT h) = 17 := c1'.trans a4
  have e1 : hZ g1 = hZ h := e1'.trans a3
  have s1 : ∀ a, a < hT h → samA h g1 a := fun a ha => (a6 a (by omega)).trans (s1' a (by omega) (by omega))
  have sl1 : samA x0 g1 (hT g0) := by
    rw [← hg1]
    exact samA.putF (by omega)
  have d1 : hC g1 (hT g0) = 26 ∧ hF g1 1281 (hT g0) = .int (nI 0) ∧ (∃ q, hF g1 1282 (hT g0) = .int q) ∧ hF g1 1280 (hT g0) = .ref (hZ h) := ⟨sl1.1.trans d1, (sl1.2.2.1 _).trans l1.1, l1.2.1.imp (fun q hq => (sl1.2.2.1 _).trans hq), (sl1.2.2.1 _).trans (by rw [l1.2.2, a3])⟩
  clear sl1 hg1 l1 L0 f0 b0
  refine wp_pure k_17 rfl rfl ?_
  refine wp_new k_17 rfl rfl ?_
  show sm_wp 17 19 [.ref (hT h)] [.ref (hT g1), .ref (hT h)] _ Q
  refine wp_pure k_17 rfl rfl ?_
  refine wp_ic k_17 rfl (by decide) [] rfl (r := [.ref (hT g1), .ref (hT h)]) (Nat.le_of_ble_eq_true rfl) (Nat.le_of_ble_eq_true rfl) rfl ?_
  have b1 := @newO_t g1 10 3 (fun g => defaultValue (xty 10 (g - 128 * 10)))
  generalize newO g1 10 3 (fun g => defaultValue (xty 10 (g - 128 * 10))) = y1 at *
  have zz1 : hC y1 (hZ y1) = 14 ∧ nI (hL y1 (hZ y1)) = 0 ∧ hZ y1 < hT y1 := by
    have sz : samA h y1 (hZ h) := (s1 (hZ h) zz.2.2).trans (b1.2.2.2.2.2 (hZ h) (by omega))
    have ez : hZ y1 = hZ h := b1.2.2.1.trans e1
    exact ⟨by rw [ez]; exact sz.1.trans zz.1, by rw [ez, sz.2.1]; exact zz.2.1, by omega⟩
  refine c_initL b1.2.2.2.1 ((b1.2.2.2.2.1 _).trans rfl) (by omega) zz1.1 zz1.2.1 zz1.2.2 (fun x1 n1 L1 f1 => ⟨rfl, ?_⟩)
  refine wp_put k_17 rfl ((f1.2.2.2.2.2 _ (by omega) (by omega)).1.trans ((b1.2.2.2.2.2 (hT h) (by omega)).1.trans c1)) rfl rfl ?_
  obtain ⟨t2, u2, e2', c2', r2, q2, s2', d2, l2, v2⟩ := nlS (ed := hT h) (fid := 129) ⟨b1.1, b1.2.1, b1.2.2.1, b1.2.2.2.2.2⟩ f1 L1 (by omega)
  generalize hg2 : putF x1 129 (hT h) (.ref (hT g1)) = g2 at *
  have c2 : hC g2 (hT h) = 17 := c2'.trans c1
  have e2 : hZ g2 = hZ h := e2'.trans e1
  have s2 : ∀ a, a < hT h → samA h g2 a := fun a ha => (s1 a ha).trans (s2' a (by omega) (by omega))
  have sl2 : samA x1 g2 (hT g1) := by
    rw [← hg2]
    exact samA.putF (by omega)
  have d2 : hC g2 (hT g1) = 26 ∧ hF g2 1281 (hT g1) = .int (nI 0) ∧ (∃ q, hF g2 1282 (hT g1) = .int q) ∧ hF g2 1280 (hT g1) = .ref (hZ h) := ⟨sl2.1.trans d2, (sl2.2.2.1 _).trans l2.1, l2.2.1.imp (fun q hq => (sl2.2.2.1 _).trans hq), (sl2.2.2.1 _).trans (by rw [l2.2.2, e1])⟩
  clear sl2 hg2 l2 L1 f1 b1
  refine wp_pure k_17 rfl rfl ?_
  refine wp_new k_17 rfl rfl ?_
  show sm_wp 17 30 [.ref (hT h)] [.ref (hT g2), .ref (hT h)] _ Q
  refine wp_pure k_17 rfl rfl ?_
  refine wp_ic k_17 rfl (by decide) [] rfl (r := [.ref (hT g2), .ref (hT h)]) (Nat.le_of_ble_eq_true rfl) (Nat.le_of_ble_eq_true rfl) rfl ?_
  have b2 := @newO_t g2 10 3 (fun g => defaultValue (xty 10 (g - 128 * 10)))
  generalize newO g2 10 3 (fun g => defaultValue (xty 10 (g - 128 * 10))) = y2 at *
  have zz2 : hC y2 (hZ y2) = 14 ∧ nI (hL y2 (hZ y2)) = 0 ∧ hZ y2 < hT y2 := by
    have sz : samA h y2 (hZ h) := (s2 (hZ h) zz.2.2).trans (b2.2.2.2.2.2 (hZ h) (by omega))
    have ez : hZ y2 = hZ h := b2.2.2.1.trans e2
    exact ⟨by rw [ez]; exact sz.1.trans zz.1, by rw [ez, sz.2.1]; exact zz.2.1, by omega⟩
  refine c_initL b2.2.2.2.1 ((b2.2.2.2.2.1 _).trans rfl) (by omega) zz2.1 zz2.2.1 zz2.2.2 (fun x2 n2 L2 f2 => ⟨rfl, ?_⟩)
  refine wp_put k_17 rfl ((f2.2.2.2.2.2 _ (by omega) (by omega)).1.trans ((b2.2.2.2.2.2 (hT h) (by omega)).1.trans c2)) rfl rfl ?_
  obtain ⟨t3, u3, e3', c3', r3, q3, s3', d3, l3, v3⟩ := nlS (ed := hT h) (fid := 130) ⟨b2.1, b2.2.1, b2.2.2.1, b2.2.2.2.2.2⟩ f2 L2 (by omega)
  generalize hg3 : putF x2 130 (hT h) (.ref (hT g2)) = g3 at *
  have c3 : hC g3 (hT h) = 17 := c3'.trans c2
  have e3 : hZ g3 = hZ h := e3'.trans e2
  have s3 : ∀ a, a < hT h → samA h g3 a := fun a ha => (s2 a ha).trans (s3' a (by omega) (by omega))
  have sl3 : samA x2 g3 (hT g2) := by
    rw [← hg3]
    exact samA.putF (by omega)
  have d3 : hC g3 (hT g2) = 26 ∧ hF g3 1281 (hT g2) = .int (nI 0) ∧ (∃ q, hF g3 1282 (hT g2) = .int q) ∧ hF g3 1280 (hT g2) = .ref (hZ h) := ⟨sl3.1.trans d3, (sl3.2.2.1 _).trans l3.1, l3.2.1.imp (fun q hq => (sl3.2.2.1 _).trans hq), (sl3.2.2.1 _).trans (by rw [l3.2.2, e2])⟩
  clear sl3 hg3 l3 L2 f2 b2
  refine wp_pure k_17 rfl rfl ?_
  refine wp_new k_17 rfl rfl ?_
  show sm_wp 17 41 [.ref (hT h)] [.ref (hT g3), .ref (hT h)] _ Q
  refine wp_pure k_17 rfl rfl ?_
  refine wp_ic k_17 rfl (by decide) [] rfl (r := [.ref (hT g3), .ref (hT h)]) (Nat.le_of_ble_eq_true rfl) (Nat.le_of_ble_eq_true rfl) rfl ?_
  have b3 := @newO_t g3 10 3 (fun g => defaultValue (xty 10 (g - 128 * 10)))
  generalize newO g3 10 3 (fun g => defaultValue (xty 10 (g - 128 * 10))) = y3 at *
  have zz3 : hC y3 (hZ y3) = 14 ∧ nI (hL y3 (hZ y3)) = 0 ∧ hZ y3 < hT y3 := by
    have sz : samA h y3 (hZ h) := (s3 (hZ h) zz.2.2).trans (b3.2.2.2.2.2 (hZ h) (by omega))
    have ez : hZ y3 = hZ h := b3.2.2.1.trans e3
    exact ⟨by rw [ez]; exact sz.1.trans zz.1, by rw [ez, sz.2.1]; exact zz.2.1, by omega⟩
  refine c_initL b3.2.2.2.1 ((b3.2.2.2.2.1 _).trans rfl) (by omega) zz3.1 zz3.2.1 zz3.2.2 (fun x3 n3 L3 f3 => ⟨rfl, ?_⟩)
  refine wp_put k_17 rfl ((f3.2.2.2.2.2 _ (by omega) (by omega)).1.trans ((b3.2.2.2.2.2 (hT h) (by omega)).1.trans c3)) rfl rfl ?_
  obtain ⟨t4, u4, e4', c4', r4, q4, s4', d4, l4, v4⟩ := nlS (ed := hT h) (fid := 131) ⟨b3.1, b3.2.1, b3.2.2.1, b3.2.2.2.2.2⟩ f3 L3 (by omega)
  generalize hg4 : putF x3 131 (hT h) (.ref (hT g3)) = g4 at *
  have c4 : hC g4 (hT h) = 17 := c4'.trans c3
  have e4 : hZ g4 = hZ h := e4'.trans e3
  have s4 : ∀ a, a < hT h → samA h g4 a := fun a ha => (s3 a ha).trans (s4' a (by omega) (by omega))
  have sl4 : samA x3 g4 (hT g3) := by
    rw [← hg4]
    exact samA.putF (by omega)
  have d4 : hC g4 (hT g3) = 26 ∧ hF g4 1281 (hT g3) = .int (nI 0) ∧ (∃ q, hF g4 1282 (hT g3) = .int q) ∧ hF g4 1280 (hT g3) = .ref (hZ h) := ⟨sl4.1.trans d4, (sl4.2.2.1 _).trans l4.1, l4.2.1.imp (fun q hq => (sl4.2.2.1 _).trans hq), (sl4.2.2.1 _).trans (by rw [l4.2.2, e3])⟩
  clear sl4 hg4 l4 L3 f3 b3
  have zz4 : hC g4 (hZ g4) = 14 ∧ nI (hL g4 (hZ g4)) = 0 ∧ hZ g4 < hT g4 := by
    have sz := s4 (hZ h) zz.2.2
    exact ⟨by rw [e4]; exact sz.1.trans zz.1, by rw [e4, sz.2.1]; exact zz.2.1, by omega⟩
  have w1 : samA g1 g4 (hT g0) := ((s2' (hT g0) (by omega) (by omega)).trans ((s3' (hT g0) (by omega) (by omega)).trans (s4' (hT g0) (by omega) (by omega))))
  have m1 : Lst g4 (hT h + 1) (hZ g4) 0 (fun _ => 0) := by
    have en : hT g0 = hT h + 1 := by omega
    rw [← en]
    exact Lst.mk0 (w1.1.trans d1.1) ⟨(w1.2.2.1 _).trans d1.2.1, d1.2.2.1.imp (fun q hq => (w1.2.2.1 _).trans hq), (w1.2.2.1 _).trans (by rw [d1.2.2.2, e4])⟩ (by omega) zz4 _
  have w2 : samA g2 g4 (hT g1) := ((s3' (hT g1) (by omega) (by omega)).trans (s4' (hT g1) (by omega) (by omega)))
  have m2 : Lst g4 (hT h + 2) (hZ g4) 0 (fun _ => 0) := by
    have en : hT g1 = hT h + 2 := by omega
    rw [← en]
    exact Lst.mk0 (w2.1.trans d2.1) ⟨(w2.2.2.1 _).trans d2.2.1, d2.2.2.1.imp (fun q hq => (w2.2.2.1 _).trans hq), (w2.2.2.1 _).trans (by rw [d2.2.2.2, e4])⟩ (by omega) zz4 _
  have w3 : samA g3 g4 (hT g2) := (s4' (hT g2) (by omega) (by omega))
  have m3 : Lst g4 (hT h + 3) (hZ g4) 0 (fun _ => 0) := by
    have en : hT g2 = hT h + 3 := by omega
    rw [← en]
    exact Lst.mk0 (w3.1.trans d3.1) ⟨(w3.2.2.1 _).trans d3.2.1, d3.2.2.1.imp (fun q hq => (w3.2.2.1 _).trans hq), (w3.2.2.1 _).trans (by rw [d3.2.2.2, e4])⟩ (by omega) zz4 _
  have m4 : Lst g4 (hT h + 4) (hZ g4) 0 (fun _ => 0) := by
    have en : hT g3 = hT h + 4 := by omega
    rw [← en]
    exact Lst.mk0 d4.1 ⟨d4.2.1, d4.2.2.1, by rw [d4.2.2.2, e4]⟩ (by omega) zz4 _
  refine wp_vrt k_17 rfl rfl (K g4 (fun _ => 0) (fun _ => 0) (fun _ => 0) (fun _ => 0) (by omega) (by omega) e4 s4 ⟨⟨c4, ?_, ?_, ?_, ?_⟩, ⟨m1, m2, m3, m4⟩, fun k hk => absurd hk (Nat.not_lt_zero k), fun k hk => absurd hk (Nat.not_lt_zero k), fun k hk => absurd hk (Nat.not_lt_zero k), fun k hk => absurd hk (Nat.not_lt_zero k)⟩)
  · have en : hT g0 = hT h + 1 := by omega
    rw [← en]
    exact (q4 _ (by decide)).trans ((q3 _ (by decide)).trans ((q2 _ (by decide)).trans (r1)))
  · have en : hT g1 = hT h + 2 := by omega
    rw [← en]
    exact (q4 _ (by decide)).trans ((q3 _ (by decide)).trans (r2))
  · have en : hT g2 = hT h + 3 := by omega
    rw [← en]
    exact (q4 _ (by decide)).trans (r3)
  · have en : hT g3 = hT h + 4 := by omega
    rw [← en]
    exact r4
theorem c_58 {h : sm_H} {Q : Nat → Option Value → sm_H → Prop} {sg ed len : Nat} (K : ∀ h', hT h' = hT h + 2 → hU h' = hU h + 10 → hZ h' = hZ h → (∀ a, a < hT h → samA h h' a) → (hC h' (hT h) = 24 ∧ hF h' 1024 (hT h) = .ref sg ∧ hF h' 1025 (hT h) = .int (nI len) ∧ hF h' 1026 (hT h) = .ref ed ∧ hF h' 1027 (hT h) = .ref (hT h + 1) ∧ hF h' 1028 (hT h) = .int (nI 0) ∧ hF h' 1029 (hT h) = .int (-1)) → (hC h' (hT h + 1) = 1 ∧ hL h' (hT h + 1) = 4) → Q 0 none h') : sm_wp 58 0 [.ref (hT h), .ref sg, .int (nI len), .ref ed] [] (newO h 8 6 (fun g => defaultValue (xty 8 (g - 128 * 8)))) Q := by
  obtain ⟨a1, a2, a3, a4, a5, a6⟩ := @newO_t h 8 6 (fun g => defaultValue (xty 8 (g - 128 * 8)))
  generalize newO h 8 6 (fun g => defaultValue (xty 8 (g - 128 * 8))) = g0 at *
  refine wp_pure k_58 rfl rfl ?_
  refine wp_obj k_58 rfl (Nat.le_of_ble_eq_true rfl) ?_
  refine wp_pure k_58 rfl rfl ?_
  refine wp_pure k_58 rfl rfl ?_
  refine wp_put k_58 rfl a4 rfl rfl ?_
  refine wp_pure k_58 rfl rfl ?_
  refine wp_pure k_58 rfl rfl ?_
  refine wp_put k_58 rfl (hC_putF.trans a4) rfl rfl ?_
  refine wp_pure k_58 rfl rfl ?_
  refine wp_pure k_58 rfl rfl ?_
  refine wp_put k_58 rfl (hC_putF.trans (hC_putF.trans a4)) rfl rfl ?_
  refine wp_pure k_58 rfl rfl ?_
  have b : hT (putF (putF (putF g0 1024 (hT h) (.ref sg)) 1025 (hT h) (.int (nI len))) 1026 (hT h) (.ref ed)) = hT h + 1 ∧ hU (putF (putF (putF g0 1024 (hT h) (.ref sg)) 1025 (hT h) (.int (nI len))) 1026 (hT h) (.ref ed)) = hU h + 6 ∧ hZ (putF (putF (putF g0 1024 (hT h) (.ref sg)) 1025 (hT h) (.int (nI len))) 1026 (hT h) (.ref ed)) = hZ h ∧ hC (putF (putF (putF g0 1024 (hT h) (.ref sg)) 1025 (hT h) (.int (nI len))) 1026 (hT h) (.ref ed)) (hT h) = 24 := ⟨a1, a2, a3, a4⟩
  have bf : hF (putF (putF (putF g0 1024 (hT h) (.ref sg)) 1025 (hT h) (.int (nI len))) 1026 (hT h) (.ref ed)) 1024 (hT h) = .ref sg ∧ hF (putF (putF (putF g0 1024 (hT h) (.ref sg)) 1025 (hT h) (.int (nI len))) 1026 (hT h) (.ref ed)) 1025 (hT h) = .int (nI len) ∧ hF (putF (putF (putF g0 1024 (hT h) (.ref sg)) 1025 (hT h) (.int (nI len))) 1026 (hT h) (.ref ed)) 1026 (hT h) = .ref ed ∧ hF (putF (putF (putF g0 1024 (hT h) (.ref sg)) 1025 (hT h) (.int (nI len))) 1026 (hT h) (.ref ed)) 1028 (hT h) = .int (nI 0) := ⟨(hF_putF_f (by decide)).trans ((hF_putF_f (by decide)).trans hF_putF), (hF_putF_f (by decide)).trans hF_putF, hF_putF, (hF_putF_f (by decide)).trans ((hF_putF_f (by decide)).trans ((hF_putF_f (by decide)).trans ((a5 _).trans rfl)))⟩
  have bs : ∀ a, a ≠ hT h → samA h (putF (putF (putF g0 1024 (hT h) (.ref sg)) 1025 (hT h) (.int (nI len))) 1026 (hT h) (.ref ed)) a := fun a q => (a6 a q).trans ((samA.putF q).trans ((samA.putF q).trans (samA.putF q)))
  generalize putF (putF (putF g0 1024 (hT h) (.ref sg)) 1025 (hT h) (.int (nI len))) 1026 (hT h) (.ref ed) = g1 at *
  refine wp_kn k_58 rfl rfl ?_
  refine wp_newa k_58 rfl (by decide) (by decide) ?_
  show sm_wp 58 23 [.ref (hT h), .ref sg, .int (nI len), .ref ed] [.ref (hT g1), .ref (hT h)] (newA g1 1 4 (.int (nI 0))) Q
  obtain ⟨n1, n2, n3, n4, n5, n6, n7⟩ := @newA_t g1 1 4 (.int (nI 0))
  generalize newA g1 1 4 (.int (nI 0)) = g2 at *
  refine wp_put k_58 rfl ((n7 _ (by omega)).1.trans b.2.2.2) rfl rfl ?_
  refine wp_pure k_58 rfl rfl ?_
  refine wp_km k_58 rfl rfl ?_
  refine wp_put k_58 rfl (hC_putF.trans ((n7 _ (by omega)).1.trans b.2.2.2)) rfl rfl ?_
  have sh := n7 (hT h) (by omega)
  have en : hT g1 = hT h + 1 := b.1
  refine wp_vrt k_58 rfl rfl (K _ (show hT g2 = _ by omega) (show hU g2 = _ by omega) (show hZ g2 = _ from n3.trans b.2.2.1) (fun a ha => (bs a (by omega)).trans ((n7 a (by omega)).trans ((samA.putF (by omega)).trans (samA.putF (by omega))))) ⟨sh.1.trans b.2.2.2, ?_, ?_, ?_, ?_, ?_, hF_putF⟩ ?_)
  · exact (hF_putF_f (by decide)).trans ((hF_putF_f (by decide)).trans ((sh.2.2.1 _).trans bf.1))
  · exact (hF_putF_f (by decide)).trans ((hF_putF_f (by decide)).trans ((sh.2.2.1 _).trans bf.2.1))
  · exact (hF_putF_f (by decide)).trans ((hF_putF_f (by decide)).trans ((sh.2.2.1 _).trans bf.2.2.1))
  · rw [← en]; exact (hF_putF_f (by decide)).trans hF_putF
  · exact (hF_putF_f (by decide)).trans ((hF_putF_f (by decide)).trans ((sh.2.2.1 _).trans bf.2.2.2))
  · rw [← en]; exact ⟨n4, n5⟩
