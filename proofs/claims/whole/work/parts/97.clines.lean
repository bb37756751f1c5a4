/-! the class reads a text, line by line -/
theorem sw59 {kv : Int32} {r : List Value} (n82 : ¬ kv = nI 82) (n66 : ¬ kv = nI 66) (n80 : ¬ kv = nI 80) (n68 : ¬ kv = nI 68) (n83 : ¬ kv = nI 83) (n67 : ¬ kv = nI 67) (n69 : ¬ kv = nI 69) (n87 : ¬ kv = nI 87) (n65 : ¬ kv = nI 65) : sm_sw (.tableswitch 174 65 87 #[167, 115, 152, 136, 160, 174, 174, 174, 174, 174, 174, 174, 174, 174, 174, 122, 174, 108, 144, 174, 174, 174, 129]) 44 (.int kv :: r) = some (218, r) := by
  by_cases q : ∃ w, 65 ≤ w ∧ w ≤ 87 ∧ kv = nI w
  · obtain ⟨w, h1, h2, rfl⟩ := q
    have hs : w = 65 ∨ w = 66 ∨ w = 67 ∨ w = 68 ∨ w = 69 ∨ w = 70 ∨ w = 71 ∨ w = 72 ∨ w = 73 ∨ w = 74 ∨ w = 75 ∨ w = 76 ∨ w = 77 ∨ w = 78 ∨ w = 79 ∨ w = 80 ∨ w = 81 ∨ w = 82 ∨ w = 83 ∨ w = 84 ∨ w = 85 ∨ w = 86 ∨ w = 87 := by omega
    rcases hs with rfl | rfl | rfl | rfl | rfl | rfl | rfl | rfl | rfl | rfl | rfl | rfl | rfl | rfl | rfl | rfl | rfl | rfl | rfl | rfl | rfl | rfl | rfl
    · exact absurd rfl n65
    · exact absurd rfl n66
    · exact absurd rfl n67
    · exact absurd rfl n68
    · exact absurd rfl n69
    · rfl
    · rfl
    · rfl
    · rfl
    · rfl
    · rfl
    · rfl
    · rfl
    · rfl
    · rfl
    · exact absurd rfl n80
    · rfl
    · exact absurd rfl n82
    · exact absurd rfl n83
    · rfl
    · rfl
    · rfl
    · exact absurd rfl n87
  · have hsw : kv.toInt < 65 ∨ 87 < kv.toInt := by
      by_cases z : kv < 0
      · have := Int32.lt_iff_toInt_lt.mp z
        have e0 : (0 : Int32).toInt = 0 := by decide
        omega
      · obtain ⟨j, hj, rfl⟩ := nI_of z
        rw [toI_nI hj]
        by_cases z1 : j < 65
        · omega
        · have : ¬ j ≤ 87 := fun q' => q ⟨j, by omega, q', rfl⟩
          omega
    exact if_pos hsw
theorem c_linesE {h0 h : sm_H} {Q : Nat → Option Value → sm_H → Prop} {r sg sp ed len : Nat} {tx : Nat → Int32} {E : Ed} {s : Nat × Int32} {dT dU i q : Nat} {x2 : Value} (R : RS h0 h r sg sp ed len tx E s dT dU) (e : s.2 = nI q) (hq : q ≤ len) (hi : i < 3000) (K : Q 0 (some (.int (nI q))) h) : sm_wp 59 2 [.ref r, .int (nI i), x2] [] h Q := by
  obtain ⟨B, w, f, ⟨r1, r2, r3, r4, r5⟩, ⟨z1, z2⟩, esp, sn, sf, lp, ep, pa, bt, SL, X, O⟩ := id R
  have hD : ∀ a, dR h0 h r sp esp a → a ≠ r := fun a ha => ha.2.2.1
  have hDT : ∀ a, dR h0 h r sp esp a → a < hT h := fun a ha => ha.2.1
  have hT0 := f.1
  have hzr : hZ h ≠ r := by have := f.2.2.2.2.1; omega
  have hB := B.2.2.2.2.2.2.2.2.2.2
  have hsl := w.2.2.2.2.2.2.2.2
  obtain ⟨s1, s2⟩ := s
  dsimp only at e hsl
  subst e
  refine wp_pure k_59 rfl rfl ?_
  refine wp_kn k_59 rfl rfl ?_
  refine wp_br k_59 rfl rfl rfl rfl (fun z => absurd z (nI_ge hi (by omega))) (fun _ => ?_)
  refine wp_pure k_59 rfl rfl ?_
  refine wp_get k_59 rfl w.2.2.2.2.1 w.2.2.2.2.2.2.1 ?_
  refine wp_pure k_59 rfl rfl ?_
  refine wp_get k_59 rfl w.2.2.2.2.1 ((w.2.2.2.2.2.1 1025 (by decide) (by decide)).trans B.2.2.1) ?_
  refine wp_br k_59 rfl rfl rfl rfl (fun (z17 : nI len ≤ nI s1) => ?_) (fun (z17 : ¬ (nI len ≤ nI s1)) => ?_)
  · have y17 : len ≤ s1 := yLe (by omega) (by omega) z17
    refine wp_pure k_59 rfl rfl ?_
    refine wp_get k_59 rfl w.2.2.2.2.1 w.2.2.2.2.2.2.2.1 ?_
    exact wp_irt k_59 rfl rfl rfl K
  · have y17 : s1 < len := yNLe (by omega) (by omega) z17
    refine wp_pure k_59 rfl rfl ?_
    refine wp_get k_59 rfl w.2.2.2.2.1 w.2.2.2.2.2.2.2.1 ?_
    refine wp_km k_59 rfl rfl ?_
    refine wp_br k_59 rfl rfl rfl rfl (fun _ => ?_) (fun z => absurd (nI_nm1 (by omega)) z)
    refine wp_pure k_59 rfl rfl ?_
    refine wp_get k_59 rfl w.2.2.2.2.1 w.2.2.2.2.2.2.2.1 ?_
    exact wp_irt k_59 rfl rfl rfl K
theorem c_linesL {h0 : sm_H} {Q : Nat → Option Value → sm_H → Prop} {r sg sp ed len : Nat} {tx : Nat → Int32} {a0 b0 : Nat} (hl : len ≤ 600) : ∀ (fu i p : Nat) (E : Ed) (h : sm_H) (x2 : Value), RS h0 h r sg sp ed len tx E (p, -1) (a0 + 10 * i) (b0 + 6000 * i) → EdW E → E.1.length + E.2.1.length + E.2.2.length = i → i * 5 ≤ p → p ≤ len → len ≤ p + fu → (∀ E' h' p' j, textM tx len fu E p = .ok E' → EdW E' → RS h0 h' r sg sp ed len tx E' (p', -1) (a0 + 10 * j) (b0 + 6000 * j) → E'.1.length + E'.2.1.length + E'.2.2.length = j → j * 5 ≤ len → Q 0 (some (.int (-1))) h') → (∀ q E' h' s' j, textM tx len fu E p = .error q → q ≤ len → RS h0 h' r sg sp ed len tx E' s' (a0 + 10 * j) (b0 + 6000 * j) → j * 5 ≤ len + 5 → Q 0 (some (.int (nI q))) h') → sm_wp 59 2 [.ref r, .int (nI i), x2] [] h Q := by
  intro fu
  induction fu with
  | zero =>
    intro i p E h x2 R hWd hi h5 hpl hf K1 K0
    obtain ⟨B, w, f, ⟨r1, r2, r3, r4, r5⟩, ⟨z1, z2⟩, esp, sn, sf, lp, ep, pa, bt, SL, X, O⟩ := id R
    have hD : ∀ a, dR h0 h r sp esp a → a ≠ r := fun a ha => ha.2.2.1
    have hDT : ∀ a, dR h0 h r sp esp a → a < hT h := fun a ha => ha.2.1
    have hT0 := f.1
    have hzr : hZ h ≠ r := by have := f.2.2.2.2.1; omega
    have hB := B.2.2.2.2.2.2.2.2.2.2
    have hsl := w.2.2.2.2.2.2.2.2
    have hpe : p = len := by omega
    subst hpe
    refine wp_pure k_59 rfl rfl ?_
    refine wp_kn k_59 rfl rfl ?_
    refine wp_br k_59 rfl rfl rfl rfl (fun z => absurd z (nI_ge (show i < 3000 by omega) (by omega))) (fun _ => ?_)
    refine wp_pure k_59 rfl rfl ?_
    refine wp_get k_59 rfl w.2.2.2.2.1 w.2.2.2.2.2.2.1 ?_
    refine wp_pure k_59 rfl rfl ?_
    refine wp_get k_59 rfl w.2.2.2.2.1 ((w.2.2.2.2.2.1 1025 (by decide) (by decide)).trans B.2.2.1) ?_
    refine wp_br k_59 rfl rfl rfl rfl (fun _ => ?_) (fun z => absurd (Int32.le_refl _) z)
    refine wp_pure k_59 rfl rfl ?_
    refine wp_get k_59 rfl w.2.2.2.2.1 w.2.2.2.2.2.2.2.1 ?_
    exact wp_irt k_59 rfl rfl rfl (K1 E h p i rfl hWd R hi (by omega))
  | succ fu ih =>
    intro i p E h x2 R hWd hi h5 hpl hf K1 K0
    obtain ⟨B, w, f, ⟨r1, r2, r3, r4, r5⟩, ⟨z1, z2⟩, esp, sn, sf, lp, ep, pa, bt, SL, X, O⟩ := id R
    have hD : ∀ a, dR h0 h r sp esp a → a ≠ r := fun a ha => ha.2.2.1
    have hDT : ∀ a, dR h0 h r sp esp a → a < hT h := fun a ha => ha.2.1
    have hT0 := f.1
    have hzr : hZ h ≠ r := by have := f.2.2.2.2.1; omega
    have hB := B.2.2.2.2.2.2.2.2.2.2
    have hsl := w.2.2.2.2.2.2.2.2
    by_cases hp : p < len
    · skip
      obtain ⟨kv, hv⟩ : ∃ kv, tk tx len p = kv := ⟨_, rfl⟩
      have hT9 : textM tx len (fu + 1) E p = (match lineM tx len E.1 p with
        | .error q => .error q
        | .ok (r, q) => textM tx len fu (addL E r) q) := by
        show (if p < len then _ else _) = _
        exact if_pos hp
      have T1 : ∀ rr q, lineM tx len E.1 p = .ok (rr, q) → ∀ h' x3, RS h0 h' r sg sp ed len tx (addL E rr) (q, -1) (a0 + 10 * (i + 1)) (b0 + 6000 * (i + 1)) → sm_wp 59 2 [.ref r, .int (nI (i + 1)), x3] [] h' Q := by
        intro rr q hm h' x3 R'
        have o9 := lineM_ok hm
        rw [hm] at hT9
        exact ih (i + 1) q (addL E rr) h' x3 R' (hWd.line hm) (by rw [addL_len]; omega) (by omega) o9.2 (by omega) (fun E' h2 p' j e => K1 E' h2 p' j (hT9.trans e)) (fun q' E' h2 s' j e => K0 q' E' h2 s' j (hT9.trans e))
      have T0 : ∀ q, lineM tx len E.1 p = .error q → ∀ h' s' x3, RS h0 h' r sg sp ed len tx E s' (a0 + 10 * (i + 1)) (b0 + 6000 * (i + 1)) → s'.2 = nI q → q ≤ len → sm_wp 59 2 [.ref r, .int (nI (i + 1)), x3] [] h' Q := by
        intro q hm h' s' x3 R' e' hq
        rw [hm] at hT9
        exact c_linesE R' e' hq (by omega) (K0 q E h' s' (i + 1) hT9 hq R' (by omega))
      refine wp_pure k_59 rfl rfl ?_
      refine wp_kn k_59 rfl rfl ?_
      refine wp_br k_59 rfl rfl rfl rfl (fun z => absurd z (nI_ge (show i < 3000 by omega) (by omega))) (fun _ => ?_)
      refine wp_pure k_59 rfl rfl ?_
      refine wp_get k_59 rfl w.2.2.2.2.1 w.2.2.2.2.2.2.1 ?_
      refine wp_pure k_59 rfl rfl ?_
      refine wp_get k_59 rfl w.2.2.2.2.1 ((w.2.2.2.2.2.1 1025 (by decide) (by decide)).trans B.2.2.1) ?_
      refine wp_br k_59 rfl rfl rfl rfl (fun z => absurd z (nI_ge hp (by omega))) (fun _ => ?_)
      refine wp_pure k_59 rfl rfl ?_
      refine wp_get k_59 rfl w.2.2.2.2.1 w.2.2.2.2.2.2.2.1 ?_
      refine wp_km k_59 rfl rfl ?_
      refine wp_br k_59 rfl rfl rfl rfl (fun z => absurd z (fun q => q rfl)) (fun _ => ?_)
      refine wp_pure k_59 rfl rfl ?_
      refine wp_iv k_59 rfl [] rfl w.2.2.2.2.1 (r := []) (Nat.le_of_ble_eq_true rfl) (Nat.le_of_ble_eq_true rfl) rfl ?_
      refine c_peek B w hv ⟨rfl, ?_⟩
      refine wp_pure k_59 rfl rfl ?_
      refine wp_pure k_59 rfl rfl ?_
      refine wp_pure k_59 rfl rfl ?_
      refine wp_get k_59 rfl w.2.2.2.2.1 w.2.2.2.2.2.2.1 ?_
      refine wp_kn k_59 rfl rfl ?_
      refine wp_addN k_59 rfl ?_
      refine wp_put k_59 rfl w.2.2.2.2.1 rfl rfl ?_
      have R4 := R.rd (w.nx (p := p + 1) (by omega))
      generalize putF h 1028 r (.int (nI (p + 1))) = h4 at *
      have B4 := R4.1
      have w4 := R4.2.1
      have hn4 : E.1.length < 2 ^ 12 := by omega
      by_cases q82 : kv = nI 82
      · subst q82
        have nv : ∀ d, ¬ nI 82 = nI d → ¬ tk tx len p = nI d := fun d hd => by rw [hv]; exact hd
        refine wp_pure k_59 rfl rfl ?_
        refine wp_sw k_59 rfl rfl rfl rfl rfl ?_
        refine wp_pure k_59 rfl rfl ?_
        refine wp_iv k_59 rfl [] rfl B4.1 (r := []) (Nat.le_of_ble_eq_true rfl) (Nat.le_of_ble_eq_true rfl) rfl ?_
        refine c_rack R4 hWd hn4 (fun v x y w9 hh q hm h' R5 => ⟨rfl, ?_⟩) (fun q hm h' s' R5 e5 l5 => ⟨rfl, ?_⟩)
        · refine wp_br k_59 rfl rfl rfl rfl (fun _ => ?_) (fun z => absurd trivial z)
          refine wp_inc k_59 rfl rfl rfl ?_
          refine wp_br k_59 rfl rfl rfl rfl (fun _ => ?_) (fun z => absurd trivial z)
          have hlm : lineM tx len E.1 p = .ok ((.inl (plR v x y w9 hh)), q) := by
            unfold lineM
            rw [if_pos hv, hm]
          exact T1 _ _ hlm _ _ (R5.le (by omega) (by omega))
        · refine wp_br k_59 rfl rfl rfl rfl (fun _ => ?_) (fun z => absurd trivial z)
          refine wp_inc k_59 rfl rfl rfl ?_
          refine wp_br k_59 rfl rfl rfl rfl (fun _ => ?_) (fun z => absurd trivial z)
          have hlm : lineM tx len E.1 p = .error q := by
            unfold lineM
            rw [if_pos hv, hm]
          exact T0 _ hlm _ _ _ (R5.le (by omega) (by omega)) e5 l5
      by_cases q66 : kv = nI 66
      · subst q66
        have nv : ∀ d, ¬ nI 66 = nI d → ¬ tk tx len p = nI d := fun d hd => by rw [hv]; exact hd
        refine wp_pure k_59 rfl rfl ?_
        refine wp_sw k_59 rfl rfl rfl rfl rfl ?_
        refine wp_pure k_59 rfl rfl ?_
        refine wp_iv k_59 rfl [] rfl B4.1 (r := []) (Nat.le_of_ble_eq_true rfl) (Nat.le_of_ble_eq_true rfl) rfl ?_
        refine c_bin R4 hWd hn4 (fun v rr l x y w9 hh q hm h' R5 => ⟨rfl, ?_⟩) (fun q hm h' s' R5 e5 l5 => ⟨rfl, ?_⟩)
        · refine wp_br k_59 rfl rfl rfl rfl (fun _ => ?_) (fun z => absurd trivial z)
          refine wp_inc k_59 rfl rfl rfl ?_
          refine wp_br k_59 rfl rfl rfl rfl (fun _ => ?_) (fun z => absurd trivial z)
          have hlm : lineM tx len E.1 p = .ok ((.inl (plB v rr l x y w9 hh)), q) := by
            unfold lineM
            rw [if_neg (nv 82 (by decide))]
            rw [if_pos hv, hm]
          exact T1 _ _ hlm _ _ (R5.le (by omega) (by omega))
        · refine wp_br k_59 rfl rfl rfl rfl (fun _ => ?_) (fun z => absurd trivial z)
          refine wp_inc k_59 rfl rfl rfl ?_
          refine wp_br k_59 rfl rfl rfl rfl (fun _ => ?_) (fun z => absurd trivial z)
          have hlm : lineM tx len E.1 p = .error q := by
            unfold lineM
            rw [if_neg (nv 82 (by decide))]
            rw [if_pos hv, hm]
          exact T0 _ hlm _ _ _ (R5.le (by omega) (by omega)) e5 l5
      by_cases q80 : kv = nI 80
      · subst q80
        have nv : ∀ d, ¬ nI 80 = nI d → ¬ tk tx len p = nI d := fun d hd => by rw [hv]; exact hd
        refine wp_pure k_59 rfl rfl ?_
        refine wp_sw k_59 rfl rfl rfl rfl rfl ?_
        refine wp_pure k_59 rfl rfl ?_
        refine wp_iv k_59 rfl [] rfl B4.1 (r := []) (Nat.le_of_ble_eq_true rfl) (Nat.le_of_ble_eq_true rfl) rfl ?_
        refine c_piece9 R4 hWd hn4 (fun v x y q hm h' R5 => ⟨rfl, ?_⟩) (fun q hm h' s' R5 e5 l5 => ⟨rfl, ?_⟩)
        · refine wp_br k_59 rfl rfl rfl rfl (fun _ => ?_) (fun z => absurd trivial z)
          refine wp_inc k_59 rfl rfl rfl ?_
          refine wp_br k_59 rfl rfl rfl rfl (fun _ => ?_) (fun z => absurd trivial z)
          have hlm : lineM tx len E.1 p = .ok ((.inl (plP v x y)), q) := by
            unfold lineM
            rw [if_neg (nv 82 (by decide))]
            rw [if_neg (nv 66 (by decide))]
            rw [if_pos hv, hm]
          exact T1 _ _ hlm _ _ (R5.le (by omega) (by omega))
        · refine wp_br k_59 rfl rfl rfl rfl (fun _ => ?_) (fun z => absurd trivial z)
          refine wp_inc k_59 rfl rfl rfl ?_
          refine wp_br k_59 rfl rfl rfl rfl (fun _ => ?_) (fun z => absurd trivial z)
          have hlm : lineM tx len E.1 p = .error q := by
            unfold lineM
            rw [if_neg (nv 82 (by decide))]
            rw [if_neg (nv 66 (by decide))]
            rw [if_pos hv, hm]
          exact T0 _ hlm _ _ _ (R5.le (by omega) (by omega)) e5 l5
      by_cases q68 : kv = nI 68
      · subst q68
        have nv : ∀ d, ¬ nI 68 = nI d → ¬ tk tx len p = nI d := fun d hd => by rw [hv]; exact hd
        refine wp_pure k_59 rfl rfl ?_
        refine wp_sw k_59 rfl rfl rfl rfl rfl ?_
        refine wp_pure k_59 rfl rfl ?_
        refine wp_kn k_59 rfl rfl ?_
        refine wp_iv k_59 rfl [.int (nI 3)] rfl B4.1 (r := []) (Nat.le_of_ble_eq_true rfl) (Nat.le_of_ble_eq_true rfl) rfl ?_
        refine c_atp9 R4 hWd hn4 (fun v k q hm h' R5 => ⟨rfl, ?_⟩) (fun q hm h' s' R5 e5 l5 => ⟨rfl, ?_⟩)
        · refine wp_br k_59 rfl rfl rfl rfl (fun _ => ?_) (fun z => absurd trivial z)
          refine wp_inc k_59 rfl rfl rfl ?_
          refine wp_br k_59 rfl rfl rfl rfl (fun _ => ?_) (fun z => absurd trivial z)
          have hlm : lineM tx len E.1 p = .ok ((.inl (plA E.1 v 3 k [])), q) := by
            unfold lineM
            rw [if_neg (nv 82 (by decide))]
            rw [if_neg (nv 66 (by decide))]
            rw [if_neg (nv 80 (by decide))]
            rw [if_pos hv]
            unfold atL
            rw [hm]
          exact T1 _ _ hlm _ _ (R5.le (by omega) (by omega))
        · refine wp_br k_59 rfl rfl rfl rfl (fun _ => ?_) (fun z => absurd trivial z)
          refine wp_inc k_59 rfl rfl rfl ?_
          refine wp_br k_59 rfl rfl rfl rfl (fun _ => ?_) (fun z => absurd trivial z)
          have hlm : lineM tx len E.1 p = .error q := by
            unfold lineM
            rw [if_neg (nv 82 (by decide))]
            rw [if_neg (nv 66 (by decide))]
            rw [if_neg (nv 80 (by decide))]
            rw [if_pos hv]
            unfold atL
            rw [hm]
          exact T0 _ hlm _ _ _ (R5.le (by omega) (by omega)) e5 l5
      by_cases q83 : kv = nI 83
      · subst q83
        have nv : ∀ d, ¬ nI 83 = nI d → ¬ tk tx len p = nI d := fun d hd => by rw [hv]; exact hd
        refine wp_pure k_59 rfl rfl ?_
        refine wp_sw k_59 rfl rfl rfl rfl rfl ?_
        refine wp_pure k_59 rfl rfl ?_
        refine wp_kn k_59 rfl rfl ?_
        refine wp_iv k_59 rfl [.int (nI 4)] rfl B4.1 (r := []) (Nat.le_of_ble_eq_true rfl) (Nat.le_of_ble_eq_true rfl) rfl ?_
        refine c_atp9 R4 hWd hn4 (fun v k q hm h' R5 => ⟨rfl, ?_⟩) (fun q hm h' s' R5 e5 l5 => ⟨rfl, ?_⟩)
        · refine wp_br k_59 rfl rfl rfl rfl (fun _ => ?_) (fun z => absurd trivial z)
          refine wp_inc k_59 rfl rfl rfl ?_
          refine wp_br k_59 rfl rfl rfl rfl (fun _ => ?_) (fun z => absurd trivial z)
          have hlm : lineM tx len E.1 p = .ok ((.inl (plA E.1 v 4 k [])), q) := by
            unfold lineM
            rw [if_neg (nv 82 (by decide))]
            rw [if_neg (nv 66 (by decide))]
            rw [if_neg (nv 80 (by decide))]
            rw [if_neg (nv 68 (by decide))]
            rw [if_pos hv]
            unfold atL
            rw [hm]
          exact T1 _ _ hlm _ _ (R5.le (by omega) (by omega))
        · refine wp_br k_59 rfl rfl rfl rfl (fun _ => ?_) (fun z => absurd trivial z)
          refine wp_inc k_59 rfl rfl rfl ?_
          refine wp_br k_59 rfl rfl rfl rfl (fun _ => ?_) (fun z => absurd trivial z)
          have hlm : lineM tx len E.1 p = .error q := by
            unfold lineM
            rw [if_neg (nv 82 (by decide))]
            rw [if_neg (nv 66 (by decide))]
            rw [if_neg (nv 80 (by decide))]
            rw [if_neg (nv 68 (by decide))]
            rw [if_pos hv]
            unfold atL
            rw [hm]
          exact T0 _ hlm _ _ _ (R5.le (by omega) (by omega)) e5 l5
      by_cases q67 : kv = nI 67
      · subst q67
        have nv : ∀ d, ¬ nI 67 = nI d → ¬ tk tx len p = nI d := fun d hd => by rw [hv]; exact hd
        refine wp_pure k_59 rfl rfl ?_
        refine wp_sw k_59 rfl rfl rfl rfl rfl ?_
        refine wp_pure k_59 rfl rfl ?_
        refine wp_kn k_59 rfl rfl ?_
        refine wp_iv k_59 rfl [.int (nI 5)] rfl B4.1 (r := []) (Nat.le_of_ble_eq_true rfl) (Nat.le_of_ble_eq_true rfl) rfl ?_
        refine c_atp9 R4 hWd hn4 (fun v k q hm h' R5 => ⟨rfl, ?_⟩) (fun q hm h' s' R5 e5 l5 => ⟨rfl, ?_⟩)
        · refine wp_br k_59 rfl rfl rfl rfl (fun _ => ?_) (fun z => absurd trivial z)
          refine wp_inc k_59 rfl rfl rfl ?_
          refine wp_br k_59 rfl rfl rfl rfl (fun _ => ?_) (fun z => absurd trivial z)
          have hlm : lineM tx len E.1 p = .ok ((.inl (plA E.1 v 5 k [])), q) := by
            unfold lineM
            rw [if_neg (nv 82 (by decide))]
            rw [if_neg (nv 66 (by decide))]
            rw [if_neg (nv 80 (by decide))]
            rw [if_neg (nv 68 (by decide))]
            rw [if_neg (nv 83 (by decide))]
            rw [if_pos hv]
            unfold atL
            rw [hm]
          exact T1 _ _ hlm _ _ (R5.le (by omega) (by omega))
        · refine wp_br k_59 rfl rfl rfl rfl (fun _ => ?_) (fun z => absurd trivial z)
          refine wp_inc k_59 rfl rfl rfl ?_
          refine wp_br k_59 rfl rfl rfl rfl (fun _ => ?_) (fun z => absurd trivial z)
          have hlm : lineM tx len E.1 p = .error q := by
            unfold lineM
            rw [if_neg (nv 82 (by decide))]
            rw [if_neg (nv 66 (by decide))]
            rw [if_neg (nv 80 (by decide))]
            rw [if_neg (nv 68 (by decide))]
            rw [if_neg (nv 83 (by decide))]
            rw [if_pos hv]
            unfold atL
            rw [hm]
          exact T0 _ hlm _ _ _ (R5.le (by omega) (by omega)) e5 l5
      by_cases q69 : kv = nI 69
      · subst q69
        have nv : ∀ d, ¬ nI 69 = nI d → ¬ tk tx len p = nI d := fun d hd => by rw [hv]; exact hd
        refine wp_pure k_59 rfl rfl ?_
        refine wp_sw k_59 rfl rfl rfl rfl rfl ?_
        refine wp_pure k_59 rfl rfl ?_
        refine wp_iv k_59 rfl [] rfl B4.1 (r := []) (Nat.le_of_ble_eq_true rfl) (Nat.le_of_ble_eq_true rfl) rfl ?_
        refine c_lift9 R4 hn4 hWd (fun v l q hm h' R5 => ⟨rfl, ?_⟩) (fun q hm h' s' R5 e5 l5 => ⟨rfl, ?_⟩)
        · refine wp_br k_59 rfl rfl rfl rfl (fun _ => ?_) (fun z => absurd trivial z)
          refine wp_inc k_59 rfl rfl rfl ?_
          refine wp_br k_59 rfl rfl rfl rfl (fun _ => ?_) (fun z => absurd trivial z)
          have hlm : lineM tx len E.1 p = .ok ((.inl (plA E.1 v 6 (l.getD 0 0) l)), q) := by
            unfold lineM
            rw [if_neg (nv 82 (by decide))]
            rw [if_neg (nv 66 (by decide))]
            rw [if_neg (nv 80 (by decide))]
            rw [if_neg (nv 68 (by decide))]
            rw [if_neg (nv 83 (by decide))]
            rw [if_neg (nv 67 (by decide))]
            rw [if_pos hv, hm]
          exact T1 _ _ hlm _ _ (R5.le (by omega) (by omega))
        · refine wp_br k_59 rfl rfl rfl rfl (fun _ => ?_) (fun z => absurd trivial z)
          refine wp_inc k_59 rfl rfl rfl ?_
          refine wp_br k_59 rfl rfl rfl rfl (fun _ => ?_) (fun z => absurd trivial z)
          have hlm : lineM tx len E.1 p = .error q := by
            unfold lineM
            rw [if_neg (nv 82 (by decide))]
            rw [if_neg (nv 66 (by decide))]
            rw [if_neg (nv 80 (by decide))]
            rw [if_neg (nv 68 (by decide))]
            rw [if_neg (nv 83 (by decide))]
            rw [if_neg (nv 67 (by decide))]
            rw [if_pos hv, hm]
          exact T0 _ hlm _ _ _ (R5.le (by omega) (by omega)) e5 l5
      by_cases q87 : kv = nI 87
      · subst q87
        have nv : ∀ d, ¬ nI 87 = nI d → ¬ tk tx len p = nI d := fun d hd => by rw [hv]; exact hd
        refine wp_pure k_59 rfl rfl ?_
        refine wp_sw k_59 rfl rfl rfl rfl rfl ?_
        refine wp_pure k_59 rfl rfl ?_
        refine wp_iv k_59 rfl [] rfl B4.1 (r := []) (Nat.le_of_ble_eq_true rfl) (Nat.le_of_ble_eq_true rfl) rfl ?_
        refine c_way9 R4 hn4 (by omega) (fun a b t q hm h' R5 => ⟨rfl, ?_⟩) (fun q hm h' s' R5 e5 l5 => ⟨rfl, ?_⟩)
        · refine wp_br k_59 rfl rfl rfl rfl (fun _ => ?_) (fun z => absurd trivial z)
          refine wp_inc k_59 rfl rfl rfl ?_
          refine wp_br k_59 rfl rfl rfl rfl (fun _ => ?_) (fun z => absurd trivial z)
          have hlm : lineM tx len E.1 p = .ok ((.inr (.inl (a, b, t))), q) := by
            unfold lineM
            rw [if_neg (nv 82 (by decide))]
            rw [if_neg (nv 66 (by decide))]
            rw [if_neg (nv 80 (by decide))]
            rw [if_neg (nv 68 (by decide))]
            rw [if_neg (nv 83 (by decide))]
            rw [if_neg (nv 67 (by decide))]
            rw [if_neg (nv 69 (by decide))]
            rw [if_pos hv, hm]
          exact T1 _ _ hlm _ _ (R5.le (by omega) (by omega))
        · refine wp_br k_59 rfl rfl rfl rfl (fun _ => ?_) (fun z => absurd trivial z)
          refine wp_inc k_59 rfl rfl rfl ?_
          refine wp_br k_59 rfl rfl rfl rfl (fun _ => ?_) (fun z => absurd trivial z)
          have hlm : lineM tx len E.1 p = .error q := by
            unfold lineM
            rw [if_neg (nv 82 (by decide))]
            rw [if_neg (nv 66 (by decide))]
            rw [if_neg (nv 80 (by decide))]
            rw [if_neg (nv 68 (by decide))]
            rw [if_neg (nv 83 (by decide))]
            rw [if_neg (nv 67 (by decide))]
            rw [if_neg (nv 69 (by decide))]
            rw [if_pos hv, hm]
          exact T0 _ hlm _ _ _ (R5.le (by omega) (by omega)) e5 l5
      by_cases q65 : kv = nI 65
      · subst q65
        have nv : ∀ d, ¬ nI 65 = nI d → ¬ tk tx len p = nI d := fun d hd => by rw [hv]; exact hd
        refine wp_pure k_59 rfl rfl ?_
        refine wp_sw k_59 rfl rfl rfl rfl rfl ?_
        refine wp_pure k_59 rfl rfl ?_
        refine wp_iv k_59 rfl [] rfl B4.1 (r := []) (Nat.le_of_ble_eq_true rfl) (Nat.le_of_ble_eq_true rfl) rfl ?_
        refine c_srv9 R4 hn4 (by omega) (fun a b q hm h' R5 => ⟨rfl, ?_⟩) (fun q hm h' s' R5 e5 l5 => ⟨rfl, ?_⟩)
        · refine wp_br k_59 rfl rfl rfl rfl (fun _ => ?_) (fun z => absurd trivial z)
          refine wp_inc k_59 rfl rfl rfl ?_
          refine wp_br k_59 rfl rfl rfl rfl (fun _ => ?_) (fun z => absurd trivial z)
          have hlm : lineM tx len E.1 p = .ok ((.inr (.inr (a, b))), q) := by
            unfold lineM
            rw [if_neg (nv 82 (by decide))]
            rw [if_neg (nv 66 (by decide))]
            rw [if_neg (nv 80 (by decide))]
            rw [if_neg (nv 68 (by decide))]
            rw [if_neg (nv 83 (by decide))]
            rw [if_neg (nv 67 (by decide))]
            rw [if_neg (nv 69 (by decide))]
            rw [if_neg (nv 87 (by decide))]
            rw [if_pos hv, hm]
          exact T1 _ _ hlm _ _ (R5.le (by omega) (by omega))
        · refine wp_br k_59 rfl rfl rfl rfl (fun _ => ?_) (fun z => absurd trivial z)
          refine wp_inc k_59 rfl rfl rfl ?_
          refine wp_br k_59 rfl rfl rfl rfl (fun _ => ?_) (fun z => absurd trivial z)
          have hlm : lineM tx len E.1 p = .error q := by
            unfold lineM
            rw [if_neg (nv 82 (by decide))]
            rw [if_neg (nv 66 (by decide))]
            rw [if_neg (nv 80 (by decide))]
            rw [if_neg (nv 68 (by decide))]
            rw [if_neg (nv 83 (by decide))]
            rw [if_neg (nv 67 (by decide))]
            rw [if_neg (nv 69 (by decide))]
            rw [if_neg (nv 87 (by decide))]
            rw [if_pos hv, hm]
          exact T0 _ hlm _ _ _ (R5.le (by omega) (by omega)) e5 l5
      refine wp_pure k_59 rfl rfl ?_
      refine wp_sw k_59 rfl rfl rfl rfl (sw59 q82 q66 q80 q68 q83 q67 q69 q87 q65) ?_
      refine wp_pure k_59 rfl rfl ?_
      refine wp_pure k_59 rfl rfl ?_
      refine wp_get k_59 rfl B4.1 w4.2.2.2.2.2.2.1 ?_
      refine wp_kn k_59 rfl rfl ?_
      refine wp_subN k_59 rfl (show 1 ≤ p + 1 by omega) ?_
      refine wp_iv k_59 rfl [.int (nI p)] rfl B4.1 (r := []) (Nat.le_of_ble_eq_true rfl) (Nat.le_of_ble_eq_true rfl) rfl ?_
      refine c_refuse B4 w4 (fun h5 w5 => ⟨rfl, ?_⟩)
      refine wp_inc k_59 rfl rfl rfl ?_
      refine wp_br k_59 rfl rfl rfl rfl (fun _ => ?_) (fun z => absurd trivial z)
      have hlm : lineM tx len E.1 p = .error p := by
        unfold lineM
        rw [if_neg (by rw [hv]; exact q82)]
        rw [if_neg (by rw [hv]; exact q66)]
        rw [if_neg (by rw [hv]; exact q80)]
        rw [if_neg (by rw [hv]; exact q68)]
        rw [if_neg (by rw [hv]; exact q83)]
        rw [if_neg (by rw [hv]; exact q67)]
        rw [if_neg (by rw [hv]; exact q69)]
        rw [if_neg (by rw [hv]; exact q87)]
        rw [if_neg (by rw [hv]; exact q65)]
      exact T0 _ hlm _ _ _ ((R4.rd w5).le (by omega) (by omega)) rf_m1 (by omega)
    · have hT9 : textM tx len (fu + 1) E p = .ok E := by
        show (if p < len then _ else _) = _
        exact if_neg hp
      refine wp_pure k_59 rfl rfl ?_
      refine wp_kn k_59 rfl rfl ?_
      refine wp_br k_59 rfl rfl rfl rfl (fun z => absurd z (nI_ge (show i < 3000 by omega) (by omega))) (fun _ => ?_)
      refine wp_pure k_59 rfl rfl ?_
      refine wp_get k_59 rfl w.2.2.2.2.1 w.2.2.2.2.2.2.1 ?_
      refine wp_pure k_59 rfl rfl ?_
      refine wp_get k_59 rfl w.2.2.2.2.1 ((w.2.2.2.2.2.1 1025 (by decide) (by decide)).trans B.2.2.1) ?_
      refine wp_br k_59 rfl rfl rfl rfl (fun _ => ?_) (fun z => absurd ((nI_leI (by omega) (by omega)).mpr (show len ≤ p by omega)) z)
      refine wp_pure k_59 rfl rfl ?_
      refine wp_get k_59 rfl w.2.2.2.2.1 w.2.2.2.2.2.2.2.1 ?_
      exact wp_irt k_59 rfl rfl rfl (K1 E h p i hT9 hWd R hi (by omega))
theorem c_lines {h0 h : sm_H} {Q : Nat → Option Value → sm_H → Prop} {r sg sp ed len : Nat} {tx : Nat → Int32} {dT dU : Nat} (R : RS h0 h r sg sp ed len tx ([], [], []) (0, -1) dT dU) (K1 : ∀ E' h' p' j, textM tx len len ([], [], []) 0 = .ok E' → EdW E' → RS h0 h' r sg sp ed len tx E' (p', -1) (dT + 10 * j) (dU + 6000 * j) → E'.1.length + E'.2.1.length + E'.2.2.length = j → j * 5 ≤ len → Q 0 (some (.int (-1))) h') (K0 : ∀ q E' h' s' j, textM tx len len ([], [], []) 0 = .error q → q ≤ len → RS h0 h' r sg sp ed len tx E' s' (dT + 10 * j) (dU + 6000 * j) → j * 5 ≤ len + 5 → Q 0 (some (.int (nI q))) h') : sm_wp 59 0 [.ref r, jk, jk] [] h Q := by
  have hl := R.1.2.2.2.2.2.2.2.2.2.2
  refine wp_kn k_59 rfl rfl ?_
  refine wp_pure k_59 rfl rfl ?_
  exact c_linesL hl len 0 0 ([], [], []) h jk R EdW.nil (by decide) (by decide) (Nat.zero_le _) (by omega) K1 K0
