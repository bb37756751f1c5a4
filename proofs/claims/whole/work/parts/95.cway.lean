/-! the class reads a way, a serve -/
theorem c_skip9 {h h1 : sm_H} {Q : Nat → Option Value → sm_H → Prop} {r sg sp ed len : Nat} {tx : Nat → Int32} (B : RB h r sg sp ed len tx) {s : Nat × Int32} (w : RDW h h1 r len s) {c : Int32} (hc : c ≠ -1) (K : ∀ h2 s9, skC tx len c s = s9 → RDW h h2 r len s9 → Q 0 none h2) : sm_wp 63 0 [.ref r, .int c] [] h1 Q := c_skip B w hc (fun h2 w2 => K h2 _ rfl w2)
/-- a value that was read: null, or a place -/
def VR (pa : Nat → Nat) (n : Nat) (x : Int32) (v : Value) : Prop := (x = -1 ∧ v = .null) ∨ ∃ k, k < n ∧ x = nI k ∧ v = .ref (pa k)
theorem VR.y {pa : Nat → Nat} {n a : Nat} {x : Int32} {v : Value} (q : VR pa n x v) (h : x = nI a) (ha : a < n) (hn : n < 2 ^ 31) : v = .ref (pa a) := by
  rcases q with ⟨e, _⟩ | ⟨k, hk, e, z⟩
  · exact absurd (h.symm.trans e) (nI_nm1 (by omega))
  · rw [z, (nI_eq (by omega) (by omega)).mp (e.symm.trans h)]
theorem c_wayT {h0 h : sm_H} {Q : Nat → Option Value → sm_H → Prop} {r sg sp ed len : Nat} {tx : Nat → Int32} {E : Ed} {p dT dU : Nat} (R : RS h0 h r sg sp ed len tx E (p, -1) dT dU) {esp sn lp ep : Nat} {sf pa : Nat → Nat} {bt : Nat → Nat → Nat} (SL : Lst h sp esp sn sf ∧ (esp = hZ h ∨ hT h0 ≤ esp)) (X : EdF h ed lp ep pa bt E (fun _ => nI 0)) (O : EdO h (dR h0 h r sp esp) ed lp ep pa E) (hn : E.1.length < 2 ^ 12) (hnw : E.2.1.length < 2 ^ 12) (K1 : ∀ a b t q, wayM tx len (atP E.1 0) (atP E.1 1) E.1.length p = .ok (a, b, t, q) → ∀ h', RS h0 h' r sg sp ed len tx (E.1, E.2.1 ++ [(a, b, t)], E.2.2) (q, -1) dT dU → Q 0 none h') (K0 : ∀ q, wayM tx len (atP E.1 0) (atP E.1 1) E.1.length p = .error q → ∀ h' s', RS h0 h' r sg sp ed len tx E s' dT dU → s'.2 = nI q → q ≤ len → Q 0 none h') {n1 n2 : Int32 × Nat × Int32} {s3 s5 : Nat × Int32} {kv : Int32} {v1 v2 : Value} {h5 : sm_H} (g1 : usC tx len (atP E.1 0) (atP E.1 1) E.1.length (nI 2) (-1) (p, -1) = n1) (g2 : usC tx len (atP E.1 0) (atP E.1 1) E.1.length (nI 2) n1.1 n1.2 = n2) (g3 : skC tx len (nI 32) n2.2 = s3) (hv : tk tx len s3.1 = kv) (q1 : VR pa E.1.length n1.1 v1) (q2 : VR pa E.1.length n2.1 v2) (g5 : wkC tx len s3 = s5) (w5 : RDW h h5 r len s5) : sm_wp 75 58 [.ref r, v1, v2, .int kv] [] h5 Q := by
  have B := R.1
  have hB := B.2.2.2.2.2.2.2.2.2.2
  have hsl := R.2.1.2.2.2.2.2.2.2.2
  obtain ⟨c1, c0⟩ := wayC9 (by omega) hsl (by omega) g1 g2 g3
  rw [g5] at c1 c0
  refine wp_pure k_75 rfl rfl ?_
  refine wp_iv k_75 rfl [] rfl w5.2.2.2.2.1 (r := []) (Nat.le_of_ble_eq_true rfl) (Nat.le_of_ble_eq_true rfl) rfl ?_
  refine c_ends B w5 (fun h6 w6 ok => ⟨rfl, ?_⟩) (fun h6 w6 ok => ⟨rfl, ?_⟩)
  · skip
    have hmo : ∃ z9, wayM tx len (atP E.1 0) (atP E.1 1) E.1.length p = .ok z9 := by
      cases hm : wayM tx len (atP E.1 0) (atP E.1 1) E.1.length p with
      | error q => exact absurd ((c0 q hm).1.symm.trans ok) (nI_nm1 (by have := (c0 q hm).2; omega))
      | ok z9 => exact ⟨z9, rfl⟩
    obtain ⟨⟨a, b, t, q⟩, hm⟩ := hmo
    obtain ⟨k1, k2, k3, k4⟩ := c1 a b t q hm
    rw [k4] at w6
    have R7 := R.rd w6
    obtain ⟨SL7, X7, O7, B7⟩ := R.rdx SL X O w6
    have o7 := wayM_ok hm
    rw [hv] at k3
    have y1 := q1.y k1 o7.2.2.1 (by omega)
    subst y1
    have y2 := q2.y k2 o7.2.2.2.1 (by omega)
    subst y2
    refine wp_br k_75 rfl rfl rfl rfl (fun z => absurd z (show ¬ ((nI 1 : Int32) = 0) by decide)) (fun _ => ?_)
    refine wp_pure k_75 rfl rfl ?_
    refine wp_br k_75 rfl rfl rfl rfl (fun _ => ?_) (fun z => absurd trivial z)
    refine wp_pure k_75 rfl rfl ?_
    refine wp_br k_75 rfl rfl rfl rfl (fun _ => ?_) (fun z => absurd trivial z)
    refine wp_pure k_75 rfl rfl ?_
    refine wp_get k_75 rfl B7.1 B7.2.2.2.1 ?_
    refine wp_pure k_75 rfl rfl ?_
    refine wp_pure k_75 rfl rfl ?_
    refine wp_pure k_75 rfl rfl ?_
    refine wp_kn k_75 rfl rfl ?_
    refine wp_br k_75 rfl rfl rfl rfl (fun (z82 : ¬ kv = nI 61) => ?_) (fun (z82 : ¬ (¬ kv = nI 61)) => ?_)
    · refine wp_kn k_75 rfl rfl ?_
      refine wp_iv k_75 rfl [.ref (pa a), .ref (pa b), .int (nI 0)] rfl X7.1.1 (r := []) (Nat.le_of_ble_eq_true rfl) (Nat.le_of_ble_eq_true rfl) rfl ?_
      have ht : t = false := k3.trans (decide_eq_false z82)
      subst ht
      refine c_addWay (t := false) R7 SL7 X7 O7 hnw o7.2.2.1 o7.2.2.2.1 o7.2.2.2.2.2.2 (fun h8 R8 => ⟨rfl, ?_⟩)
      exact wp_vrt k_75 rfl rfl (K1 a b false q hm h8 R8)
    · refine wp_kn k_75 rfl rfl ?_
      refine wp_br k_75 rfl rfl rfl rfl (fun _ => ?_) (fun z => absurd trivial z)
      refine wp_iv k_75 rfl [.ref (pa a), .ref (pa b), .int (nI 1)] rfl X7.1.1 (r := []) (Nat.le_of_ble_eq_true rfl) (Nat.le_of_ble_eq_true rfl) rfl ?_
      have ht : t = true := k3.trans (decide_eq_true (Classical.not_not.mp z82))
      subst ht
      refine c_addWay (t := true) R7 SL7 X7 O7 hnw o7.2.2.1 o7.2.2.2.1 o7.2.2.2.2.2.2 (fun h8 R8 => ⟨rfl, ?_⟩)
      exact wp_vrt k_75 rfl rfl (K1 a b true q hm h8 R8)
  · refine wp_br k_75 rfl rfl rfl rfl (fun _ => ?_) (fun z => absurd (show (nI 0 : Int32) = 0 by decide) z)
    cases hm : wayM tx len (atP E.1 0) (atP E.1 1) E.1.length p with
    | ok z9 =>
      obtain ⟨a, b, t, q⟩ := z9
      exact absurd (by rw [(c1 a b t q hm).2.2.2]) ok
    | error q => exact wp_vrt k_75 rfl rfl (K0 q hm h6 _ (R.rd w6) (c0 q hm).1 (c0 q hm).2)
theorem c_way9 {h0 h : sm_H} {Q : Nat → Option Value → sm_H → Prop} {r sg sp ed len : Nat} {tx : Nat → Int32} {E : Ed} {p dT dU : Nat} (R : RS h0 h r sg sp ed len tx E (p, -1) dT dU) (hn : E.1.length < 2 ^ 12) (hnw : E.2.1.length < 2 ^ 12) (K1 : ∀ a b t q, wayM tx len (atP E.1 0) (atP E.1 1) E.1.length p = .ok (a, b, t, q) → ∀ h', RS h0 h' r sg sp ed len tx (E.1, E.2.1 ++ [(a, b, t)], E.2.2) (q, -1) dT dU → Q 0 none h') (K0 : ∀ q, wayM tx len (atP E.1 0) (atP E.1 1) E.1.length p = .error q → ∀ h' s', RS h0 h' r sg sp ed len tx E s' dT dU → s'.2 = nI q → q ≤ len → Q 0 none h') : sm_wp 75 0 [.ref r, jk, jk, jk] [] h Q := by
  obtain ⟨B, w, f, ⟨r1, r2, r3, r4, r5⟩, ⟨z1, z2⟩, esp, sn, sf, lp, ep, pa, bt, SL, X, O⟩ := id R
  have hD : ∀ a, dR h0 h r sp esp a → a ≠ r := fun a ha => ha.2.2.1
  have hDT : ∀ a, dR h0 h r sp esp a → a < hT h := fun a ha => ha.2.1
  have hT0 := f.1
  have hzr : hZ h ≠ r := by have := f.2.2.2.2.1; omega
  have hB := B.2.2.2.2.2.2.2.2.2.2
  have hsl := w.2.2.2.2.2.2.2.2
  refine wp_pure k_75 rfl rfl ?_
  refine wp_kn k_75 rfl rfl ?_
  refine wp_pure k_75 rfl rfl ?_
  refine wp_iv k_75 rfl [.int (nI 2), .null] rfl w.2.2.2.2.1 (r := []) (Nat.le_of_ble_eq_true rfl) (Nat.le_of_ble_eq_true rfl) rfl ?_
  refine c_used9n B w X O hD hzr (fun h2 n1 g1 e1 w2 => ⟨rfl, ?_⟩) (fun h2 n1 k1 g1 kl1 e1 w2 => ⟨rfl, ?_⟩)
  · refine wp_pure k_75 rfl rfl ?_
    refine wp_pure k_75 rfl rfl ?_
    refine wp_kn k_75 rfl rfl ?_
    refine wp_pure k_75 rfl rfl ?_
    refine wp_iv k_75 rfl [.int (nI 2), .null] rfl w2.2.2.2.2.1 (r := []) (Nat.le_of_ble_eq_true rfl) (Nat.le_of_ble_eq_true rfl) rfl ?_
    refine c_used9n B w2 X O hD hzr (fun h3 n2 g2 e2 w3 => ⟨rfl, ?_⟩) (fun h3 n2 k2 g2 kl2 e2 w3 => ⟨rfl, ?_⟩)
    · refine wp_pure k_75 rfl rfl ?_
      refine wp_pure k_75 rfl rfl ?_
      refine wp_kn k_75 rfl rfl ?_
      refine wp_iv k_75 rfl [.int (nI 32)] rfl w3.2.2.2.2.1 (r := []) (Nat.le_of_ble_eq_true rfl) (Nat.le_of_ble_eq_true rfl) rfl ?_
      refine c_skip9 B w3 (by decide) (fun h4 s3 g3 w4 => ⟨rfl, ?_⟩)
      obtain ⟨kv, hv⟩ : ∃ kv, tk tx len s3.1 = kv := ⟨_, rfl⟩
      refine wp_pure k_75 rfl rfl ?_
      refine wp_iv k_75 rfl [] rfl w4.2.2.2.2.1 (r := []) (Nat.le_of_ble_eq_true rfl) (Nat.le_of_ble_eq_true rfl) rfl ?_
      refine c_peek B w4 hv ⟨rfl, ?_⟩
      refine wp_pure k_75 rfl rfl ?_
      refine wp_pure k_75 rfl rfl ?_
      refine wp_kn k_75 rfl rfl ?_
      refine wp_br k_75 rfl rfl rfl rfl (fun (z28 : kv = nI 62) => ?_) (fun (z28 : ¬ (kv = nI 62)) => ?_)
      · refine wp_pure k_75 rfl rfl ?_
        refine wp_pure k_75 rfl rfl ?_
        refine wp_get k_75 rfl w4.2.2.2.2.1 w4.2.2.2.2.2.2.1 ?_
        refine wp_kn k_75 rfl rfl ?_
        refine wp_addN k_75 rfl ?_
        refine wp_put k_75 rfl w4.2.2.2.2.1 rfl rfl ?_
        refine wp_br k_75 rfl rfl rfl rfl (fun _ => ?_) (fun z => absurd trivial z)
        exact c_wayT R SL X O hn hnw K1 K0 g1 (by rw [e1]; exact g2) g3 hv (Or.inl ⟨e1, rfl⟩) (Or.inl ⟨e2, rfl⟩) (wkC_y (by rw [hv]; exact Or.inl z28)) (w4.nx (by have := tkc (hv.trans z28) (by decide); omega))
      · refine wp_pure k_75 rfl rfl ?_
        refine wp_kn k_75 rfl rfl ?_
        refine wp_br k_75 rfl rfl rfl rfl (fun (z34 : ¬ kv = nI 61) => ?_) (fun (z34 : ¬ (¬ kv = nI 61)) => ?_)
        · refine wp_pure k_75 rfl rfl ?_
          refine wp_pure k_75 rfl rfl ?_
          refine wp_get k_75 rfl w4.2.2.2.2.1 w4.2.2.2.2.2.2.1 ?_
          refine wp_iv k_75 rfl [.int (nI (s3.1))] rfl w4.2.2.2.2.1 (r := []) (Nat.le_of_ble_eq_true rfl) (Nat.le_of_ble_eq_true rfl) rfl ?_
          refine c_refuse B w4 (fun h5 w5 => ⟨rfl, ?_⟩)
          exact c_wayT R SL X O hn hnw K1 K0 g1 (by rw [e1]; exact g2) g3 hv (Or.inl ⟨e1, rfl⟩) (Or.inl ⟨e2, rfl⟩) (wkC_n (by rw [hv]; exact fun z => z.elim z28 z34)) w5
        · refine wp_pure k_75 rfl rfl ?_
          refine wp_pure k_75 rfl rfl ?_
          refine wp_get k_75 rfl w4.2.2.2.2.1 w4.2.2.2.2.2.2.1 ?_
          refine wp_kn k_75 rfl rfl ?_
          refine wp_addN k_75 rfl ?_
          refine wp_put k_75 rfl w4.2.2.2.2.1 rfl rfl ?_
          refine wp_br k_75 rfl rfl rfl rfl (fun _ => ?_) (fun z => absurd trivial z)
          exact c_wayT R SL X O hn hnw K1 K0 g1 (by rw [e1]; exact g2) g3 hv (Or.inl ⟨e1, rfl⟩) (Or.inl ⟨e2, rfl⟩) (wkC_y (by rw [hv]; exact Or.inr (Classical.not_not.mp z34))) (w4.nx (by have := tkc (hv.trans (Classical.not_not.mp z34)) (by decide); omega))
    · refine wp_pure k_75 rfl rfl ?_
      refine wp_pure k_75 rfl rfl ?_
      refine wp_kn k_75 rfl rfl ?_
      refine wp_iv k_75 rfl [.int (nI 32)] rfl w3.2.2.2.2.1 (r := []) (Nat.le_of_ble_eq_true rfl) (Nat.le_of_ble_eq_true rfl) rfl ?_
      refine c_skip9 B w3 (by decide) (fun h4 s3 g3 w4 => ⟨rfl, ?_⟩)
      obtain ⟨kv, hv⟩ : ∃ kv, tk tx len s3.1 = kv := ⟨_, rfl⟩
      refine wp_pure k_75 rfl rfl ?_
      refine wp_iv k_75 rfl [] rfl w4.2.2.2.2.1 (r := []) (Nat.le_of_ble_eq_true rfl) (Nat.le_of_ble_eq_true rfl) rfl ?_
      refine c_peek B w4 hv ⟨rfl, ?_⟩
      refine wp_pure k_75 rfl rfl ?_
      refine wp_pure k_75 rfl rfl ?_
      refine wp_kn k_75 rfl rfl ?_
      refine wp_br k_75 rfl rfl rfl rfl (fun (z28 : kv = nI 62) => ?_) (fun (z28 : ¬ (kv = nI 62)) => ?_)
      · refine wp_pure k_75 rfl rfl ?_
        refine wp_pure k_75 rfl rfl ?_
        refine wp_get k_75 rfl w4.2.2.2.2.1 w4.2.2.2.2.2.2.1 ?_
        refine wp_kn k_75 rfl rfl ?_
        refine wp_addN k_75 rfl ?_
        refine wp_put k_75 rfl w4.2.2.2.2.1 rfl rfl ?_
        refine wp_br k_75 rfl rfl rfl rfl (fun _ => ?_) (fun z => absurd trivial z)
        exact c_wayT R SL X O hn hnw K1 K0 g1 (by rw [e1]; exact g2) g3 hv (Or.inl ⟨e1, rfl⟩) (Or.inr ⟨k2, kl2, e2, rfl⟩) (wkC_y (by rw [hv]; exact Or.inl z28)) (w4.nx (by have := tkc (hv.trans z28) (by decide); omega))
      · refine wp_pure k_75 rfl rfl ?_
        refine wp_kn k_75 rfl rfl ?_
        refine wp_br k_75 rfl rfl rfl rfl (fun (z34 : ¬ kv = nI 61) => ?_) (fun (z34 : ¬ (¬ kv = nI 61)) => ?_)
        · refine wp_pure k_75 rfl rfl ?_
          refine wp_pure k_75 rfl rfl ?_
          refine wp_get k_75 rfl w4.2.2.2.2.1 w4.2.2.2.2.2.2.1 ?_
          refine wp_iv k_75 rfl [.int (nI (s3.1))] rfl w4.2.2.2.2.1 (r := []) (Nat.le_of_ble_eq_true rfl) (Nat.le_of_ble_eq_true rfl) rfl ?_
          refine c_refuse B w4 (fun h5 w5 => ⟨rfl, ?_⟩)
          exact c_wayT R SL X O hn hnw K1 K0 g1 (by rw [e1]; exact g2) g3 hv (Or.inl ⟨e1, rfl⟩) (Or.inr ⟨k2, kl2, e2, rfl⟩) (wkC_n (by rw [hv]; exact fun z => z.elim z28 z34)) w5
        · refine wp_pure k_75 rfl rfl ?_
          refine wp_pure k_75 rfl rfl ?_
          refine wp_get k_75 rfl w4.2.2.2.2.1 w4.2.2.2.2.2.2.1 ?_
          refine wp_kn k_75 rfl rfl ?_
          refine wp_addN k_75 rfl ?_
          refine wp_put k_75 rfl w4.2.2.2.2.1 rfl rfl ?_
          refine wp_br k_75 rfl rfl rfl rfl (fun _ => ?_) (fun z => absurd trivial z)
          exact c_wayT R SL X O hn hnw K1 K0 g1 (by rw [e1]; exact g2) g3 hv (Or.inl ⟨e1, rfl⟩) (Or.inr ⟨k2, kl2, e2, rfl⟩) (wkC_y (by rw [hv]; exact Or.inr (Classical.not_not.mp z34))) (w4.nx (by have := tkc (hv.trans (Classical.not_not.mp z34)) (by decide); omega))
  · refine wp_pure k_75 rfl rfl ?_
    refine wp_pure k_75 rfl rfl ?_
    refine wp_kn k_75 rfl rfl ?_
    refine wp_pure k_75 rfl rfl ?_
    refine wp_iv k_75 rfl [.int (nI 2), .ref (pa k1)] rfl w2.2.2.2.2.1 (r := []) (Nat.le_of_ble_eq_true rfl) (Nat.le_of_ble_eq_true rfl) rfl ?_
    refine c_used9b B w2 X O hD hzr kl1 (fun h3 n2 g2 e2 w3 => ⟨rfl, ?_⟩) (fun h3 n2 k2 g2 kl2 e2 w3 => ⟨rfl, ?_⟩)
    · refine wp_pure k_75 rfl rfl ?_
      refine wp_pure k_75 rfl rfl ?_
      refine wp_kn k_75 rfl rfl ?_
      refine wp_iv k_75 rfl [.int (nI 32)] rfl w3.2.2.2.2.1 (r := []) (Nat.le_of_ble_eq_true rfl) (Nat.le_of_ble_eq_true rfl) rfl ?_
      refine c_skip9 B w3 (by decide) (fun h4 s3 g3 w4 => ⟨rfl, ?_⟩)
      obtain ⟨kv, hv⟩ : ∃ kv, tk tx len s3.1 = kv := ⟨_, rfl⟩
      refine wp_pure k_75 rfl rfl ?_
      refine wp_iv k_75 rfl [] rfl w4.2.2.2.2.1 (r := []) (Nat.le_of_ble_eq_true rfl) (Nat.le_of_ble_eq_true rfl) rfl ?_
      refine c_peek B w4 hv ⟨rfl, ?_⟩
      refine wp_pure k_75 rfl rfl ?_
      refine wp_pure k_75 rfl rfl ?_
      refine wp_kn k_75 rfl rfl ?_
      refine wp_br k_75 rfl rfl rfl rfl (fun (z28 : kv = nI 62) => ?_) (fun (z28 : ¬ (kv = nI 62)) => ?_)
      · refine wp_pure k_75 rfl rfl ?_
        refine wp_pure k_75 rfl rfl ?_
        refine wp_get k_75 rfl w4.2.2.2.2.1 w4.2.2.2.2.2.2.1 ?_
        refine wp_kn k_75 rfl rfl ?_
        refine wp_addN k_75 rfl ?_
        refine wp_put k_75 rfl w4.2.2.2.2.1 rfl rfl ?_
        refine wp_br k_75 rfl rfl rfl rfl (fun _ => ?_) (fun z => absurd trivial z)
        exact c_wayT R SL X O hn hnw K1 K0 g1 (by rw [e1]; exact g2) g3 hv (Or.inr ⟨k1, kl1, e1, rfl⟩) (Or.inl ⟨e2, rfl⟩) (wkC_y (by rw [hv]; exact Or.inl z28)) (w4.nx (by have := tkc (hv.trans z28) (by decide); omega))
      · refine wp_pure k_75 rfl rfl ?_
        refine wp_kn k_75 rfl rfl ?_
        refine wp_br k_75 rfl rfl rfl rfl (fun (z34 : ¬ kv = nI 61) => ?_) (fun (z34 : ¬ (¬ kv = nI 61)) => ?_)
        · refine wp_pure k_75 rfl rfl ?_
          refine wp_pure k_75 rfl rfl ?_
          refine wp_get k_75 rfl w4.2.2.2.2.1 w4.2.2.2.2.2.2.1 ?_
          refine wp_iv k_75 rfl [.int (nI (s3.1))] rfl w4.2.2.2.2.1 (r := []) (Nat.le_of_ble_eq_true rfl) (Nat.le_of_ble_eq_true rfl) rfl ?_
          refine c_refuse B w4 (fun h5 w5 => ⟨rfl, ?_⟩)
          exact c_wayT R SL X O hn hnw K1 K0 g1 (by rw [e1]; exact g2) g3 hv (Or.inr ⟨k1, kl1, e1, rfl⟩) (Or.inl ⟨e2, rfl⟩) (wkC_n (by rw [hv]; exact fun z => z.elim z28 z34)) w5
        · refine wp_pure k_75 rfl rfl ?_
          refine wp_pure k_75 rfl rfl ?_
          refine wp_get k_75 rfl w4.2.2.2.2.1 w4.2.2.2.2.2.2.1 ?_
          refine wp_kn k_75 rfl rfl ?_
          refine wp_addN k_75 rfl ?_
          refine wp_put k_75 rfl w4.2.2.2.2.1 rfl rfl ?_
          refine wp_br k_75 rfl rfl rfl rfl (fun _ => ?_) (fun z => absurd trivial z)
          exact c_wayT R SL X O hn hnw K1 K0 g1 (by rw [e1]; exact g2) g3 hv (Or.inr ⟨k1, kl1, e1, rfl⟩) (Or.inl ⟨e2, rfl⟩) (wkC_y (by rw [hv]; exact Or.inr (Classical.not_not.mp z34))) (w4.nx (by have := tkc (hv.trans (Classical.not_not.mp z34)) (by decide); omega))
    · refine wp_pure k_75 rfl rfl ?_
      refine wp_pure k_75 rfl rfl ?_
      refine wp_kn k_75 rfl rfl ?_
      refine wp_iv k_75 rfl [.int (nI 32)] rfl w3.2.2.2.2.1 (r := []) (Nat.le_of_ble_eq_true rfl) (Nat.le_of_ble_eq_true rfl) rfl ?_
      refine c_skip9 B w3 (by decide) (fun h4 s3 g3 w4 => ⟨rfl, ?_⟩)
      obtain ⟨kv, hv⟩ : ∃ kv, tk tx len s3.1 = kv := ⟨_, rfl⟩
      refine wp_pure k_75 rfl rfl ?_
      refine wp_iv k_75 rfl [] rfl w4.2.2.2.2.1 (r := []) (Nat.le_of_ble_eq_true rfl) (Nat.le_of_ble_eq_true rfl) rfl ?_
      refine c_peek B w4 hv ⟨rfl, ?_⟩
      refine wp_pure k_75 rfl rfl ?_
      refine wp_pure k_75 rfl rfl ?_
      refine wp_kn k_75 rfl rfl ?_
      refine wp_br k_75 rfl rfl rfl rfl (fun (z28 : kv = nI 62) => ?_) (fun (z28 : ¬ (kv = nI 62)) => ?_)
      · refine wp_pure k_75 rfl rfl ?_
        refine wp_pure k_75 rfl rfl ?_
        refine wp_get k_75 rfl w4.2.2.2.2.1 w4.2.2.2.2.2.2.1 ?_
        refine wp_kn k_75 rfl rfl ?_
        refine wp_addN k_75 rfl ?_
        refine wp_put k_75 rfl w4.2.2.2.2.1 rfl rfl ?_
        refine wp_br k_75 rfl rfl rfl rfl (fun _ => ?_) (fun z => absurd trivial z)
        exact c_wayT R SL X O hn hnw K1 K0 g1 (by rw [e1]; exact g2) g3 hv (Or.inr ⟨k1, kl1, e1, rfl⟩) (Or.inr ⟨k2, kl2, e2, rfl⟩) (wkC_y (by rw [hv]; exact Or.inl z28)) (w4.nx (by have := tkc (hv.trans z28) (by decide); omega))
      · refine wp_pure k_75 rfl rfl ?_
        refine wp_kn k_75 rfl rfl ?_
        refine wp_br k_75 rfl rfl rfl rfl (fun (z34 : ¬ kv = nI 61) => ?_) (fun (z34 : ¬ (¬ kv = nI 61)) => ?_)
        · refine wp_pure k_75 rfl rfl ?_
          refine wp_pure k_75 rfl rfl ?_
          refine wp_get k_75 rfl w4.2.2.2.2.1 w4.2.2.2.2.2.2.1 ?_
          refine wp_iv k_75 rfl [.int (nI (s3.1))] rfl w4.2.2.2.2.1 (r := []) (Nat.le_of_ble_eq_true rfl) (Nat.le_of_ble_eq_true rfl) rfl ?_
          refine c_refuse B w4 (fun h5 w5 => ⟨rfl, ?_⟩)
          exact c_wayT R SL X O hn hnw K1 K0 g1 (by rw [e1]; exact g2) g3 hv (Or.inr ⟨k1, kl1, e1, rfl⟩) (Or.inr ⟨k2, kl2, e2, rfl⟩) (wkC_n (by rw [hv]; exact fun z => z.elim z28 z34)) w5
        · refine wp_pure k_75 rfl rfl ?_
          refine wp_pure k_75 rfl rfl ?_
          refine wp_get k_75 rfl w4.2.2.2.2.1 w4.2.2.2.2.2.2.1 ?_
          refine wp_kn k_75 rfl rfl ?_
          refine wp_addN k_75 rfl ?_
          refine wp_put k_75 rfl w4.2.2.2.2.1 rfl rfl ?_
          refine wp_br k_75 rfl rfl rfl rfl (fun _ => ?_) (fun z => absurd trivial z)
          exact c_wayT R SL X O hn hnw K1 K0 g1 (by rw [e1]; exact g2) g3 hv (Or.inr ⟨k1, kl1, e1, rfl⟩) (Or.inr ⟨k2, kl2, e2, rfl⟩) (wkC_y (by rw [hv]; exact Or.inr (Classical.not_not.mp z34))) (w4.nx (by have := tkc (hv.trans (Classical.not_not.mp z34)) (by decide); omega))
theorem c_srvT {h0 h : sm_H} {Q : Nat → Option Value → sm_H → Prop} {r sg sp ed len : Nat} {tx : Nat → Int32} {E : Ed} {p dT dU : Nat} (R : RS h0 h r sg sp ed len tx E (p, -1) dT dU) {esp sn lp ep : Nat} {sf pa : Nat → Nat} {bt : Nat → Nat → Nat} (SL : Lst h sp esp sn sf ∧ (esp = hZ h ∨ hT h0 ≤ esp)) (X : EdF h ed lp ep pa bt E (fun _ => nI 0)) (O : EdO h (dR h0 h r sp esp) ed lp ep pa E) (hn : E.1.length < 2 ^ 12) (hnw : E.2.2.length < 2 ^ 12) (K1 : ∀ a b q, srvM tx len (atP E.1 0) (atP E.1 1) E.1.length p = .ok (a, b, q) → ∀ h', RS h0 h' r sg sp ed len tx (E.1, E.2.1, E.2.2 ++ [(a, b)]) (q, -1) dT dU → Q 0 none h') (K0 : ∀ q, srvM tx len (atP E.1 0) (atP E.1 1) E.1.length p = .error q → ∀ h' s', RS h0 h' r sg sp ed len tx E s' dT dU → s'.2 = nI q → q ≤ len → Q 0 none h') {n1 n2 : Int32 × Nat × Int32} {v1 v2 : Value} {h3 : sm_H} (g1 : usC tx len (atP E.1 0) (atP E.1 1) E.1.length (nI 1) (-1) (p, -1) = n1) (g2 : usC tx len (atP E.1 0) (atP E.1 1) E.1.length (nI 2) (-1) n1.2 = n2) (q1 : VR pa E.1.length n1.1 v1) (q2 : VR pa E.1.length n2.1 v2) (w3 : RDW h h3 r len n2.2) : sm_wp 79 14 [.ref r, v1, v2] [] h3 Q := by
  have B := R.1
  have hB := B.2.2.2.2.2.2.2.2.2.2
  have hsl := R.2.1.2.2.2.2.2.2.2.2
  obtain ⟨c1, c0⟩ := srvC9 (by omega) hsl (by omega) g1 g2
  refine wp_pure k_79 rfl rfl ?_
  refine wp_iv k_79 rfl [] rfl w3.2.2.2.2.1 (r := []) (Nat.le_of_ble_eq_true rfl) (Nat.le_of_ble_eq_true rfl) rfl ?_
  refine c_ends B w3 (fun h6 w6 ok => ⟨rfl, ?_⟩) (fun h6 w6 ok => ⟨rfl, ?_⟩)
  · skip
    have hmo : ∃ z9, srvM tx len (atP E.1 0) (atP E.1 1) E.1.length p = .ok z9 := by
      cases hm : srvM tx len (atP E.1 0) (atP E.1 1) E.1.length p with
      | error q => exact absurd ((c0 q hm).1.symm.trans ok) (nI_nm1 (by have := (c0 q hm).2; omega))
      | ok z9 => exact ⟨z9, rfl⟩
    obtain ⟨⟨a, b, q⟩, hm⟩ := hmo
    obtain ⟨k1, k2, k4⟩ := c1 a b q hm
    rw [k4] at w6
    have R7 := R.rd w6
    obtain ⟨SL7, X7, O7, B7⟩ := R.rdx SL X O w6
    have o7 := srvM_ok hm
    have y1 := q1.y k1 o7.2.2.1 (by omega)
    subst y1
    have y2 := q2.y k2 o7.2.2.2.1 (by omega)
    subst y2
    refine wp_br k_79 rfl rfl rfl rfl (fun z => absurd z (show ¬ ((nI 1 : Int32) = 0) by decide)) (fun _ => ?_)
    refine wp_pure k_79 rfl rfl ?_
    refine wp_br k_79 rfl rfl rfl rfl (fun _ => ?_) (fun z => absurd trivial z)
    refine wp_pure k_79 rfl rfl ?_
    refine wp_br k_79 rfl rfl rfl rfl (fun _ => ?_) (fun z => absurd trivial z)
    refine wp_pure k_79 rfl rfl ?_
    refine wp_get k_79 rfl B7.1 B7.2.2.2.1 ?_
    refine wp_pure k_79 rfl rfl ?_
    refine wp_pure k_79 rfl rfl ?_
    refine wp_iv k_79 rfl [.ref (pa a), .ref (pa b)] rfl X7.1.1 (r := []) (Nat.le_of_ble_eq_true rfl) (Nat.le_of_ble_eq_true rfl) rfl ?_
    refine c_addServe R7 SL7 X7 O7 hnw o7.2.2.1 o7.2.2.2.1 (fun h8 R8 => ⟨rfl, ?_⟩)
    exact wp_vrt k_79 rfl rfl (K1 a b q hm h8 R8)
  · refine wp_br k_79 rfl rfl rfl rfl (fun _ => ?_) (fun z => absurd (show (nI 0 : Int32) = 0 by decide) z)
    cases hm : srvM tx len (atP E.1 0) (atP E.1 1) E.1.length p with
    | ok z9 =>
      obtain ⟨a, b, q⟩ := z9
      exact absurd (by rw [(c1 a b q hm).2.2]) ok
    | error q => exact wp_vrt k_79 rfl rfl (K0 q hm h6 _ (R.rd w6) (c0 q hm).1 (c0 q hm).2)
theorem c_srv9 {h0 h : sm_H} {Q : Nat → Option Value → sm_H → Prop} {r sg sp ed len : Nat} {tx : Nat → Int32} {E : Ed} {p dT dU : Nat} (R : RS h0 h r sg sp ed len tx E (p, -1) dT dU) (hn : E.1.length < 2 ^ 12) (hnw : E.2.2.length < 2 ^ 12) (K1 : ∀ a b q, srvM tx len (atP E.1 0) (atP E.1 1) E.1.length p = .ok (a, b, q) → ∀ h', RS h0 h' r sg sp ed len tx (E.1, E.2.1, E.2.2 ++ [(a, b)]) (q, -1) dT dU → Q 0 none h') (K0 : ∀ q, srvM tx len (atP E.1 0) (atP E.1 1) E.1.length p = .error q → ∀ h' s', RS h0 h' r sg sp ed len tx E s' dT dU → s'.2 = nI q → q ≤ len → Q 0 none h') : sm_wp 79 0 [.ref r, jk, jk] [] h Q := by
  obtain ⟨B, w, f, ⟨r1, r2, r3, r4, r5⟩, ⟨z1, z2⟩, esp, sn, sf, lp, ep, pa, bt, SL, X, O⟩ := id R
  have hD : ∀ a, dR h0 h r sp esp a → a ≠ r := fun a ha => ha.2.2.1
  have hDT : ∀ a, dR h0 h r sp esp a → a < hT h := fun a ha => ha.2.1
  have hT0 := f.1
  have hzr : hZ h ≠ r := by have := f.2.2.2.2.1; omega
  have hB := B.2.2.2.2.2.2.2.2.2.2
  have hsl := w.2.2.2.2.2.2.2.2
  refine wp_pure k_79 rfl rfl ?_
  refine wp_kn k_79 rfl rfl ?_
  refine wp_pure k_79 rfl rfl ?_
  refine wp_iv k_79 rfl [.int (nI 1), .null] rfl w.2.2.2.2.1 (r := []) (Nat.le_of_ble_eq_true rfl) (Nat.le_of_ble_eq_true rfl) rfl ?_
  refine c_used9n B w X O hD hzr (fun h2 n1 g1 e1 w2 => ⟨rfl, ?_⟩) (fun h2 n1 k1 g1 kl1 e1 w2 => ⟨rfl, ?_⟩)
  · refine wp_pure k_79 rfl rfl ?_
    refine wp_pure k_79 rfl rfl ?_
    refine wp_kn k_79 rfl rfl ?_
    refine wp_pure k_79 rfl rfl ?_
    refine wp_iv k_79 rfl [.int (nI 2), .null] rfl w2.2.2.2.2.1 (r := []) (Nat.le_of_ble_eq_true rfl) (Nat.le_of_ble_eq_true rfl) rfl ?_
    refine c_used9n B w2 X O hD hzr (fun h3 n2 g2 e2 w3 => ⟨rfl, ?_⟩) (fun h3 n2 k2 g2 kl2 e2 w3 => ⟨rfl, ?_⟩)
    · refine wp_pure k_79 rfl rfl ?_
      exact c_srvT R SL X O hn hnw K1 K0 g1 g2 (Or.inl ⟨e1, rfl⟩) (Or.inl ⟨e2, rfl⟩) w3
    · refine wp_pure k_79 rfl rfl ?_
      exact c_srvT R SL X O hn hnw K1 K0 g1 g2 (Or.inl ⟨e1, rfl⟩) (Or.inr ⟨k2, kl2, e2, rfl⟩) w3
  · refine wp_pure k_79 rfl rfl ?_
    refine wp_pure k_79 rfl rfl ?_
    refine wp_kn k_79 rfl rfl ?_
    refine wp_pure k_79 rfl rfl ?_
    refine wp_iv k_79 rfl [.int (nI 2), .null] rfl w2.2.2.2.2.1 (r := []) (Nat.le_of_ble_eq_true rfl) (Nat.le_of_ble_eq_true rfl) rfl ?_
    refine c_used9n B w2 X O hD hzr (fun h3 n2 g2 e2 w3 => ⟨rfl, ?_⟩) (fun h3 n2 k2 g2 kl2 e2 w3 => ⟨rfl, ?_⟩)
    · refine wp_pure k_79 rfl rfl ?_
      exact c_srvT R SL X O hn hnw K1 K0 g1 g2 (Or.inr ⟨k1, kl1, e1, rfl⟩) (Or.inl ⟨e2, rfl⟩) w3
    · refine wp_pure k_79 rfl rfl ?_
      exact c_srvT R SL X O hn hnw K1 K0 g1 g2 (Or.inr ⟨k1, kl1, e1, rfl⟩) (Or.inr ⟨k2, kl2, e2, rfl⟩) w3
