theorem min_i {a : Nat} (ha : a < 2 ^ 31) : (if nI 1000 < nI a then nI 1000 else nI a) = nI (min a 1000) := by
  by_cases q : 1000 < a
  · rw [if_pos ((nI_ltI (by decide) ha).mpr q)]; congr 1; omega
  · rw [if_neg (fun z => q ((nI_ltI (by decide) ha).mp z))]; congr 1; omega
theorem c_numL {h : sm_H} {Q : Nat → Option Value → sm_H → Prop} {r sg sp ed len : Nat} {tx : Nat → Int32} (B : RB h r sg sp ed len tx) {q lo hi : Int32} {s0 : Nat} (hs31 : s0 < 2 ^ 31) {R : Nat × Nat} (K : ∀ h2, RDW h h2 r len (R.2, q) → sm_wp 70 102 [.ref r, .int lo, .int hi, .int (nI s0), .int (nI R.1), .int (nI R.2)] [] h2 Q) : ∀ (f p v : Nat) (h1 : sm_H), RDW h h1 r len (p, q) → len ≤ p + f → v ≤ 1000 → ncL tx len s0 f p v = R → sm_wp 70 35 [.ref r, .int lo, .int hi, .int (nI s0), .int (nI v), .int (nI p)] [] h1 Q := by
  have hB := B.2.2.2.2.2.2.2.2.2.2
  have sgr : sg ≠ r := kne B.2.2.2.2.2.1 B.1 (by decide)
  intro f
  induction f with
  | zero =>
    intro p v h1 w hf hv e
    have hs9 : p ≤ len := w.2.2.2.2.2.2.2.2
    have hp : p = len := by omega
    subst hp
    refine wp_pure k_70 rfl rfl ?_
    refine wp_pure k_70 rfl rfl ?_
    refine wp_get k_70 rfl w.2.2.2.2.1 ((w.2.2.2.2.2.1 1025 (by decide) (by decide)).trans B.2.2.1) ?_
    refine wp_br k_70 rfl rfl rfl rfl (fun _ => ?_) (fun z => absurd (Int32.le_refl _) z)
    rw [← e] at K
    exact K h1 w
  | succ f ih =>
    intro p v h1 w hf hv e
    have hs9 : p ≤ len := w.2.2.2.2.2.2.2.2
    by_cases hdg : isDg (tk tx len p) ∧ (p = s0 ∨ 0 < v)
    · have hpl := isDg_lt hdg.1
      obtain ⟨d9, dE, _⟩ := dgV hdg.1
      generalize hdd : (tk tx len p).toNatClampNeg - 48 = d at *
      rw [show ncL tx len s0 (f + 1) p v = _ from if_pos hdg, hdd] at e
      have em := min_i (a := v * 10 + (48 + d) - 48) (by omega)
      have em2 : min (v * 10 + (48 + d) - 48) 1000 = min (10 * v + d) 1000 := by omega
      rcases Classical.em (p = s0) with hps | hps
      · skip
        refine wp_pure k_70 rfl rfl ?_
        refine wp_pure k_70 rfl rfl ?_
        refine wp_get k_70 rfl w.2.2.2.2.1 ((w.2.2.2.2.2.1 1025 (by decide) (by decide)).trans B.2.2.1) ?_
        refine wp_br k_70 rfl rfl rfl rfl (fun z => absurd z (nI_ge hpl (by omega))) (fun _ => ?_)
        refine wp_pure k_70 rfl rfl ?_
        refine wp_iv k_70 rfl [] rfl w.2.2.2.2.1 (r := []) (Nat.le_of_ble_eq_true rfl) (Nat.le_of_ble_eq_true rfl) rfl ?_
        refine c_peek B w rfl ⟨rfl, ?_⟩
        refine wp_is k_70 rfl (by decide) [.int (tk tx len p)] rfl (r := []) (Nat.le_of_ble_eq_true rfl) (Nat.le_of_ble_eq_true rfl) rfl ?_
        refine c_isDg (fun _ => ⟨rfl, ?_⟩) (fun z => absurd hdg.1 z)
        refine wp_br k_70 rfl rfl rfl rfl (fun z => absurd z (show ¬ ((nI 1 : Int32) = 0) by decide)) (fun _ => ?_)
        refine wp_pure k_70 rfl rfl ?_
        refine wp_pure k_70 rfl rfl ?_
        refine wp_br k_70 rfl rfl rfl rfl (fun _ => ?_) (fun z => absurd (congrArg nI hps) z)
        refine wp_pure k_70 rfl rfl ?_
        refine wp_kn k_70 rfl rfl ?_
        refine wp_mulN k_70 rfl ?_
        refine wp_pure k_70 rfl rfl ?_
        refine wp_iv k_70 rfl [] rfl w.2.2.2.2.1 (r := [.int (nI (v * 10))]) (Nat.le_of_ble_eq_true rfl) (Nat.le_of_ble_eq_true rfl) rfl ?_
        refine c_peek B w (v := nI (48 + d)) dE ⟨rfl, ?_⟩
        refine wp_addN k_70 rfl ?_
        refine wp_kn k_70 rfl rfl ?_
        refine wp_subN k_70 rfl (by omega) ?_
        refine wp_kn k_70 rfl rfl ?_
        refine wp_mm k_70 rfl rfl ?_
        refine wp_pure k_70 rfl rfl ?_
        refine wp_pure k_70 rfl rfl ?_
        refine wp_pure k_70 rfl rfl ?_
        refine wp_get k_70 rfl w.2.2.2.2.1 w.2.2.2.2.2.2.1 ?_
        refine wp_kn k_70 rfl rfl ?_
        refine wp_addN k_70 rfl ?_
        refine wp_put k_70 rfl w.2.2.2.2.1 rfl rfl ?_
        refine wp_inc k_70 rfl rfl rfl ?_
        refine wp_br k_70 rfl rfl rfl rfl (fun _ => ?_) (fun z => absurd trivial z)
        show sm_wp 70 35 [.ref r, .int lo, .int hi, .int (nI s0), .int (if nI 1000 < nI (v * 10 + (48 + d) - 48) then nI 1000 else nI (v * 10 + (48 + d) - 48)), .int (nI (p + 1))] [] (putF h1 1028 r (.int (nI (p + 1)))) Q
        rw [em, em2]
        exact ih (p + 1) _ _ (w.nx hpl) (by omega) (by omega) e
      · have hv0 : 0 < v := hdg.2.resolve_left hps
        refine wp_pure k_70 rfl rfl ?_
        refine wp_pure k_70 rfl rfl ?_
        refine wp_get k_70 rfl w.2.2.2.2.1 ((w.2.2.2.2.2.1 1025 (by decide) (by decide)).trans B.2.2.1) ?_
        refine wp_br k_70 rfl rfl rfl rfl (fun z => absurd z (nI_ge hpl (by omega))) (fun _ => ?_)
        refine wp_pure k_70 rfl rfl ?_
        refine wp_iv k_70 rfl [] rfl w.2.2.2.2.1 (r := []) (Nat.le_of_ble_eq_true rfl) (Nat.le_of_ble_eq_true rfl) rfl ?_
        refine c_peek B w rfl ⟨rfl, ?_⟩
        refine wp_is k_70 rfl (by decide) [.int (tk tx len p)] rfl (r := []) (Nat.le_of_ble_eq_true rfl) (Nat.le_of_ble_eq_true rfl) rfl ?_
        refine c_isDg (fun _ => ⟨rfl, ?_⟩) (fun z => absurd hdg.1 z)
        refine wp_br k_70 rfl rfl rfl rfl (fun z => absurd z (show ¬ ((nI 1 : Int32) = 0) by decide)) (fun _ => ?_)
        refine wp_pure k_70 rfl rfl ?_
        refine wp_pure k_70 rfl rfl ?_
        refine wp_br k_70 rfl rfl rfl rfl (fun z => absurd z (fun z => hps ((nI_eq (by omega) hs31).mp z))) (fun _ => ?_)
        refine wp_pure k_70 rfl rfl ?_
        refine wp_br k_70 rfl rfl rfl rfl (fun z => absurd z (show ¬ (nI v ≤ 0) from (fun z => absurd ((nI_leI (a := v) (b := 0) (by omega) (by decide)).mp z) (by omega)))) (fun _ => ?_)
        refine wp_pure k_70 rfl rfl ?_
        refine wp_kn k_70 rfl rfl ?_
        refine wp_mulN k_70 rfl ?_
        refine wp_pure k_70 rfl rfl ?_
        refine wp_iv k_70 rfl [] rfl w.2.2.2.2.1 (r := [.int (nI (v * 10))]) (Nat.le_of_ble_eq_true rfl) (Nat.le_of_ble_eq_true rfl) rfl ?_
        refine c_peek B w (v := nI (48 + d)) dE ⟨rfl, ?_⟩
        refine wp_addN k_70 rfl ?_
        refine wp_kn k_70 rfl rfl ?_
        refine wp_subN k_70 rfl (by omega) ?_
        refine wp_kn k_70 rfl rfl ?_
        refine wp_mm k_70 rfl rfl ?_
        refine wp_pure k_70 rfl rfl ?_
        refine wp_pure k_70 rfl rfl ?_
        refine wp_pure k_70 rfl rfl ?_
        refine wp_get k_70 rfl w.2.2.2.2.1 w.2.2.2.2.2.2.1 ?_
        refine wp_kn k_70 rfl rfl ?_
        refine wp_addN k_70 rfl ?_
        refine wp_put k_70 rfl w.2.2.2.2.1 rfl rfl ?_
        refine wp_inc k_70 rfl rfl rfl ?_
        refine wp_br k_70 rfl rfl rfl rfl (fun _ => ?_) (fun z => absurd trivial z)
        show sm_wp 70 35 [.ref r, .int lo, .int hi, .int (nI s0), .int (if nI 1000 < nI (v * 10 + (48 + d) - 48) then nI 1000 else nI (v * 10 + (48 + d) - 48)), .int (nI (p + 1))] [] (putF h1 1028 r (.int (nI (p + 1)))) Q
        rw [em, em2]
        exact ih (p + 1) _ _ (w.nx hpl) (by omega) (by omega) e
    · rw [show ncL tx len s0 (f + 1) p v = (v, p) from if_neg hdg] at e
      rw [← e] at K
      by_cases hpl : p < len
      · by_cases hd2 : isDg (tk tx len p)
        · have hps : ¬ p = s0 := fun z => hdg ⟨hd2, Or.inl z⟩
          have hv0 : v = 0 := by
            have : ¬ 0 < v := fun z => hdg ⟨hd2, Or.inr z⟩
            omega
          refine wp_pure k_70 rfl rfl ?_
          refine wp_pure k_70 rfl rfl ?_
          refine wp_get k_70 rfl w.2.2.2.2.1 ((w.2.2.2.2.2.1 1025 (by decide) (by decide)).trans B.2.2.1) ?_
          refine wp_br k_70 rfl rfl rfl rfl (fun z => absurd z (nI_ge hpl (by omega))) (fun _ => ?_)
          refine wp_pure k_70 rfl rfl ?_
          refine wp_iv k_70 rfl [] rfl w.2.2.2.2.1 (r := []) (Nat.le_of_ble_eq_true rfl) (Nat.le_of_ble_eq_true rfl) rfl ?_
          refine c_peek B w rfl ⟨rfl, ?_⟩
          refine wp_is k_70 rfl (by decide) [.int (tk tx len p)] rfl (r := []) (Nat.le_of_ble_eq_true rfl) (Nat.le_of_ble_eq_true rfl) rfl ?_
          refine c_isDg (fun _ => ⟨rfl, ?_⟩) (fun z => absurd hd2 z)
          refine wp_br k_70 rfl rfl rfl rfl (fun z => absurd z (show ¬ ((nI 1 : Int32) = 0) by decide)) (fun _ => ?_)
          refine wp_pure k_70 rfl rfl ?_
          refine wp_pure k_70 rfl rfl ?_
          refine wp_br k_70 rfl rfl rfl rfl (fun z => absurd z (fun z => hps ((nI_eq (by omega) hs31).mp z))) (fun _ => ?_)
          refine wp_pure k_70 rfl rfl ?_
          refine wp_br k_70 rfl rfl rfl rfl (fun _ => ?_) (fun z => absurd (by rw [hv0]; exact Int32.le_refl _) z)
          exact K h1 w
        · skip
          refine wp_pure k_70 rfl rfl ?_
          refine wp_pure k_70 rfl rfl ?_
          refine wp_get k_70 rfl w.2.2.2.2.1 ((w.2.2.2.2.2.1 1025 (by decide) (by decide)).trans B.2.2.1) ?_
          refine wp_br k_70 rfl rfl rfl rfl (fun z => absurd z (nI_ge hpl (by omega))) (fun _ => ?_)
          refine wp_pure k_70 rfl rfl ?_
          refine wp_iv k_70 rfl [] rfl w.2.2.2.2.1 (r := []) (Nat.le_of_ble_eq_true rfl) (Nat.le_of_ble_eq_true rfl) rfl ?_
          refine c_peek B w rfl ⟨rfl, ?_⟩
          refine wp_is k_70 rfl (by decide) [.int (tk tx len p)] rfl (r := []) (Nat.le_of_ble_eq_true rfl) (Nat.le_of_ble_eq_true rfl) rfl ?_
          refine c_isDg (fun z => absurd z hd2) (fun _ => ⟨rfl, ?_⟩)
          refine wp_br k_70 rfl rfl rfl rfl (fun _ => ?_) (fun z => absurd (show (nI 0 : Int32) = 0 by decide) z)
          exact K h1 w
      · skip
        refine wp_pure k_70 rfl rfl ?_
        refine wp_pure k_70 rfl rfl ?_
        refine wp_get k_70 rfl w.2.2.2.2.1 ((w.2.2.2.2.2.1 1025 (by decide) (by decide)).trans B.2.2.1) ?_
        refine wp_br k_70 rfl rfl rfl rfl (fun _ => ?_) (fun z => absurd ((nI_leI (by omega) (by omega)).mpr (by omega)) z)
        exact K h1 w
theorem c_num {h h1 : sm_H} {Q : Nat → Option Value → sm_H → Prop} {r sg sp ed len : Nat} {tx : Nat → Int32} (B : RB h r sg sp ed len tx) {s : Nat × Int32} (w : RDW h h1 r len s) {lo hi : Int32} (K : ∀ h2, RDW h h2 r len (nuC tx len lo hi s).2 → Q 0 (some (.int (nI (nuC tx len lo hi s).1))) h2) : sm_wp 70 0 [.ref r, .int lo, .int hi, jk, jk, jk] [] h1 Q := by
  have hB := B.2.2.2.2.2.2.2.2.2.2
  have hs9 := w.2.2.2.2.2.2.2.2
  have sgr : sg ≠ r := kne B.2.2.2.2.2.1 B.1 (by decide)
  generalize hs1 : skC tx len (nI 32) s = s1 at *
  have hK : ∀ h2, RDW h h2 r len ((ncL tx len s1.1 len s1.1 0).2, @ite _ (nI (ncL tx len s1.1 len s1.1 0).1 < lo ∨ hi < nI (ncL tx len s1.1 len s1.1 0).1) (Classical.propDecidable _) (rfC (@ite _ (isDg (tk tx len s1.1)) (Classical.propDecidable _) s1.2 (rfC s1.2 s1.1)) s1.1) (@ite _ (isDg (tk tx len s1.1)) (Classical.propDecidable _) s1.2 (rfC s1.2 s1.1))) → Q 0 (some (.int (nI (ncL tx len s1.1 len s1.1 0).1))) h2 := by
    intro h2 w2
    have k := K h2
    unfold nuC at k
    rw [hs1] at k
    exact k w2
  clear K
  have tail : ∀ h3, RDW h h3 r len (s1.1, @ite _ (isDg (tk tx len s1.1)) (Classical.propDecidable _) s1.2 (rfC s1.2 s1.1)) → sm_wp 70 35 [.ref r, .int lo, .int hi, .int (nI s1.1), .int (nI 0), .int (nI s1.1)] [] h3 Q := by
    intro h3 w3
    have hs8 : s1.1 ≤ len := w3.2.2.2.2.2.2.2.2
    generalize hq1 : @ite _ (isDg (tk tx len s1.1)) (Classical.propDecidable _) s1.2 (rfC s1.2 s1.1) = q1 at *
    refine c_numL B (by omega) (fun h4 w4 => ?_) len s1.1 0 h3 w3 (by omega) (by omega) rfl
    generalize ncL tx len s1.1 len s1.1 0 = R at *
    refine wp_pure k_70 rfl rfl ?_
    refine wp_pure k_70 rfl rfl ?_
    refine wp_br k_70 rfl rfl rfl rfl (fun (z105 : nI (R.1) < lo) => ?_) (fun (z105 : ¬ (nI (R.1) < lo)) => ?_)
    · refine wp_pure k_70 rfl rfl ?_
      refine wp_pure k_70 rfl rfl ?_
      refine wp_iv k_70 rfl [.int (nI (s1.1))] rfl w4.2.2.2.2.1 (r := []) (Nat.le_of_ble_eq_true rfl) (Nat.le_of_ble_eq_true rfl) rfl ?_
      refine c_refuse B w4 (fun h5 w5 => ⟨rfl, ?_⟩)
      refine wp_pure k_70 rfl rfl ?_
      rw [if_pos (Or.inl z105)] at hK
      exact wp_irt k_70 rfl rfl rfl (hK h5 w5)
    · refine wp_pure k_70 rfl rfl ?_
      refine wp_pure k_70 rfl rfl ?_
      refine wp_br k_70 rfl rfl rfl rfl (fun (z111 : nI (R.1) ≤ hi) => ?_) (fun (z111 : ¬ (nI (R.1) ≤ hi)) => ?_)
      · refine wp_pure k_70 rfl rfl ?_
        rw [if_neg (fun z => z.elim z105 (Int32.not_lt.mpr z111))] at hK
        exact wp_irt k_70 rfl rfl rfl (hK h4 w4)
      · refine wp_pure k_70 rfl rfl ?_
        refine wp_pure k_70 rfl rfl ?_
        refine wp_iv k_70 rfl [.int (nI (s1.1))] rfl w4.2.2.2.2.1 (r := []) (Nat.le_of_ble_eq_true rfl) (Nat.le_of_ble_eq_true rfl) rfl ?_
        refine c_refuse B w4 (fun h5 w5 => ⟨rfl, ?_⟩)
        refine wp_pure k_70 rfl rfl ?_
        rw [if_pos (Or.inr (Int32.not_le.mp z111))] at hK
        exact wp_irt k_70 rfl rfl rfl (hK h5 w5)
  refine wp_pure k_70 rfl rfl ?_
  refine wp_kn k_70 rfl rfl ?_
  refine wp_iv k_70 rfl [.int (nI 32)] rfl w.2.2.2.2.1 (r := []) (Nat.le_of_ble_eq_true rfl) (Nat.le_of_ble_eq_true rfl) rfl ?_
  refine c_skip B w (by decide) (fun h6 w6 => ⟨rfl, ?_⟩)
  rw [hs1] at w6
  refine wp_pure k_70 rfl rfl ?_
  refine wp_get k_70 rfl w6.2.2.2.2.1 w6.2.2.2.2.2.2.1 ?_
  refine wp_pure k_70 rfl rfl ?_
  refine wp_pure k_70 rfl rfl ?_
  refine wp_iv k_70 rfl [] rfl w6.2.2.2.2.1 (r := []) (Nat.le_of_ble_eq_true rfl) (Nat.le_of_ble_eq_true rfl) rfl ?_
  refine c_peek B w6 rfl ⟨rfl, ?_⟩
  refine wp_is k_70 rfl (by decide) [.int (tk tx len s1.1)] rfl (r := []) (Nat.le_of_ble_eq_true rfl) (Nat.le_of_ble_eq_true rfl) rfl ?_
  refine c_isDg (fun zd => ⟨rfl, ?_⟩) (fun zd => ⟨rfl, ?_⟩)
  · refine wp_br k_70 rfl rfl rfl rfl (fun _ => ?_) (fun z => absurd (show ¬ (nI 1 : Int32) = 0 by decide) z)
    refine wp_kn k_70 rfl rfl ?_
    refine wp_pure k_70 rfl rfl ?_
    refine wp_pure k_70 rfl rfl ?_
    refine wp_pure k_70 rfl rfl ?_
    exact tail _ (by rw [if_pos zd]; exact w6)
  · refine wp_br k_70 rfl rfl rfl rfl (fun z => absurd z (show ¬ (¬ (nI 0 : Int32) = 0) by decide)) (fun _ => ?_)
    refine wp_pure k_70 rfl rfl ?_
    refine wp_pure k_70 rfl rfl ?_
    refine wp_get k_70 rfl w6.2.2.2.2.1 w6.2.2.2.2.2.2.1 ?_
    refine wp_iv k_70 rfl [.int (nI (s1.1))] rfl w6.2.2.2.2.1 (r := []) (Nat.le_of_ble_eq_true rfl) (Nat.le_of_ble_eq_true rfl) rfl ?_
    refine c_refuse B w6 (fun h7 w7 => ⟨rfl, ?_⟩)
    refine wp_kn k_70 rfl rfl ?_
    refine wp_pure k_70 rfl rfl ?_
    refine wp_pure k_70 rfl rfl ?_
    refine wp_pure k_70 rfl rfl ?_
    exact tail _ (by rw [if_neg zd]; exact w7)
