/-! THE CLASS's READER in the heap -/
def RB (h : sm_H) (r sg sp ed len : Nat) (tx : Nat → Int32) : Prop := hC h r = 24 ∧ hF h 1024 r = .ref sg ∧ hF h 1025 r = .int (nI len) ∧ hF h 1026 r = .ref ed ∧ hF h 1027 r = .ref sp ∧ hC h sg = 3 ∧ hL h sg = 3000 ∧ (∀ i, i < len → hA h sg i = .int (tx i)) ∧ hC h sp = 26 ∧ True ∧ len ≤ 600
def RDW (h h1 : sm_H) (r len : Nat) (s : Nat × Int32) : Prop := hT h1 = hT h ∧ hU h1 = hU h ∧ hZ h1 = hZ h ∧ (∀ a, a ≠ r → samA h h1 a) ∧ hC h1 r = 24 ∧ (∀ f, f ≠ 1028 → f ≠ 1029 → hF h1 f r = hF h f r) ∧ hF h1 1028 r = .int (nI s.1) ∧ hF h1 1029 r = .int s.2 ∧ s.1 ≤ len
theorem RDW.nx {h h1 : sm_H} {r len p : Nat} {s : Nat × Int32} (w : RDW h h1 r len s) (hp : p ≤ len) : RDW h (putF h1 1028 r (.int (nI p))) r len (p, s.2) := by
  obtain ⟨a1, a2, a3, a4, a5, a6, a7, a8, a9⟩ := w
  exact ⟨a1, a2, a3, fun a q => (a4 a q).trans (samA.putF q), a5, fun f q1 q2 => (hF_putF_f q1).trans (a6 f q1 q2), hF_putF, (hF_putF_f (by decide)).trans a8, hp⟩
theorem RDW.rf {h h1 : sm_H} {r len : Nat} {s : Nat × Int32} {v : Int32} (w : RDW h h1 r len s) : RDW h (putF h1 1029 r (.int v)) r len (s.1, v) := by
  obtain ⟨a1, a2, a3, a4, a5, a6, a7, a8, a9⟩ := w
  exact ⟨a1, a2, a3, fun a q => (a4 a q).trans (samA.putF q), a5, fun f q1 q2 => (hF_putF_f q2).trans (a6 f q1 q2), (hF_putF_f (by decide)).trans a7, hF_putF, a9⟩
theorem c_peek {h h1 : sm_H} {Q : Nat → Option Value → sm_H → Prop} {r sg sp ed len : Nat} {tx : Nat → Int32} (B : RB h r sg sp ed len tx) {s : Nat × Int32} (w : RDW h h1 r len s) {v : Int32} (hv : tk tx len s.1 = v) (K : Q 0 (some (.int v)) h1) : sm_wp 60 0 [.ref r] [] h1 Q := by
  have hB := B.2.2.2.2.2.2.2.2.2.2
  have hs9 := w.2.2.2.2.2.2.2.2
  have sgr : sg ≠ r := kne B.2.2.2.2.2.1 B.1 (by decide)
  refine wp_pure k_60 rfl rfl ?_
  refine wp_get k_60 rfl w.2.2.2.2.1 w.2.2.2.2.2.2.1 ?_
  refine wp_pure k_60 rfl rfl ?_
  refine wp_get k_60 rfl w.2.2.2.2.1 ((w.2.2.2.2.2.1 1025 (by decide) (by decide)).trans B.2.2.1) ?_
  refine wp_br k_60 rfl rfl rfl rfl (fun (z8 : nI len ≤ nI (s.1)) => ?_) (fun (z8 : ¬ (nI len ≤ nI (s.1))) => ?_)
  · have y8 : len ≤ s.1 := yLe (by omega) (by omega) z8
    refine wp_km k_60 rfl rfl ?_
    rw [← hv, tk_end y8] at K
    exact wp_irt k_60 rfl rfl rfl K
  · have y8 : s.1 < len := yNLe (by omega) (by omega) z8
    refine wp_pure k_60 rfl rfl ?_
    refine wp_get k_60 rfl w.2.2.2.2.1 ((w.2.2.2.2.2.1 1024 (by decide) (by decide)).trans B.2.1) ?_
    refine wp_pure k_60 rfl rfl ?_
    refine wp_get k_60 rfl w.2.2.2.2.1 w.2.2.2.2.2.2.1 ?_
    refine wp_cald k_60 rfl (cTy ((w.2.2.2.1 sg sgr).1.trans B.2.2.2.2.2.1) rfl) (nLt ((w.2.2.2.1 sg sgr).2.1.trans B.2.2.2.2.2.2.1) (show s.1 < 3000 by omega)) (nLb ((w.2.2.2.1 sg sgr).2.1.trans B.2.2.2.2.2.2.1) (by omega)) (((w.2.2.2.1 sg sgr).2.2.2 _).trans (B.2.2.2.2.2.2.2.1 (s.1) (by omega))) ?_
    refine wp_br k_60 rfl rfl rfl rfl (fun _ => ?_) (fun z => absurd trivial z)
    rw [← hv, tk_in y8] at K
    exact wp_irt k_60 rfl rfl rfl K
theorem c_refuse {h h1 : sm_H} {Q : Nat → Option Value → sm_H → Prop} {r sg sp ed len : Nat} {tx : Nat → Int32} (B : RB h r sg sp ed len tx) {s : Nat × Int32} (w : RDW h h1 r len s) {p : Nat} (K : ∀ h2, RDW h h2 r len (s.1, rfC s.2 p) → Q 0 none h2) : sm_wp 64 0 [.ref r, .int (nI p)] [] h1 Q := by
  have sgr : sg ≠ r := kne B.2.2.2.2.2.1 B.1 (by decide)
  unfold rfC at K
  refine wp_pure k_64 rfl rfl ?_
  refine wp_get k_64 rfl w.2.2.2.2.1 w.2.2.2.2.2.2.2.1 ?_
  refine wp_km k_64 rfl rfl ?_
  refine wp_br k_64 rfl rfl rfl rfl (fun (z5 : ¬ s.2 = -1) => ?_) (fun (z5 : ¬ (¬ s.2 = -1)) => ?_)
  · rw [if_neg z5] at K
    exact wp_vrt k_64 rfl rfl (K h1 w)
  · refine wp_pure k_64 rfl rfl ?_
    refine wp_pure k_64 rfl rfl ?_
    refine wp_put k_64 rfl w.2.2.2.2.1 rfl rfl ?_
    rw [if_pos (Classical.not_not.mp z5)] at K
    exact wp_vrt k_64 rfl rfl (K _ w.rf)
theorem c_skip {h h1 : sm_H} {Q : Nat → Option Value → sm_H → Prop} {r sg sp ed len : Nat} {tx : Nat → Int32} (B : RB h r sg sp ed len tx) {s : Nat × Int32} (w : RDW h h1 r len s) {c : Int32} (hc : c ≠ -1) (K : ∀ h2, RDW h h2 r len (skC tx len c s) → Q 0 none h2) : sm_wp 63 0 [.ref r, .int c] [] h1 Q := by
  have hB := B.2.2.2.2.2.2.2.2.2.2
  have hs9 := w.2.2.2.2.2.2.2.2
  have sgr : sg ≠ r := kne B.2.2.2.2.2.1 B.1 (by decide)
  unfold skC at K
  refine wp_pure k_63 rfl rfl ?_
  refine wp_iv k_63 rfl [] rfl w.2.2.2.2.1 (r := []) (Nat.le_of_ble_eq_true rfl) (Nat.le_of_ble_eq_true rfl) rfl ?_
  refine c_peek B w rfl ⟨rfl, ?_⟩
  refine wp_pure k_63 rfl rfl ?_
  refine wp_br k_63 rfl rfl rfl rfl (fun (z5 : ¬ tk tx len s.1 = c) => ?_) (fun (z5 : ¬ (¬ tk tx len s.1 = c)) => ?_)
  · refine wp_pure k_63 rfl rfl ?_
    refine wp_pure k_63 rfl rfl ?_
    refine wp_get k_63 rfl w.2.2.2.2.1 w.2.2.2.2.2.2.1 ?_
    refine wp_iv k_63 rfl [.int (nI (s.1))] rfl w.2.2.2.2.1 (r := []) (Nat.le_of_ble_eq_true rfl) (Nat.le_of_ble_eq_true rfl) rfl ?_
    refine c_refuse B w (fun h2 w2 => ⟨rfl, ?_⟩)
    rw [if_neg z5] at K
    exact wp_vrt k_63 rfl rfl (K _ w2)
  · refine wp_pure k_63 rfl rfl ?_
    refine wp_pure k_63 rfl rfl ?_
    refine wp_get k_63 rfl w.2.2.2.2.1 w.2.2.2.2.2.2.1 ?_
    refine wp_kn k_63 rfl rfl ?_
    refine wp_addN k_63 rfl ?_
    refine wp_put k_63 rfl w.2.2.2.2.1 rfl rfl ?_
    refine wp_br k_63 rfl rfl rfl rfl (fun _ => ?_) (fun z => absurd trivial z)
    have zz := Classical.not_not.mp z5
    rw [if_pos zz] at K
    exact wp_vrt k_63 rfl rfl (K _ (w.nx (tkc zz hc)))
theorem c_isLt {h1 : sm_H} {Q : Nat → Option Value → sm_H → Prop} {c : Int32} (K1 : isLt c → Q 0 (some (.int (nI 1))) h1) (K0 : ¬ isLt c → Q 0 (some (.int (nI 0))) h1) : sm_wp 66 0 [.int c] [] h1 Q := by
  refine wp_pure k_66 rfl rfl ?_
  refine wp_kn k_66 rfl rfl ?_
  refine wp_br k_66 rfl rfl rfl rfl (fun (z3 : c < nI 97) => ?_) (fun (z3 : ¬ (c < nI 97)) => ?_)
  · refine wp_kn k_66 rfl rfl ?_
    exact wp_irt k_66 rfl rfl rfl (K0 (fun q => Int32.not_le.mpr z3 q.1))
  · refine wp_pure k_66 rfl rfl ?_
    refine wp_kn k_66 rfl rfl ?_
    refine wp_br k_66 rfl rfl rfl rfl (fun (z9 : nI 122 < c) => ?_) (fun (z9 : ¬ (nI 122 < c)) => ?_)
    · refine wp_kn k_66 rfl rfl ?_
      exact wp_irt k_66 rfl rfl rfl (K0 (fun q => Int32.not_le.mpr z9 q.2))
    · refine wp_kn k_66 rfl rfl ?_
      refine wp_br k_66 rfl rfl rfl rfl (fun _ => ?_) (fun z => absurd trivial z)
      exact wp_irt k_66 rfl rfl rfl (K1 ⟨Int32.not_lt.mp z3, Int32.not_lt.mp z9⟩)
theorem c_isDg {h1 : sm_H} {Q : Nat → Option Value → sm_H → Prop} {c : Int32} (K1 : isDg c → Q 0 (some (.int (nI 1))) h1) (K0 : ¬ isDg c → Q 0 (some (.int (nI 0))) h1) : sm_wp 68 0 [.int c] [] h1 Q := by
  refine wp_pure k_68 rfl rfl ?_
  refine wp_kn k_68 rfl rfl ?_
  refine wp_br k_68 rfl rfl rfl rfl (fun (z3 : c < nI 48) => ?_) (fun (z3 : ¬ (c < nI 48)) => ?_)
  · refine wp_kn k_68 rfl rfl ?_
    exact wp_irt k_68 rfl rfl rfl (K0 (fun q => Int32.not_le.mpr z3 q.1))
  · refine wp_pure k_68 rfl rfl ?_
    refine wp_kn k_68 rfl rfl ?_
    refine wp_br k_68 rfl rfl rfl rfl (fun (z9 : nI 57 < c) => ?_) (fun (z9 : ¬ (nI 57 < c)) => ?_)
    · refine wp_kn k_68 rfl rfl ?_
      exact wp_irt k_68 rfl rfl rfl (K0 (fun q => Int32.not_le.mpr z9 q.2))
    · refine wp_kn k_68 rfl rfl ?_
      refine wp_br k_68 rfl rfl rfl rfl (fun _ => ?_) (fun z => absurd trivial z)
      exact wp_irt k_68 rfl rfl rfl (K1 ⟨Int32.not_lt.mp z3, Int32.not_lt.mp z9⟩)
theorem c_isNs {h1 : sm_H} {Q : Nat → Option Value → sm_H → Prop} {c : Int32} (K1 : isLt c ∨ isDg c → Q 0 (some (.int (nI 1))) h1) (K0 : ¬ (isLt c ∨ isDg c) → Q 0 (some (.int (nI 0))) h1) : sm_wp 67 0 [.int c] [] h1 Q := by
  refine wp_pure k_67 rfl rfl ?_
  refine wp_is k_67 rfl (by decide) [.int c] rfl (r := []) (Nat.le_of_ble_eq_true rfl) (Nat.le_of_ble_eq_true rfl) rfl ?_
  refine c_isLt (fun zl => ⟨rfl, ?_⟩) (fun zl => ⟨rfl, ?_⟩)
  · refine wp_br k_67 rfl rfl rfl rfl (fun _ => ?_) (fun z => absurd (show ¬ (nI 1 : Int32) = 0 by decide) z)
    refine wp_kn k_67 rfl rfl ?_
    refine wp_br k_67 rfl rfl rfl rfl (fun _ => ?_) (fun z => absurd trivial z)
    exact wp_irt k_67 rfl rfl rfl (K1 (Or.inl zl))
  · refine wp_br k_67 rfl rfl rfl rfl (fun z => absurd z (show ¬ (¬ (nI 0 : Int32) = 0) by decide)) (fun _ => ?_)
    refine wp_pure k_67 rfl rfl ?_
    refine wp_is k_67 rfl (by decide) [.int c] rfl (r := []) (Nat.le_of_ble_eq_true rfl) (Nat.le_of_ble_eq_true rfl) rfl ?_
    refine c_isDg (fun zd => ⟨rfl, ?_⟩) (fun zd => ⟨rfl, ?_⟩)
    · refine wp_br k_67 rfl rfl rfl rfl (fun z => absurd z (show ¬ ((nI 1 : Int32) = 0) by decide)) (fun _ => ?_)
      refine wp_kn k_67 rfl rfl ?_
      refine wp_br k_67 rfl rfl rfl rfl (fun _ => ?_) (fun z => absurd trivial z)
      exact wp_irt k_67 rfl rfl rfl (K1 (Or.inr zd))
    · refine wp_br k_67 rfl rfl rfl rfl (fun _ => ?_) (fun z => absurd (show (nI 0 : Int32) = 0 by decide) z)
      refine wp_kn k_67 rfl rfl ?_
      exact wp_irt k_67 rfl rfl rfl (K0 (fun q => q.elim zl zd))
theorem c_ends {h h1 : sm_H} {Q : Nat → Option Value → sm_H → Prop} {r sg sp ed len : Nat} {tx : Nat → Int32} (B : RB h r sg sp ed len tx) {s : Nat × Int32} (w : RDW h h1 r len s) (K1 : ∀ h2, RDW h h2 r len (skC tx len (nI 10) s) → (skC tx len (nI 10) s).2 = -1 → Q 0 (some (.int (nI 1))) h2) (K0 : ∀ h2, RDW h h2 r len (skC tx len (nI 10) s) → ¬ (skC tx len (nI 10) s).2 = -1 → Q 0 (some (.int (nI 0))) h2) : sm_wp 71 0 [.ref r] [] h1 Q := by
  have hB := B.2.2.2.2.2.2.2.2.2.2
  have hs9 := w.2.2.2.2.2.2.2.2
  have sgr : sg ≠ r := kne B.2.2.2.2.2.1 B.1 (by decide)
  refine wp_pure k_71 rfl rfl ?_
  refine wp_kn k_71 rfl rfl ?_
  refine wp_iv k_71 rfl [.int (nI 10)] rfl w.2.2.2.2.1 (r := []) (Nat.le_of_ble_eq_true rfl) (Nat.le_of_ble_eq_true rfl) rfl ?_
  refine c_skip B w (by decide) (fun h2 w2 => ⟨rfl, ?_⟩)
  refine wp_pure k_71 rfl rfl ?_
  refine wp_get k_71 rfl w2.2.2.2.2.1 w2.2.2.2.2.2.2.2.1 ?_
  refine wp_km k_71 rfl rfl ?_
  refine wp_br k_71 rfl rfl rfl rfl (fun (z11 : ¬ (skC tx len (nI 10) s).2 = -1) => ?_) (fun (z11 : ¬ (¬ (skC tx len (nI 10) s).2 = -1)) => ?_)
  · refine wp_kn k_71 rfl rfl ?_
    exact wp_irt k_71 rfl rfl rfl (K0 _ w2 z11)
  · refine wp_kn k_71 rfl rfl ?_
    refine wp_br k_71 rfl rfl rfl rfl (fun _ => ?_) (fun z => absurd trivial z)
    exact wp_irt k_71 rfl rfl rfl (K1 _ w2 (Classical.not_not.mp z11))
theorem c_name {h h1 : sm_H} {Q : Nat → Option Value → sm_H → Prop} {r sg sp ed len : Nat} {tx : Nat → Int32} (B : RB h r sg sp ed len tx) {s : Nat × Int32} (w : RDW h h1 r len s) (K : ∀ h2, RDW h h2 r len (naC tx len s).2 → Q 0 (some (.int (naC tx len s).1)) h2) : sm_wp 65 0 [.ref r, jk, jk] [] h1 Q := by
  have hB := B.2.2.2.2.2.2.2.2.2.2
  have hs9 := w.2.2.2.2.2.2.2.2
  have sgr : sg ≠ r := kne B.2.2.2.2.2.1 B.1 (by decide)
  unfold naC at K
  dsimp only at K
  have loop : ∀ h3, RDW h h3 r len (s.1, @ite _ (isLt (tk tx len s.1)) (Classical.propDecidable _) s.2 (rfC s.2 s.1)) → sm_wp 65 22 [.ref r, .int (nI 0), .int (nI 0)] [] h3 Q := by
    intro h9 w9
    refine dn (n := 4) (P := fun i => ∀ (v : Int32) (p : Nat) (h3 : sm_H), RDW h h3 r len (p, @ite _ (isLt (tk tx len s.1)) (Classical.propDecidable _) s.2 (rfC s.2 s.1)) → nxL tx len (4 - i) p v = nxL tx len 4 s.1 (nI 0) → sm_wp 65 22 [.ref r, .int v, .int (nI i)] [] h3 Q) ?_ ?_ 0 (Nat.zero_le _) (nI 0) s.1 h9 w9 rfl
    · intro v p h3 w3 e
      refine wp_pure k_65 rfl rfl ?_
      refine wp_kn k_65 rfl rfl ?_
      refine wp_br k_65 rfl rfl rfl rfl (fun _ => ?_) (fun z => absurd (Int32.le_refl _) z)
      refine wp_pure k_65 rfl rfl ?_
      rw [← e] at K
      exact wp_irt k_65 rfl rfl rfl (K h3 w3)
    · intro i hi ih v p h3 w3 e
      obtain ⟨k, hk⟩ : ∃ k, 4 - i = k + 1 := ⟨3 - i, by omega⟩
      have hk2 : 4 - (i + 1) = k := by omega
      rw [hk] at e
      rw [hk2] at ih
      refine wp_pure k_65 rfl rfl ?_
      refine wp_kn k_65 rfl rfl ?_
      refine wp_br k_65 rfl rfl rfl rfl (fun z => absurd z (show ¬ (nI 4 ≤ nI i) from (nI_ge hi (by decide)))) (fun _ => ?_)
      refine wp_pure k_65 rfl rfl ?_
      refine wp_iv k_65 rfl [] rfl w3.2.2.2.2.1 (r := []) (Nat.le_of_ble_eq_true rfl) (Nat.le_of_ble_eq_true rfl) rfl ?_
      refine c_peek B w3 rfl ⟨rfl, ?_⟩
      refine wp_is k_65 rfl (by decide) [.int (tk tx len p)] rfl (r := []) (Nat.le_of_ble_eq_true rfl) (Nat.le_of_ble_eq_true rfl) rfl ?_
      refine c_isNs (fun zn => ⟨rfl, ?_⟩) (fun zn => ⟨rfl, ?_⟩)
      · refine wp_br k_65 rfl rfl rfl rfl (fun z => absurd z (show ¬ ((nI 1 : Int32) = 0) by decide)) (fun _ => ?_)
        refine wp_pure k_65 rfl rfl ?_
        refine wp_kn k_65 rfl rfl ?_
        refine wp_imul k_65 rfl ?_
        refine wp_pure k_65 rfl rfl ?_
        refine wp_iv k_65 rfl [] rfl w3.2.2.2.2.1 (r := [.int (v * (nI 256))]) (Nat.le_of_ble_eq_true rfl) (Nat.le_of_ble_eq_true rfl) rfl ?_
        refine c_peek B w3 rfl ⟨rfl, ?_⟩
        refine wp_iadd k_65 rfl ?_
        refine wp_pure k_65 rfl rfl ?_
        refine wp_pure k_65 rfl rfl ?_
        refine wp_pure k_65 rfl rfl ?_
        refine wp_get k_65 rfl w3.2.2.2.2.1 w3.2.2.2.2.2.2.1 ?_
        refine wp_kn k_65 rfl rfl ?_
        refine wp_addN k_65 rfl ?_
        refine wp_put k_65 rfl w3.2.2.2.2.1 rfl rfl ?_
        refine wp_inc k_65 rfl rfl rfl ?_
        refine wp_br k_65 rfl rfl rfl rfl (fun _ => ?_) (fun z => absurd trivial z)
        have e2 : nxL tx len (k + 1) p v = nxL tx len k (p + 1) (v * nI 256 + tk tx len p) := if_pos zn
        exact ih _ (p + 1) _ (w3.nx (zn.elim isLt_lt isDg_lt)) (e2.symm.trans e)
      · refine wp_br k_65 rfl rfl rfl rfl (fun _ => ?_) (fun z => absurd (show (nI 0 : Int32) = 0 by decide) z)
        refine wp_pure k_65 rfl rfl ?_
        have e2 : nxL tx len (k + 1) p v = (v, p) := if_neg zn
        rw [← e, e2] at K
        exact wp_irt k_65 rfl rfl rfl (K h3 w3)
  refine wp_pure k_65 rfl rfl ?_
  refine wp_iv k_65 rfl [] rfl w.2.2.2.2.1 (r := []) (Nat.le_of_ble_eq_true rfl) (Nat.le_of_ble_eq_true rfl) rfl ?_
  refine c_peek B w rfl ⟨rfl, ?_⟩
  refine wp_is k_65 rfl (by decide) [.int (tk tx len s.1)] rfl (r := []) (Nat.le_of_ble_eq_true rfl) (Nat.le_of_ble_eq_true rfl) rfl ?_
  refine c_isLt (fun zl => ⟨rfl, ?_⟩) (fun zl => ⟨rfl, ?_⟩)
  · refine wp_br k_65 rfl rfl rfl rfl (fun _ => ?_) (fun z => absurd (show ¬ (nI 1 : Int32) = 0 by decide) z)
    refine wp_kn k_65 rfl rfl ?_
    refine wp_pure k_65 rfl rfl ?_
    refine wp_kn k_65 rfl rfl ?_
    refine wp_pure k_65 rfl rfl ?_
    exact loop _ (by rw [if_pos zl]; exact w)
  · refine wp_br k_65 rfl rfl rfl rfl (fun z => absurd z (show ¬ (¬ (nI 0 : Int32) = 0) by decide)) (fun _ => ?_)
    refine wp_pure k_65 rfl rfl ?_
    refine wp_pure k_65 rfl rfl ?_
    refine wp_get k_65 rfl w.2.2.2.2.1 w.2.2.2.2.2.2.1 ?_
    refine wp_iv k_65 rfl [.int (nI (s.1))] rfl w.2.2.2.2.1 (r := []) (Nat.le_of_ble_eq_true rfl) (Nat.le_of_ble_eq_true rfl) rfl ?_
    refine c_refuse B w (fun h2 w2 => ⟨rfl, ?_⟩)
    refine wp_kn k_65 rfl rfl ?_
    refine wp_pure k_65 rfl rfl ?_
    refine wp_kn k_65 rfl rfl ?_
    refine wp_pure k_65 rfl rfl ?_
    exact loop _ (by rw [if_neg zl]; exact w2)
