/-! the class learns where one can go -/
theorem EdF.k {h h' : sm_H} {ed lp ep : Nat} {pa : Nat → Nat} {bt : Nat → Nat → Nat} {E : Ed} {un : Nat → Int32} (X : EdF h ed lp ep pa bt E un) (s : ∀ a, (hC h a = 17 ∨ hC h a = 26 ∨ hC h a = 14 ∨ hC h a = 7 ∨ hC h a = 22) → samA h h' a) (hz : hZ h' = hZ h) (ht : hT h ≤ hT h') : EdF h' ed lp ep pa bt E un := by
  obtain ⟨⟨e0, e1, e2, e3⟩, l1, hP, hB⟩ := X
  have s0 := s ed (Or.inl e0)
  refine ⟨⟨s0.1.trans e0, (s0.2.2.1 _).trans e1, (s0.2.2.1 _).trans e2, (s0.2.2.1 _).trans e3⟩, l1.same (s _ (Or.inr (Or.inl l1.1))) (s _ (l1.ke.elim (fun q => Or.inr (Or.inr (Or.inl q))) (fun q => Or.inr (Or.inr (Or.inr (Or.inl q)))))) (fun i hi => (s _ (Or.inr (Or.inr (Or.inr (Or.inr (hP i hi).1))))).1) hz ht, fun k hk => (hP k hk).same (s _ (Or.inr (Or.inr (Or.inr (Or.inr (hP k hk).1))))), hB⟩
def LGW (h h1 : sm_H) (go ed d : Nat) : Prop := hT h1 = hT h ∧ hU h1 = hU h ∧ hZ h1 = hZ h ∧ (∀ a, a ≠ go → samA h h1 a) ∧ hC h1 go = 19 ∧ hF h1 384 go = .ref ed ∧ hF h1 385 go = .long (lN d)
theorem LGW.dk {h h1 : sm_H} {go ed d v : Nat} (w : LGW h h1 go ed d) : LGW h (putF h1 385 go (.long (lN v))) go ed v := by
  obtain ⟨a1, a2, a3, a4, a5, a6, a7⟩ := w
  exact ⟨a1, a2, a3, fun a q => (a4 a q).trans (samA.putF q), hC_putF.trans a5, (hF_putF_f (by decide)).trans a6, hF_putF⟩
theorem LGW.rc {h h1 : sm_H} {go ed d v : Nat} (w : LGW h h1 go ed d) : LGW h (putF h1 386 go (.long (lN v))) go ed d ∧ hF (putF h1 386 go (.long (lN v))) 386 go = .long (lN v) := by
  obtain ⟨a1, a2, a3, a4, a5, a6, a7⟩ := w
  exact ⟨⟨a1, a2, a3, fun a q => (a4 a q).trans (samA.putF q), hC_putF.trans a5, (hF_putF_f (by decide)).trans a6, (hF_putF_f (by decide)).trans a7⟩, hF_putF⟩
theorem LGW.ed {h h1 : sm_H} {go d : Nat} {ed lp ep : Nat} {pa : Nat → Nat} {bt : Nat → Nat → Nat} {E : Ed} {un : Nat → Int32} (w : LGW h h1 go ed d) (X : EdF h ed lp ep pa bt E un) (g0 : hC h go = 19) : EdF h1 ed lp ep pa bt E un :=
  X.k (fun a ha => w.2.2.2.1 a (fun z => by rw [z, g0] at ha; rcases ha with q | q | q | q | q <;> cases q)) w.2.2.1 (Nat.le_of_eq w.1.symm)
theorem or_bit {d r y : Nat} : (d ||| 2 ^ r).testBit y = true ↔ d.testBit y = true ∨ y = r := by
  rw [Nat.testBit_or, Bool.or_eq_true, bit1]
theorem c_learn {h : sm_H} {Q : Nat → Option Value → sm_H → Prop} {ed lp ep : Nat} {pa : Nat → Nat} {bt : Nat → Nat → Nat} {E : Ed} {un : Nat → Int32} (X : EdF h ed lp ep pa bt E un) (hWd : EdW E) (hn : E.1.length ≤ 60) {go : Nat} (g0 : hC h go = 19) (g1 : hF h 384 go = .ref ed) (g2 : hF h 385 go = .long (lN 0)) (K : ∀ h' dk rc ex, GoR h' go ed E dk rc ex → hT h' = hT h → hU h' = hU h → hZ h' = hZ h → (∀ a, a ≠ go → samA h h' a) → Q 0 none h') : sm_wp 28 0 [.ref go, jk, jk] [] h Q := by
  refine wp_kn k_28 rfl rfl ?_
  refine wp_pure k_28 rfl rfl ?_
  refine dn (n := E.1.length) (P := fun i => ∀ (x2 : Value) (h1 : sm_H) (d : Nat), LGW h h1 go ed d → (∀ y, d.testBit y = true ↔ ∃ k, k < i ∧ atP E.1 1 k = nI 3 ∧ atP E.1 7 k = nI y ∧ y < E.1.length) → sm_wp 28 2 [.ref go, .int (nI i), x2] [] h1 Q) ?_ ?_ 0 (Nat.zero_le _) jk h 0 ⟨rfl, rfl, rfl, fun a _ => samA.refl h a, g0, g1, g2⟩ (fun y => ⟨fun q => (by rw [Nat.zero_testBit] at q; cases q), fun ⟨k, hk, _⟩ => absurd hk (Nat.not_lt_zero k)⟩)
  · intro x2 h1 d w hd
    have X1 := w.ed X g0
    obtain ⟨⟨e0, e1, e2, e3⟩, l1, hP, hBt⟩ := id X1
    obtain ⟨gb1, gb2, gv, b4, b5, b6⟩ := BtW.bd hBt hWd hn
    have hd60 : d < 2 ^ 60 := lt_pow (fun y q => by obtain ⟨k, _, _, _, z⟩ := (hd y).mp q; omega)
    refine wp_pure k_28 rfl rfl ?_
    refine wp_pure k_28 rfl rfl ?_
    refine wp_get k_28 rfl w.2.2.2.2.1 w.2.2.2.2.2.1 ?_
    refine wp_get k_28 rfl e0 e1 ?_
    refine wp_iv k_28 rfl [] rfl l1.1 (r := [.int (nI (E.1.length))]) (Nat.le_of_ble_eq_true rfl) (Nat.le_of_ble_eq_true rfl) rfl ?_
    refine c_size l1 ⟨rfl, ?_⟩
    refine wp_br k_28 rfl rfl rfl rfl (fun _ => ?_) (fun z => absurd (Int32.le_refl _) z)
    refine wp_pure k_28 rfl rfl ?_
    refine wp_pure k_28 rfl rfl ?_
    refine wp_pure k_28 rfl rfl ?_
    refine wp_get k_28 rfl w.2.2.2.2.1 w.2.2.2.2.2.2 ?_
    refine wp_kn k_28 rfl rfl ?_
    refine wp_iv k_28 rfl [.long (lN d), .int (nI 0)] rfl w.2.2.2.2.1 (r := [.ref go]) (Nat.le_of_ble_eq_true rfl) (Nat.le_of_ble_eq_true rfl) rfl ?_
    refine c_spread X1 w.2.2.2.2.1 w.2.2.2.2.2.1 hn (Or.inl rfl) hd60 b4 (fun k0 hk0 => ⟨rfl, ?_⟩)
    refine wp_put k_28 rfl w.2.2.2.2.1 rfl rfl ?_
    obtain ⟨w2, r2⟩ := w.rc (v := blN (bt 0) E.1.length d k0)
    generalize putF h1 386 go (.long (lN (blN (bt 0) E.1.length d k0))) = h2 at *
    have X2 := w2.ed X g0
    refine wp_pure k_28 rfl rfl ?_
    refine wp_pure k_28 rfl rfl ?_
    refine wp_pure k_28 rfl rfl ?_
    refine wp_get k_28 rfl w2.2.2.2.2.1 w2.2.2.2.2.2.2 ?_
    refine wp_kn k_28 rfl rfl ?_
    refine wp_iv k_28 rfl [.long (lN d), .int (nI 1)] rfl w2.2.2.2.2.1 (r := [.ref go]) (Nat.le_of_ble_eq_true rfl) (Nat.le_of_ble_eq_true rfl) rfl ?_
    refine c_spread X2 w2.2.2.2.2.1 w2.2.2.2.2.2.1 hn (Or.inr rfl) hd60 b5 (fun k1 hk1 => ⟨rfl, ?_⟩)
    refine wp_put k_28 rfl w2.2.2.2.2.1 rfl rfl ?_
    refine wp_vrt k_28 rfl rfl (K _ d (blN (bt 0) E.1.length d k0) (blN (bt 1) E.1.length d k1) ⟨⟨hC_putF.trans w2.2.2.2.2.1, (hF_putF_f (by decide)).trans w2.2.2.2.2.2.1, (hF_putF_f (by decide)).trans w2.2.2.2.2.2.2, (hF_putF_f (by decide)).trans r2, hF_putF⟩, hd, fun p => rch_bits hWd hn gb1 hd hk0, fun p => ext_bits hWd hn gb2 hd hk1⟩ (hT_putF.trans w2.1) (hU_putF.trans w2.2.1) (hZ_putF.trans w2.2.2.1) (fun a q => (w2.2.2.2.1 a q).trans (samA.putF q)))
  · intro i hi ih x2 h1 d w hd
    have X1 := w.ed X g0
    obtain ⟨⟨e0, e1, e2, e3⟩, l1, hP, hBt⟩ := id X1
    have hd60 : d < 2 ^ 60 := lt_pow (fun y q => by obtain ⟨k, _, _, _, z⟩ := (hd y).mp q; omega)
    by_cases z3 : atP E.1 1 i = nI 3
    · obtain ⟨r, hr, hrl, _⟩ := hWd.of3 hi (Or.inl z3)
      have hp2 : 2 ^ r < 2 ^ 60 := pow_lt (by omega)
      refine wp_pure k_28 rfl rfl ?_
      refine wp_pure k_28 rfl rfl ?_
      refine wp_get k_28 rfl w.2.2.2.2.1 w.2.2.2.2.2.1 ?_
      refine wp_get k_28 rfl e0 e1 ?_
      refine wp_iv k_28 rfl [] rfl l1.1 (r := [.int (nI i)]) (Nat.le_of_ble_eq_true rfl) (Nat.le_of_ble_eq_true rfl) rfl ?_
      refine c_size l1 ⟨rfl, ?_⟩
      refine wp_br k_28 rfl rfl rfl rfl (fun z => absurd z (nI_ge hi (by omega))) (fun _ => ?_)
      refine wp_pure k_28 rfl rfl ?_
      refine wp_get k_28 rfl w.2.2.2.2.1 w.2.2.2.2.2.1 ?_
      refine wp_get k_28 rfl e0 e1 ?_
      refine wp_pure k_28 rfl rfl ?_
      refine wp_iv k_28 rfl [.int (nI i)] rfl l1.1 (r := []) (Nat.le_of_ble_eq_true rfl) (Nat.le_of_ble_eq_true rfl) rfl ?_
      refine c_get l1 (by omega) ⟨rfl, ?_⟩
      refine wp_cc k_28 rfl (hP i (by omega)).1 ?_
      refine wp_pure k_28 rfl rfl ?_
      refine wp_pure k_28 rfl rfl ?_
      refine wp_get k_28 rfl (hP i (by omega)).1 ((hP i (by omega)).2.1 1 (by decide)) ?_
      refine wp_kn k_28 rfl rfl ?_
      refine wp_br k_28 rfl rfl rfl rfl (fun z => absurd z (fun q => q z3)) (fun _ => ?_)
      refine wp_pure k_28 rfl rfl ?_
      refine wp_get k_28 rfl (hP i (by omega)).1 ((hP i (by omega)).2.2.1.trans (bsV_y hr (by omega))) ?_
      refine wp_br k_28 rfl rfl rfl rfl (fun _ => ?_) (fun z => absurd trivial z)
      refine wp_pure k_28 rfl rfl ?_
      refine wp_pure k_28 rfl rfl ?_
      refine wp_get k_28 rfl w.2.2.2.2.1 w.2.2.2.2.2.2 ?_
      refine wp_pure k_28 rfl rfl ?_
      refine wp_get k_28 rfl (hP i (by omega)).1 ((hP i (by omega)).2.2.1.trans (bsV_y hr (by omega))) ?_
      refine wp_iv k_28 rfl [] rfl (hP r (by omega)).1 (r := [.long (lN d), .ref go]) (Nat.le_of_ble_eq_true rfl) (Nat.le_of_ble_eq_true rfl) rfl ?_
      refine c_bit2 (hP r (by omega)).1 (hP r (by omega)).2.2.2.2.2.2.1 (by omega) ⟨rfl, ?_⟩
      refine wp_lorN k_28 rfl (by omega) (by omega) ?_
      refine wp_put k_28 rfl w.2.2.2.2.1 rfl rfl ?_
      refine wp_inc k_28 rfl rfl rfl ?_
      refine wp_br k_28 rfl rfl rfl rfl (fun _ => ?_) (fun z => absurd trivial z)
      refine ih _ _ (d ||| 2 ^ r) w.dk (fun y => ?_)
      rw [or_bit, hd y]
      constructor
      · rintro (⟨k, q1, q2⟩ | q)
        · exact ⟨k, by omega, q2⟩
        · exact ⟨i, by omega, z3, by rw [q]; exact hr, by omega⟩
      · rintro ⟨k, q1, q2, q3, q4⟩
        by_cases q : k = i
        · right
          rw [q, hr] at q3
          exact ((nI_eq (by omega) (by omega)).mp q3).symm
        · exact Or.inl ⟨k, by omega, q2, q3, q4⟩
    · skip
      refine wp_pure k_28 rfl rfl ?_
      refine wp_pure k_28 rfl rfl ?_
      refine wp_get k_28 rfl w.2.2.2.2.1 w.2.2.2.2.2.1 ?_
      refine wp_get k_28 rfl e0 e1 ?_
      refine wp_iv k_28 rfl [] rfl l1.1 (r := [.int (nI i)]) (Nat.le_of_ble_eq_true rfl) (Nat.le_of_ble_eq_true rfl) rfl ?_
      refine c_size l1 ⟨rfl, ?_⟩
      refine wp_br k_28 rfl rfl rfl rfl (fun z => absurd z (nI_ge hi (by omega))) (fun _ => ?_)
      refine wp_pure k_28 rfl rfl ?_
      refine wp_get k_28 rfl w.2.2.2.2.1 w.2.2.2.2.2.1 ?_
      refine wp_get k_28 rfl e0 e1 ?_
      refine wp_pure k_28 rfl rfl ?_
      refine wp_iv k_28 rfl [.int (nI i)] rfl l1.1 (r := []) (Nat.le_of_ble_eq_true rfl) (Nat.le_of_ble_eq_true rfl) rfl ?_
      refine c_get l1 (by omega) ⟨rfl, ?_⟩
      refine wp_cc k_28 rfl (hP i (by omega)).1 ?_
      refine wp_pure k_28 rfl rfl ?_
      refine wp_pure k_28 rfl rfl ?_
      refine wp_get k_28 rfl (hP i (by omega)).1 ((hP i (by omega)).2.1 1 (by decide)) ?_
      refine wp_kn k_28 rfl rfl ?_
      refine wp_br k_28 rfl rfl rfl rfl (fun _ => ?_) (fun z => absurd z3 z)
      refine wp_inc k_28 rfl rfl rfl ?_
      refine wp_br k_28 rfl rfl rfl rfl (fun _ => ?_) (fun z => absurd trivial z)
      refine ih _ h1 d w (fun y => ?_)
      rw [hd y]
      exact ⟨fun ⟨k, q1, q2⟩ => ⟨k, by omega, q2⟩, fun ⟨k, q1, q2, q3⟩ => ⟨k, by
        have : k ≠ i := fun z => z3 (by rw [← z]; exact q2)
        omega, q2, q3⟩⟩
