theorem c_inspect {h : sm_H} {Q : Nat → Option Value → sm_H → Prop} {ins lf ef0 : Nat} {fa0 : Nat → Nat} {l0 : List Flt} (c : cI h ins lf ef0 fa0 l0) (hz1 : hC h (hZ h) = 14) (hz2 : hZ h < hT h) (hins : ins < hT h) {lo hi ed lp ep : Nat} {pa : Nat → Nat} {bt : Nat → Nat → Nat} {E : Ed} {un : Nat → Int32} (X : EdF h ed lp ep pa bt E un) (O : EdO h (inI lo hi) ed lp ep pa E) (hWd : EdW E) (hn : E.1.length ≤ 60) (hhi : hi ≤ hT h) (hed : ∀ a, inI lo hi a → a ≠ lf ∧ a ≠ ef0) {go dk rc ex : Nat} (G : GoR h go ed E dk rc ex) (hgl : go < hT h) (K : ∀ h', INW h h' ins lf ef0 (fltE E) 360 75060 → Q 0 none h') : sm_wp 40 0 [.ref ins, .ref ed, .ref go, jk, jk] [] h Q := by
  obtain ⟨i1, i2, i3, i4⟩ := id c
  have ke0 := i3.ke
  have klf := i3.1
  have hlf : hZ h ≠ lf := kne hz1 klf (by decide)
  refine wp_pure k_40 rfl rfl ?_
  refine wp_get k_40 rfl i1 i2 ?_
  refine wp_iv k_40 rfl [] rfl i3.1 (r := []) (Nat.le_of_ble_eq_true rfl) (Nat.le_of_ble_eq_true rfl) rfl ?_
  refine c_clear i3 (fun h1 f1 l1 fr1 => ⟨rfl, ?_⟩)
  have w1 : INW h h1 ins lf ef0 (fltN E 0) 0 0 := by
    have sI : samA h h1 ins := fr1.2.2.2.2.2 ins hins (fun q => q.elim (kne i1 klf (by decide)) (fun q => kne2 ke0 i1 (by decide) (by decide) q.1.symm))
    exact ⟨ef0, f1, ⟨sI.1.trans i1, (sI.2.2.1 _).trans i2, l1, fun i f hi => by cases hi⟩, fr1.mono (fun b _ q => q.imp id (fun q => ⟨q.1, fun z => by rw [z, hz1] at q; cases q.2⟩)) (Nat.le_refl _) (Nat.le_refl _), Or.inl rfl, fun i hi => absurd hi (Nat.not_lt_zero i)⟩
  refine wp_kn k_40 rfl rfl ?_
  refine wp_pure k_40 rfl rfl ?_
  refine dn (n := E.1.length) (P := fun i => ∀ (x4 : Value) (h1 : sm_H), INW h h1 ins lf ef0 (fltN E i) (6 * i) (1251 * i) → sm_wp 40 9 [.ref ins, .ref ed, .ref go, .int (nI i), x4] [] h1 Q) ?_ ?_ 0 (Nat.zero_le _) jk h1 w1
  · intro x4 h1 w
    have X1 := w.ed hz2 hlf X O hhi hed
    obtain ⟨⟨e0, e1, e2, e3⟩, l1, hP, hBt⟩ := id X1
    obtain ⟨ef9, fa9, ⟨i1, i2, i3, i4⟩, f9, _⟩ := id w
    refine wp_pure k_40 rfl rfl ?_
    refine wp_pure k_40 rfl rfl ?_
    refine wp_get k_40 rfl e0 e1 ?_
    refine wp_iv k_40 rfl [] rfl l1.1 (r := [.int (nI (E.1.length))]) (Nat.le_of_ble_eq_true rfl) (Nat.le_of_ble_eq_true rfl) rfl ?_
    refine c_size l1 ⟨rfl, ?_⟩
    refine wp_br k_40 rfl rfl rfl rfl (fun _ => ?_) (fun z => absurd (Int32.le_refl _) z)
    exact wp_vrt k_40 rfl rfl (K h1 (by obtain ⟨a1, a2, a3, a4, a5⟩ := w; exact ⟨a1, a2, a3, a4.mono (fun _ _ q => q) (by omega) (by omega), a5⟩))
  · intro i hi9 ih x4 h1 w
    have X1 := w.ed hz2 hlf X O hhi hed
    obtain ⟨⟨e0, e1, e2, e3⟩, l1, hP, hBt⟩ := id X1
    obtain ⟨ef9, fa9, ⟨i1, i2, i3, i4⟩, f9, _⟩ := id w
    have ln := @flt_len E i
    obtain ⟨kd9, x9, y9, w9, h9, lv9, a1, a2, a3, _⟩ := hWd.pl hi9
    have hs : kd9 = 0 ∨ kd9 = 1 ∨ kd9 = 2 ∨ kd9 = 3 ∨ kd9 = 4 ∨ kd9 = 5 ∨ kd9 = 6 := by omega
    have nk : ∀ a b : Nat, a ≤ 6 → b ≤ 6 → a ≠ b → atP E.1 1 i = nI a → ¬ atP E.1 1 i = nI b := fun a b ha hb hab q z => hab (nI6 ha hb (q.symm.trans z))
    rcases hs with rfl | rfl | rfl | rfl | rfl | rfl | rfl
    · have eI : fltI E i = flt2 E i := by
        unfold fltI
        rw [show flt1 E i = [] from ift_n (fun q => nk 0 1 (by omega) (by omega) (by omega) a3 q.1), show flt3 E i = [] from ift_n (fun q => nk 0 1 (by omega) (by omega) (by omega) a3 q.1), show flt4 E i = [] from ift_n (fun q => q.1.elim (nk 0 3 (by omega) (by omega) (by omega) a3) (fun q => q.elim (nk 0 4 (by omega) (by omega) (by omega) a3) (nk 0 5 (by omega) (by omega) (by omega) a3))), show flt5 E i = [] from ift_n (fun q => nk 0 2 (by omega) (by omega) (by omega) a3 q.1)]
        simp only [List.append_nil, List.nil_append]
      refine wp_pure k_40 rfl rfl ?_
      refine wp_pure k_40 rfl rfl ?_
      refine wp_get k_40 rfl e0 e1 ?_
      refine wp_iv k_40 rfl [] rfl l1.1 (r := [.int (nI i)]) (Nat.le_of_ble_eq_true rfl) (Nat.le_of_ble_eq_true rfl) rfl ?_
      refine c_size l1 ⟨rfl, ?_⟩
      refine wp_br k_40 rfl rfl rfl rfl (fun z => absurd z (nI_ge hi9 (by omega))) (fun _ => ?_)
      refine wp_pure k_40 rfl rfl ?_
      refine wp_get k_40 rfl e0 e1 ?_
      refine wp_pure k_40 rfl rfl ?_
      refine wp_iv k_40 rfl [.int (nI i)] rfl l1.1 (r := []) (Nat.le_of_ble_eq_true rfl) (Nat.le_of_ble_eq_true rfl) rfl ?_
      refine c_get l1 (by omega) ⟨rfl, ?_⟩
      refine wp_cc k_40 rfl (hP i (by omega)).1 ?_
      refine wp_pure k_40 rfl rfl ?_
      refine wp_pure k_40 rfl rfl ?_
      refine wp_get k_40 rfl (hP i (by omega)).1 (((hP i (by omega)).2.1 1 (by decide)).trans (congrArg Value.int a3)) ?_
      refine wp_sw k_40 rfl rfl rfl rfl rfl ?_
      refine wp_pure k_40 rfl rfl ?_
      refine wp_pure k_40 rfl rfl ?_
      refine wp_pure k_40 rfl rfl ?_
      refine wp_iv k_40 rfl [.ref ed, .ref (pa i)] rfl i1 (r := []) (Nat.le_of_ble_eq_true rfl) (Nat.le_of_ble_eq_true rfl) rfl ?_
      refine c_area w hz1 hz2 hlf hins (by omega) X O hWd hn hhi hed hi9 (Or.inl a3) (fun h2 wz => ⟨rfl, ?_⟩)
      refine wp_br k_40 rfl rfl rfl rfl (fun _ => ?_) (fun z => absurd trivial z)
      refine wp_inc k_40 rfl rfl rfl ?_
      refine wp_br k_40 rfl rfl rfl rfl (fun _ => ?_) (fun z => absurd trivial z)
      exact ih _ _ (by show INW h _ ins lf ef0 (fltN E i ++ fltI E i) _ _; rw [eI]; obtain ⟨a1, a2, a3, a4, a5⟩ := wz; exact ⟨a1, a2, a3, a4.mono (fun _ _ q => q) (by omega) (by omega), a5⟩)
    · have eI : fltI E i = flt1 E i ++ flt2 E i ++ flt3 E i := by
        unfold fltI
        rw [show flt4 E i = [] from ift_n (fun q => q.1.elim (nk 1 3 (by omega) (by omega) (by omega) a3) (fun q => q.elim (nk 1 4 (by omega) (by omega) (by omega) a3) (nk 1 5 (by omega) (by omega) (by omega) a3))), show flt5 E i = [] from ift_n (fun q => nk 1 2 (by omega) (by omega) (by omega) a3 q.1)]
        simp only [List.append_nil, List.nil_append]
      refine wp_pure k_40 rfl rfl ?_
      refine wp_pure k_40 rfl rfl ?_
      refine wp_get k_40 rfl e0 e1 ?_
      refine wp_iv k_40 rfl [] rfl l1.1 (r := [.int (nI i)]) (Nat.le_of_ble_eq_true rfl) (Nat.le_of_ble_eq_true rfl) rfl ?_
      refine c_size l1 ⟨rfl, ?_⟩
      refine wp_br k_40 rfl rfl rfl rfl (fun z => absurd z (nI_ge hi9 (by omega))) (fun _ => ?_)
      refine wp_pure k_40 rfl rfl ?_
      refine wp_get k_40 rfl e0 e1 ?_
      refine wp_pure k_40 rfl rfl ?_
      refine wp_iv k_40 rfl [.int (nI i)] rfl l1.1 (r := []) (Nat.le_of_ble_eq_true rfl) (Nat.le_of_ble_eq_true rfl) rfl ?_
      refine c_get l1 (by omega) ⟨rfl, ?_⟩
      refine wp_cc k_40 rfl (hP i (by omega)).1 ?_
      refine wp_pure k_40 rfl rfl ?_
      refine wp_pure k_40 rfl rfl ?_
      refine wp_get k_40 rfl (hP i (by omega)).1 (((hP i (by omega)).2.1 1 (by decide)).trans (congrArg Value.int a3)) ?_
      refine wp_sw k_40 rfl rfl rfl rfl rfl ?_
      refine wp_pure k_40 rfl rfl ?_
      refine wp_pure k_40 rfl rfl ?_
      refine wp_pure k_40 rfl rfl ?_
      refine wp_pure k_40 rfl rfl ?_
      refine wp_iv k_40 rfl [.ref ed, .ref (pa i), .ref go] rfl i1 (r := []) (Nat.le_of_ble_eq_true rfl) (Nat.le_of_ble_eq_true rfl) rfl ?_
      refine c_inBin w hz1 hz2 hlf hins (by omega) X O hWd hn hhi hed G hgl ke0 klf hi9 a3 (fun h2 wz => ⟨rfl, ?_⟩)
      refine wp_br k_40 rfl rfl rfl rfl (fun _ => ?_) (fun z => absurd trivial z)
      refine wp_inc k_40 rfl rfl rfl ?_
      refine wp_br k_40 rfl rfl rfl rfl (fun _ => ?_) (fun z => absurd trivial z)
      exact ih _ _ (by show INW h _ ins lf ef0 (fltN E i ++ fltI E i) _ _; rw [eI, ← List.append_assoc, ← List.append_assoc]; obtain ⟨a1, a2, a3, a4, a5⟩ := wz; exact ⟨a1, a2, a3, a4.mono (fun _ _ q => q) (by omega) (by omega), a5⟩)
    · have eI : fltI E i = flt5 E i := by
        unfold fltI
        rw [show flt1 E i = [] from ift_n (fun q => nk 2 1 (by omega) (by omega) (by omega) a3 q.1), show flt3 E i = [] from ift_n (fun q => nk 2 1 (by omega) (by omega) (by omega) a3 q.1), show flt2 E i = [] from ift_n (fun q => q.1.elim (nk 2 0 (by omega) (by omega) (by omega) a3) (nk 2 1 (by omega) (by omega) (by omega) a3)), show flt4 E i = [] from ift_n (fun q => q.1.elim (nk 2 3 (by omega) (by omega) (by omega) a3) (fun q => q.elim (nk 2 4 (by omega) (by omega) (by omega) a3) (nk 2 5 (by omega) (by omega) (by omega) a3)))]
        simp only [List.append_nil, List.nil_append]
      refine wp_pure k_40 rfl rfl ?_
      refine wp_pure k_40 rfl rfl ?_
      refine wp_get k_40 rfl e0 e1 ?_
      refine wp_iv k_40 rfl [] rfl l1.1 (r := [.int (nI i)]) (Nat.le_of_ble_eq_true rfl) (Nat.le_of_ble_eq_true rfl) rfl ?_
      refine c_size l1 ⟨rfl, ?_⟩
      refine wp_br k_40 rfl rfl rfl rfl (fun z => absurd z (nI_ge hi9 (by omega))) (fun _ => ?_)
      refine wp_pure k_40 rfl rfl ?_
      refine wp_get k_40 rfl e0 e1 ?_
      refine wp_pure k_40 rfl rfl ?_
      refine wp_iv k_40 rfl [.int (nI i)] rfl l1.1 (r := []) (Nat.le_of_ble_eq_true rfl) (Nat.le_of_ble_eq_true rfl) rfl ?_
      refine c_get l1 (by omega) ⟨rfl, ?_⟩
      refine wp_cc k_40 rfl (hP i (by omega)).1 ?_
      refine wp_pure k_40 rfl rfl ?_
      refine wp_pure k_40 rfl rfl ?_
      refine wp_get k_40 rfl (hP i (by omega)).1 (((hP i (by omega)).2.1 1 (by decide)).trans (congrArg Value.int a3)) ?_
      refine wp_sw k_40 rfl rfl rfl rfl rfl ?_
      refine wp_pure k_40 rfl rfl ?_
      refine wp_pure k_40 rfl rfl ?_
      refine wp_pure k_40 rfl rfl ?_
      refine wp_iv k_40 rfl [.ref (pa i), .ref go] rfl i1 (r := []) (Nat.le_of_ble_eq_true rfl) (Nat.le_of_ble_eq_true rfl) rfl ?_
      refine c_inPiece w hz1 hz2 hlf hins (by omega) X O hWd hn hhi hed G hgl ke0 klf hi9 a3 (fun h2 wz => ⟨rfl, ?_⟩)
      refine wp_br k_40 rfl rfl rfl rfl (fun _ => ?_) (fun z => absurd trivial z)
      refine wp_inc k_40 rfl rfl rfl ?_
      refine wp_br k_40 rfl rfl rfl rfl (fun _ => ?_) (fun z => absurd trivial z)
      exact ih _ _ (by show INW h _ ins lf ef0 (fltN E i ++ fltI E i) _ _; rw [eI]; obtain ⟨a1, a2, a3, a4, a5⟩ := wz; exact ⟨a1, a2, a3, a4.mono (fun _ _ q => q) (by omega) (by omega), a5⟩)
    · have eI : fltI E i = flt4 E i := by
        unfold fltI
        rw [show flt1 E i = [] from ift_n (fun q => nk 3 1 (by omega) (by omega) (by omega) a3 q.1), show flt3 E i = [] from ift_n (fun q => nk 3 1 (by omega) (by omega) (by omega) a3 q.1), show flt2 E i = [] from ift_n (fun q => q.1.elim (nk 3 0 (by omega) (by omega) (by omega) a3) (nk 3 1 (by omega) (by omega) (by omega) a3)), show flt5 E i = [] from ift_n (fun q => nk 3 2 (by omega) (by omega) (by omega) a3 q.1)]
        simp only [List.append_nil, List.nil_append]
      refine wp_pure k_40 rfl rfl ?_
      refine wp_pure k_40 rfl rfl ?_
      refine wp_get k_40 rfl e0 e1 ?_
      refine wp_iv k_40 rfl [] rfl l1.1 (r := [.int (nI i)]) (Nat.le_of_ble_eq_true rfl) (Nat.le_of_ble_eq_true rfl) rfl ?_
      refine c_size l1 ⟨rfl, ?_⟩
      refine wp_br k_40 rfl rfl rfl rfl (fun z => absurd z (nI_ge hi9 (by omega))) (fun _ => ?_)
      refine wp_pure k_40 rfl rfl ?_
      refine wp_get k_40 rfl e0 e1 ?_
      refine wp_pure k_40 rfl rfl ?_
      refine wp_iv k_40 rfl [.int (nI i)] rfl l1.1 (r := []) (Nat.le_of_ble_eq_true rfl) (Nat.le_of_ble_eq_true rfl) rfl ?_
      refine c_get l1 (by omega) ⟨rfl, ?_⟩
      refine wp_cc k_40 rfl (hP i (by omega)).1 ?_
      refine wp_pure k_40 rfl rfl ?_
      refine wp_pure k_40 rfl rfl ?_
      refine wp_get k_40 rfl (hP i (by omega)).1 (((hP i (by omega)).2.1 1 (by decide)).trans (congrArg Value.int a3)) ?_
      refine wp_sw k_40 rfl rfl rfl rfl rfl ?_
      refine wp_pure k_40 rfl rfl ?_
      refine wp_pure k_40 rfl rfl ?_
      refine wp_iv k_40 rfl [.ref (pa i)] rfl i1 (r := []) (Nat.le_of_ble_eq_true rfl) (Nat.le_of_ble_eq_true rfl) rfl ?_
      refine c_inAt w hz1 hz2 hlf hins (by omega) X O hWd hn hhi hed hi9 (Or.inl a3) (fun h2 wz => ⟨rfl, ?_⟩)
      refine wp_br k_40 rfl rfl rfl rfl (fun _ => ?_) (fun z => absurd trivial z)
      refine wp_inc k_40 rfl rfl rfl ?_
      refine wp_br k_40 rfl rfl rfl rfl (fun _ => ?_) (fun z => absurd trivial z)
      exact ih _ _ (by show INW h _ ins lf ef0 (fltN E i ++ fltI E i) _ _; rw [eI]; obtain ⟨a1, a2, a3, a4, a5⟩ := wz; exact ⟨a1, a2, a3, a4.mono (fun _ _ q => q) (by omega) (by omega), a5⟩)
    · have eI : fltI E i = flt4 E i := by
        unfold fltI
        rw [show flt1 E i = [] from ift_n (fun q => nk 4 1 (by omega) (by omega) (by omega) a3 q.1), show flt3 E i = [] from ift_n (fun q => nk 4 1 (by omega) (by omega) (by omega) a3 q.1), show flt2 E i = [] from ift_n (fun q => q.1.elim (nk 4 0 (by omega) (by omega) (by omega) a3) (nk 4 1 (by omega) (by omega) (by omega) a3)), show flt5 E i = [] from ift_n (fun q => nk 4 2 (by omega) (by omega) (by omega) a3 q.1)]
        simp only [List.append_nil, List.nil_append]
      refine wp_pure k_40 rfl rfl ?_
      refine wp_pure k_40 rfl rfl ?_
      refine wp_get k_40 rfl e0 e1 ?_
      refine wp_iv k_40 rfl [] rfl l1.1 (r := [.int (nI i)]) (Nat.le_of_ble_eq_true rfl) (Nat.le_of_ble_eq_true rfl) rfl ?_
      refine c_size l1 ⟨rfl, ?_⟩
      refine wp_br k_40 rfl rfl rfl rfl (fun z => absurd z (nI_ge hi9 (by omega))) (fun _ => ?_)
      refine wp_pure k_40 rfl rfl ?_
      refine wp_get k_40 rfl e0 e1 ?_
      refine wp_pure k_40 rfl rfl ?_
      refine wp_iv k_40 rfl [.int (nI i)] rfl l1.1 (r := []) (Nat.le_of_ble_eq_true rfl) (Nat.le_of_ble_eq_true rfl) rfl ?_
      refine c_get l1 (by omega) ⟨rfl, ?_⟩
      refine wp_cc k_40 rfl (hP i (by omega)).1 ?_
      refine wp_pure k_40 rfl rfl ?_
      refine wp_pure k_40 rfl rfl ?_
      refine wp_get k_40 rfl (hP i (by omega)).1 (((hP i (by omega)).2.1 1 (by decide)).trans (congrArg Value.int a3)) ?_
      refine wp_sw k_40 rfl rfl rfl rfl rfl ?_
      refine wp_pure k_40 rfl rfl ?_
      refine wp_pure k_40 rfl rfl ?_
      refine wp_iv k_40 rfl [.ref (pa i)] rfl i1 (r := []) (Nat.le_of_ble_eq_true rfl) (Nat.le_of_ble_eq_true rfl) rfl ?_
      refine c_inAt w hz1 hz2 hlf hins (by omega) X O hWd hn hhi hed hi9 (Or.inr (Or.inl a3)) (fun h2 wz => ⟨rfl, ?_⟩)
      refine wp_br k_40 rfl rfl rfl rfl (fun _ => ?_) (fun z => absurd trivial z)
      refine wp_inc k_40 rfl rfl rfl ?_
      refine wp_br k_40 rfl rfl rfl rfl (fun _ => ?_) (fun z => absurd trivial z)
      exact ih _ _ (by show INW h _ ins lf ef0 (fltN E i ++ fltI E i) _ _; rw [eI]; obtain ⟨a1, a2, a3, a4, a5⟩ := wz; exact ⟨a1, a2, a3, a4.mono (fun _ _ q => q) (by omega) (by omega), a5⟩)
    · have eI : fltI E i = flt4 E i := by
        unfold fltI
        rw [show flt1 E i = [] from ift_n (fun q => nk 5 1 (by omega) (by omega) (by omega) a3 q.1), show flt3 E i = [] from ift_n (fun q => nk 5 1 (by omega) (by omega) (by omega) a3 q.1), show flt2 E i = [] from ift_n (fun q => q.1.elim (nk 5 0 (by omega) (by omega) (by omega) a3) (nk 5 1 (by omega) (by omega) (by omega) a3)), show flt5 E i = [] from ift_n (fun q => nk 5 2 (by omega) (by omega) (by omega) a3 q.1)]
        simp only [List.append_nil, List.nil_append]
      refine wp_pure k_40 rfl rfl ?_
      refine wp_pure k_40 rfl rfl ?_
      refine wp_get k_40 rfl e0 e1 ?_
      refine wp_iv k_40 rfl [] rfl l1.1 (r := [.int (nI i)]) (Nat.le_of_ble_eq_true rfl) (Nat.le_of_ble_eq_true rfl) rfl ?_
      refine c_size l1 ⟨rfl, ?_⟩
      refine wp_br k_40 rfl rfl rfl rfl (fun z => absurd z (nI_ge hi9 (by omega))) (fun _ => ?_)
      refine wp_pure k_40 rfl rfl ?_
      refine wp_get k_40 rfl e0 e1 ?_
      refine wp_pure k_40 rfl rfl ?_
      refine wp_iv k_40 rfl [.int (nI i)] rfl l1.1 (r := []) (Nat.le_of_ble_eq_true rfl) (Nat.le_of_ble_eq_true rfl) rfl ?_
      refine c_get l1 (by omega) ⟨rfl, ?_⟩
      refine wp_cc k_40 rfl (hP i (by omega)).1 ?_
      refine wp_pure k_40 rfl rfl ?_
      refine wp_pure k_40 rfl rfl ?_
      refine wp_get k_40 rfl (hP i (by omega)).1 (((hP i (by omega)).2.1 1 (by decide)).trans (congrArg Value.int a3)) ?_
      refine wp_sw k_40 rfl rfl rfl rfl rfl ?_
      refine wp_pure k_40 rfl rfl ?_
      refine wp_pure k_40 rfl rfl ?_
      refine wp_iv k_40 rfl [.ref (pa i)] rfl i1 (r := []) (Nat.le_of_ble_eq_true rfl) (Nat.le_of_ble_eq_true rfl) rfl ?_
      refine c_inAt w hz1 hz2 hlf hins (by omega) X O hWd hn hhi hed hi9 (Or.inr (Or.inr a3)) (fun h2 wz => ⟨rfl, ?_⟩)
      refine wp_br k_40 rfl rfl rfl rfl (fun _ => ?_) (fun z => absurd trivial z)
      refine wp_inc k_40 rfl rfl rfl ?_
      refine wp_br k_40 rfl rfl rfl rfl (fun _ => ?_) (fun z => absurd trivial z)
      exact ih _ _ (by show INW h _ ins lf ef0 (fltN E i ++ fltI E i) _ _; rw [eI]; obtain ⟨a1, a2, a3, a4, a5⟩ := wz; exact ⟨a1, a2, a3, a4.mono (fun _ _ q => q) (by omega) (by omega), a5⟩)
    · have eI : fltI E i = [] := by
        unfold fltI
        rw [show flt1 E i = [] from ift_n (fun q => nk 6 1 (by omega) (by omega) (by omega) a3 q.1), show flt3 E i = [] from ift_n (fun q => nk 6 1 (by omega) (by omega) (by omega) a3 q.1), show flt2 E i = [] from ift_n (fun q => q.1.elim (nk 6 0 (by omega) (by omega) (by omega) a3) (nk 6 1 (by omega) (by omega) (by omega) a3)), show flt4 E i = [] from ift_n (fun q => q.1.elim (nk 6 3 (by omega) (by omega) (by omega) a3) (fun q => q.elim (nk 6 4 (by omega) (by omega) (by omega) a3) (nk 6 5 (by omega) (by omega) (by omega) a3))), show flt5 E i = [] from ift_n (fun q => nk 6 2 (by omega) (by omega) (by omega) a3 q.1)]
        simp only [List.append_nil, List.nil_append]
      refine wp_pure k_40 rfl rfl ?_
      refine wp_pure k_40 rfl rfl ?_
      refine wp_get k_40 rfl e0 e1 ?_
      refine wp_iv k_40 rfl [] rfl l1.1 (r := [.int (nI i)]) (Nat.le_of_ble_eq_true rfl) (Nat.le_of_ble_eq_true rfl) rfl ?_
      refine c_size l1 ⟨rfl, ?_⟩
      refine wp_br k_40 rfl rfl rfl rfl (fun z => absurd z (nI_ge hi9 (by omega))) (fun _ => ?_)
      refine wp_pure k_40 rfl rfl ?_
      refine wp_get k_40 rfl e0 e1 ?_
      refine wp_pure k_40 rfl rfl ?_
      refine wp_iv k_40 rfl [.int (nI i)] rfl l1.1 (r := []) (Nat.le_of_ble_eq_true rfl) (Nat.le_of_ble_eq_true rfl) rfl ?_
      refine c_get l1 (by omega) ⟨rfl, ?_⟩
      refine wp_cc k_40 rfl (hP i (by omega)).1 ?_
      refine wp_pure k_40 rfl rfl ?_
      refine wp_pure k_40 rfl rfl ?_
      refine wp_get k_40 rfl (hP i (by omega)).1 (((hP i (by omega)).2.1 1 (by decide)).trans (congrArg Value.int a3)) ?_
      refine wp_sw k_40 rfl rfl rfl rfl rfl ?_
      refine wp_inc k_40 rfl rfl rfl ?_
      refine wp_br k_40 rfl rfl rfl rfl (fun _ => ?_) (fun z => absurd trivial z)
      exact ih _ _ (by show INW h _ ins lf ef0 (fltN E i ++ fltI E i) _ _; rw [eI, List.append_nil]; obtain ⟨a1, a2, a3, a4, a5⟩ := w; exact ⟨a1, a2, a3, a4.mono (fun _ _ q => q) (by omega) (by omega), a5⟩)
