theorem c_rows {h : sm_H} {Q : Nat → Option Value → sm_H → Prop} {ed lp ep : Nat} {pa : Nat → Nat} {bt : Nat → Nat → Nat} {E : Ed} {un : Nat → Int32} (X : EdF h ed lp ep pa bt E un) (hWd : EdW E) (hn : E.1.length ≤ 60) (K : Q 0 (some (.int (nI (rowE E.1)))) h) : sm_wp 53 0 [.ref ed, jk, jk, jk] [] h Q := by
  obtain ⟨⟨e0, e1, e2, e3⟩, l1, hP, hBt⟩ := id X
  refine wp_kn k_53 rfl rfl ?_
  refine wp_pure k_53 rfl rfl ?_
  refine wp_kn k_53 rfl rfl ?_
  refine wp_pure k_53 rfl rfl ?_
  refine dn (n := E.1.length) (P := fun i => ∀ (x3 : Value), sm_wp 53 4 [.ref ed, .int (nI (rowN E.1 i)), .int (nI i), x3] [] h Q) ?_ ?_ 0 (Nat.zero_le _) (jk)
  · intro x3
    
    refine wp_pure k_53 rfl rfl ?_
    refine wp_pure k_53 rfl rfl ?_
    refine wp_get k_53 rfl e0 e1 ?_
    refine wp_iv k_53 rfl [] rfl l1.1 (r := [.int (nI (E.1.length))]) (Nat.le_of_ble_eq_true rfl) (Nat.le_of_ble_eq_true rfl) rfl ?_
    refine c_size l1 ⟨rfl, ?_⟩
    refine wp_br k_53 rfl rfl rfl rfl (fun _ => ?_) (fun z => absurd (Int32.le_refl _) z)
    refine wp_pure k_53 rfl rfl ?_
    exact wp_irt k_53 rfl rfl rfl K
  · intro i hi ih x3
    obtain ⟨kd9, x9, y9, w9, h9, lv9, a1, a2, a3, a4, a5, a6, a7, a8, a9, b1, b2, b3, _⟩ := hWd.pl hi
    have rl := rowN_le hWd i (by omega)
    refine wp_pure k_53 rfl rfl ?_
    refine wp_pure k_53 rfl rfl ?_
    refine wp_get k_53 rfl e0 e1 ?_
    refine wp_iv k_53 rfl [] rfl l1.1 (r := [.int (nI i)]) (Nat.le_of_ble_eq_true rfl) (Nat.le_of_ble_eq_true rfl) rfl ?_
    refine c_size l1 ⟨rfl, ?_⟩
    refine wp_br k_53 rfl rfl rfl rfl (fun z => absurd z (nI_ge hi (by omega))) (fun _ => ?_)
    refine wp_pure k_53 rfl rfl ?_
    refine wp_get k_53 rfl e0 e1 ?_
    refine wp_pure k_53 rfl rfl ?_
    refine wp_iv k_53 rfl [.int (nI i)] rfl l1.1 (r := []) (Nat.le_of_ble_eq_true rfl) (Nat.le_of_ble_eq_true rfl) rfl ?_
    refine c_get l1 (by omega) ⟨rfl, ?_⟩
    refine wp_cc k_53 rfl (hP i (by omega)).1 ?_
    refine wp_pure k_53 rfl rfl ?_
    refine wp_pure k_53 rfl rfl ?_
    refine wp_pure k_53 rfl rfl ?_
    refine wp_get k_53 rfl (hP i (by omega)).1 (((hP i (by omega)).2.1 3 (by decide)).trans (congrArg Value.int a5)) ?_
    refine wp_pure k_53 rfl rfl ?_
    refine wp_get k_53 rfl (hP i (by omega)).1 (((hP i (by omega)).2.1 5 (by decide)).trans (congrArg Value.int a7)) ?_
    refine wp_addN k_53 rfl ?_
    refine wp_mm k_53 rfl rfl ?_
    refine wp_pure k_53 rfl rfl ?_
    refine wp_inc k_53 rfl rfl rfl ?_
    refine wp_br k_53 rfl rfl rfl rfl (fun _ => ?_) (fun z => absurd trivial z)
    have em : (if nI (rowN E.1 i) < nI (y9 + h9) then nI (y9 + h9) else nI (rowN E.1 i)) = nI (rowN E.1 (i + 1)) := by
      show _ = nI (max _ _)
      rw [a5, a7, nI_clamp (by omega), nI_clamp (by omega)]
      by_cases q : rowN E.1 i < y9 + h9
      · rw [if_pos ((nI_ltI (by omega) (by omega)).mpr q)]; congr 1; omega
      · rw [if_neg (fun z => q ((nI_ltI (by omega) (by omega)).mp z))]; congr 1; omega
    show sm_wp 53 4 [.ref ed, .int (if nI (rowN E.1 i) < nI (y9 + h9) then nI (y9 + h9) else nI (rowN E.1 i)), .int (nI (i + 1)), .ref (pa i)] [] h Q
    rw [em]
    exact ih (.ref (pa i))
def PLV (h h1 : sm_H) (pl pls len : Nat) : Prop := hT h1 = hT h ∧ hU h1 = hU h ∧ hZ h1 = hZ h ∧ (∀ a, a ≠ pl → a ≠ pls → samA h h1 a) ∧ hC h1 pl = 23 ∧ hF h1 896 pl = .ref pls ∧ hF h1 897 pl = .int (nI len) ∧ hC h1 pls = 3 ∧ hL h1 pls = 820
noncomputable def c0P (j : Nat) : Int32 := if j % 41 = 40 then nI 10 else nI 46
theorem c_empty {h : sm_H} {Q : Nat → Option Value → sm_H → Prop} {pl pls R : Nat} (hR : R ≤ 20) (h1 : hC h pl = 23) (h2 : hF h 896 pl = .ref pls) (h3 : hC h pls = 3) (h4 : hL h pls = 820) (K : ∀ h', PLW h h' pl pls (41 * R) c0P → Q 0 none h') : sm_wp 54 0 [.ref pl, .int (nI R), jk] [] h Q := by
  have hpp : pls ≠ pl := kne h3 h1 (by decide)
  refine wp_pure k_54 rfl rfl ?_
  refine wp_pure k_54 rfl rfl ?_
  refine wp_kn k_54 rfl rfl ?_
  refine wp_mulN k_54 rfl ?_
  refine wp_pure k_54 rfl rfl ?_
  refine wp_get k_54 rfl h1 h2 ?_
  refine wp_len k_54 rfl (by rw [h3]; rfl) h4 ?_
  refine wp_mm k_54 rfl rfl ?_
  have em : (if nI 820 < nI (R * 41) then nI 820 else nI (R * 41)) = nI (R * 41) := if_neg (fun z => by have := (nI_ltI (by decide) (by omega)).mp z; omega)
  show sm_wp 54 13 [.ref pl, .int (nI R), jk] [.int (if nI 820 < nI (R * 41) then nI 820 else nI (R * 41)), .ref pl] h Q
  rw [em]
  refine wp_put k_54 rfl h1 rfl rfl ?_
  refine wp_kn k_54 rfl rfl ?_
  refine wp_pure k_54 rfl rfl ?_
  generalize hh0 : putF h 897 pl (.int (nI (R * 41))) = h0
  have v0 : PLV h h0 pl pls (R * 41) := by
    rw [← hh0]
    exact ⟨rfl, rfl, rfl, fun a q1 _ => samA.putF q1, h1, (hF_putF_f (by decide)).trans h2, hF_putF, h3, h4⟩
  refine dn (n := R * 41) (P := fun i => ∀ h2, PLV h h2 pl pls (R * 41) → (∀ j, j < i → hA h2 pls j = .int (c0P j)) → sm_wp 54 18 [.ref pl, .int (nI R), .int (nI i)] [] h2 Q) ?_ ?_ 0 (Nat.zero_le _) h0 v0 (fun j hj => absurd hj (Nat.not_lt_zero j))
  · intro h2 v hc
    refine wp_pure k_54 rfl rfl ?_
    refine wp_pure k_54 rfl rfl ?_
    refine wp_get k_54 rfl v.2.2.2.2.1 v.2.2.2.2.2.2.1 ?_
    refine wp_br k_54 rfl rfl rfl rfl (fun _ => ?_) (fun z => absurd (Int32.le_refl _) z)
    have e41 : R * 41 = 41 * R := by omega
    rw [e41] at v hc
    exact wp_vrt k_54 rfl rfl (K h2 ⟨v.1, v.2.1, v.2.2.1, v.2.2.2.1, v.2.2.2.2.1, v.2.2.2.2.2.1, v.2.2.2.2.2.2.1, v.2.2.2.2.2.2.2.1, v.2.2.2.2.2.2.2.2, hc⟩)
  · intro i hi ih h2 v hc
    refine wp_pure k_54 rfl rfl ?_
    refine wp_pure k_54 rfl rfl ?_
    refine wp_get k_54 rfl v.2.2.2.2.1 v.2.2.2.2.2.2.1 ?_
    refine wp_br k_54 rfl rfl rfl rfl (fun z => absurd z (nI_ge hi (by omega))) (fun _ => ?_)
    refine wp_pure k_54 rfl rfl ?_
    refine wp_get k_54 rfl v.2.2.2.2.1 v.2.2.2.2.2.1 ?_
    refine wp_pure k_54 rfl rfl ?_
    refine wp_pure k_54 rfl rfl ?_
    refine wp_kn k_54 rfl rfl ?_
    refine wp_remN k_54 rfl (by omega) (by decide) (by decide) ?_
    refine wp_kn k_54 rfl rfl ?_
    refine wp_br k_54 rfl rfl rfl rfl (fun (z37 : ¬ nI (i % 41) = nI 40) => ?_) (fun (z37 : ¬ (¬ nI (i % 41) = nI 40)) => ?_)
    · have y37 : ¬ i % 41 = 40 := yNE (by omega) (by omega) z37
      refine wp_kn k_54 rfl rfl ?_
      refine wp_cast1 k_54 rfl v.2.2.2.2.2.2.2.1 (nLt v.2.2.2.2.2.2.2.2 (show i < 820 by omega)) (nLb v.2.2.2.2.2.2.2.2 (by omega)) (nar_c ⟨_, by decide, rfl⟩) ?_
      refine wp_inc k_54 rfl rfl rfl ?_
      refine wp_br k_54 rfl rfl rfl rfl (fun _ => ?_) (fun z => absurd trivial z)
      obtain ⟨v1, v2, v3, v4, v5, v6, v7, v8, v9⟩ := v
      refine ih _ ⟨v1, v2, v3, fun a q1 q2 => (v4 a q1 q2).trans (samA.putA q2), v5, v6, v7, v8, v9⟩ (fun j hj => ?_)
      by_cases q : j = i
      · rw [q]
        refine hA_putA.trans ?_
        unfold c0P
        rw [if_neg y37]
      · exact (hA_putA_i q).trans (hc j (by omega))
    · have y37 : i % 41 = 40 := yNNE (by omega) (by omega) z37
      refine wp_kn k_54 rfl rfl ?_
      refine wp_br k_54 rfl rfl rfl rfl (fun _ => ?_) (fun z => absurd trivial z)
      refine wp_cast1 k_54 rfl v.2.2.2.2.2.2.2.1 (nLt v.2.2.2.2.2.2.2.2 (show i < 820 by omega)) (nLb v.2.2.2.2.2.2.2.2 (by omega)) (nar_c ⟨_, by decide, rfl⟩) ?_
      refine wp_inc k_54 rfl rfl rfl ?_
      refine wp_br k_54 rfl rfl rfl rfl (fun _ => ?_) (fun z => absurd trivial z)
      obtain ⟨v1, v2, v3, v4, v5, v6, v7, v8, v9⟩ := v
      refine ih _ ⟨v1, v2, v3, fun a q1 q2 => (v4 a q1 q2).trans (samA.putA q2), v5, v6, v7, v8, v9⟩ (fun j hj => ?_)
      by_cases q : j = i
      · rw [q]
        refine hA_putA.trans ?_
        unfold c0P
        rw [if_pos y37]
      · exact (hA_putA_i q).trans (hc j (by omega))
theorem cov_nat {E : Ed} {k X Y W H x y : Nat} (h1 : atP E.1 2 k = nI X) (h2 : atP E.1 3 k = nI Y) (h3 : atP E.1 4 k = nI W) (h4 : atP E.1 5 k = nI H) (b1 : X + W ≤ 40) (b2 : Y + H ≤ 20) (hx : x < 2 ^ 31) (hy : y < 2 ^ 31) : covE E.1 k x y ↔ (X ≤ x ∧ x < X + W ∧ Y ≤ y ∧ y < Y + H) := by
  unfold covE
  rw [h1, h2, h3, h4, nI_add, nI_add, nI_leI (by omega) hx, nI_ltI hx (by omega), nI_leI (by omega) hy, nI_ltI hy (by omega)]
theorem c_kind {h h1 : sm_H} {Q : Nat → Option Value → sm_H → Prop} {lo hi ed lp ep : Nat} {pa : Nat → Nat} {bt : Nat → Nat → Nat} {E : Ed} {un : Nat → Int32} (X : EdF h ed lp ep pa bt E un) (O : EdO h (inI lo hi) ed lp ep pa E) (hWd : EdW E) (hn : E.1.length ≤ 60) {pl pls len : Nat} {c : Nat → Int32} (hpl : ∀ a, inI lo hi a → a ≠ pl ∧ a ≠ pls) (hz1 : hZ h ≠ pl) (hz2 : hZ h ≠ pls) (w : PLW h h1 pl pls len c) {kd d : Nat} (hd : d < 128) (hlen : len ≤ 820) (K : ∀ h2, PLW h h2 pl pls len (fun j => pit (kcv E.1 kd (j % 41) (j / 41)) (nI d) (c j)) → Q 0 none h2) : sm_wp 55 0 [.ref pl, .ref ed, .int (nI kd), .int (nI d), jk, jk] [] h1 Q := by
  refine wp_kn k_55 rfl rfl ?_
  refine wp_pure k_55 rfl rfl ?_
  refine dn (n := E.1.length) (P := fun i => ∀ (x5 : Value) (h2 : sm_H), PLW h h2 pl pls len (fun j => pit (∃ k, k < i ∧ atP E.1 1 k = nI kd ∧ covE E.1 k (j % 41) (j / 41)) (nI d) (c j)) → sm_wp 55 3 [.ref pl, .ref ed, .int (nI kd), .int (nI d), .int (nI i), x5] [] h2 Q) ?_ ?_ 0 (Nat.zero_le _) jk h1 (w.eq (fun j _ => (pit_n (fun ⟨k, hk, _⟩ => absurd hk (Nat.not_lt_zero k))).symm))
  · intro x5 h2 w2
    have sz : samA h h2 (hZ h) := w2.2.2.2.1 _ hz1 hz2
    have X2 := (EdFO.same X O (fun b hb => w2.2.2.2.1 b (hpl b hb).1 (hpl b hb).2) sz w2.2.2.1 (by rw [w2.1]; exact Nat.le_refl _)).1
    obtain ⟨⟨e0, e1, e2, e3⟩, l1, hP, hBt⟩ := id X2
    refine wp_pure k_55 rfl rfl ?_
    refine wp_pure k_55 rfl rfl ?_
    refine wp_get k_55 rfl e0 e1 ?_
    refine wp_iv k_55 rfl [] rfl l1.1 (r := [.int (nI (E.1.length))]) (Nat.le_of_ble_eq_true rfl) (Nat.le_of_ble_eq_true rfl) rfl ?_
    refine c_size l1 ⟨rfl, ?_⟩
    refine wp_br k_55 rfl rfl rfl rfl (fun _ => ?_) (fun z => absurd (Int32.le_refl _) z)
    exact wp_vrt k_55 rfl rfl (K h2 w2)
  · intro i hi9 ih x5 h2 w2
    have sz : samA h h2 (hZ h) := w2.2.2.2.1 _ hz1 hz2
    have X2 := (EdFO.same X O (fun b hb => w2.2.2.2.1 b (hpl b hb).1 (hpl b hb).2) sz w2.2.2.1 (by rw [w2.1]; exact Nat.le_refl _)).1
    obtain ⟨⟨e0, e1, e2, e3⟩, l1, hP, hBt⟩ := id X2
    obtain ⟨kd9, x9, y9, w9, h9, lv9, a1, a2, a3, a4, a5, a6, a7, a8, a9, b1, b2, b3, _⟩ := hWd.pl hi9
    refine wp_pure k_55 rfl rfl ?_
    refine wp_pure k_55 rfl rfl ?_
    refine wp_get k_55 rfl e0 e1 ?_
    refine wp_iv k_55 rfl [] rfl l1.1 (r := [.int (nI i)]) (Nat.le_of_ble_eq_true rfl) (Nat.le_of_ble_eq_true rfl) rfl ?_
    refine c_size l1 ⟨rfl, ?_⟩
    refine wp_br k_55 rfl rfl rfl rfl (fun z => absurd z (nI_ge hi9 (by omega))) (fun _ => ?_)
    refine wp_pure k_55 rfl rfl ?_
    refine wp_get k_55 rfl e0 e1 ?_
    refine wp_pure k_55 rfl rfl ?_
    refine wp_iv k_55 rfl [.int (nI i)] rfl l1.1 (r := []) (Nat.le_of_ble_eq_true rfl) (Nat.le_of_ble_eq_true rfl) rfl ?_
    refine c_get l1 (by omega) ⟨rfl, ?_⟩
    refine wp_cc k_55 rfl (hP i (by omega)).1 ?_
    refine wp_pure k_55 rfl rfl ?_
    refine wp_pure k_55 rfl rfl ?_
    refine wp_get k_55 rfl (hP i (by omega)).1 ((hP i (by omega)).2.1 1 (by decide)) ?_
    refine wp_pure k_55 rfl rfl ?_
    refine wp_br k_55 rfl rfl rfl rfl (fun (z35 : ¬ atP E.1 1 i = nI kd) => ?_) (fun (z35 : ¬ (¬ atP E.1 1 i = nI kd)) => ?_)
    · refine wp_inc k_55 rfl rfl rfl ?_
      refine wp_br k_55 rfl rfl rfl rfl (fun _ => ?_) (fun z => absurd trivial z)
      refine ih _ h2 (w2.eq (fun j _ => pit_c ⟨fun ⟨k, q1, q2⟩ => ⟨k, by omega, q2⟩, fun ⟨k, q1, q2, q3⟩ => ⟨k, by
        have : k ≠ i := fun q => z35 (by rw [← q]; exact q2)
        omega, q2, q3⟩⟩))
    · refine wp_pure k_55 rfl rfl ?_
      refine wp_pure k_55 rfl rfl ?_
      refine wp_pure k_55 rfl rfl ?_
      refine wp_iv k_55 rfl [.ref (pa i), .int (nI d)] rfl w2.2.2.2.2.1 (r := []) (Nat.le_of_ble_eq_true rfl) (Nat.le_of_ble_eq_true rfl) rfl ?_
      refine c_paint1 w2 hlen (X.2.2.1 i hi9).1 (((X.2.2.1 i hi9).2.1 2 (by decide)).trans (congrArg Value.int a4)) (((X.2.2.1 i hi9).2.1 3 (by decide)).trans (congrArg Value.int a5)) (((X.2.2.1 i hi9).2.1 4 (by decide)).trans (congrArg Value.int a6)) (((X.2.2.1 i hi9).2.1 5 (by decide)).trans (congrArg Value.int a7)) (hpl _ (O.2.2.1 i hi9)).1 (hpl _ (O.2.2.1 i hi9)).2 b1 b3 (by omega) (fun h3 w3 => ⟨rfl, ?_⟩)
      refine wp_inc k_55 rfl rfl rfl ?_
      refine wp_br k_55 rfl rfl rfl rfl (fun _ => ?_) (fun z => absurd trivial z)
      refine ih _ h3 (w3.eq (fun j hj => ?_))
      have cv := cov_nat (E := E) (k := i) (x := j % 41) (y := j / 41) a4 a5 a6 a7 b1 b3 (by omega) (by omega)
      by_cases q : x9 ≤ j % 41 ∧ j % 41 < x9 + w9 ∧ y9 ≤ j / 41 ∧ j / 41 < y9 + h9
      · rw [pit_y q, pit_y ⟨i, by omega, Classical.not_not.mp z35, cv.mpr q⟩]
      · rw [pit_n q]
        exact pit_c ⟨fun ⟨k, q1, q2⟩ => ⟨k, by omega, q2⟩, fun ⟨k, q1, q2, q3⟩ => ⟨k, by
          have : k ≠ i := fun z => q (cv.mp (by rw [← z]; exact q3))
          omega, q2, q3⟩⟩
theorem c_stops {h h1 : sm_H} {Q : Nat → Option Value → sm_H → Prop} {lo hi ed lp ep : Nat} {pa : Nat → Nat} {bt : Nat → Nat → Nat} {E : Ed} {un : Nat → Int32} (X : EdF h ed lp ep pa bt E un) (O : EdO h (inI lo hi) ed lp ep pa E) (hWd : EdW E) (hn : E.1.length ≤ 60) {pl pls len : Nat} {c : Nat → Int32} (hpl : ∀ a, inI lo hi a → a ≠ pl ∧ a ≠ pls) (hz1 : hZ h ≠ pl) (hz2 : hZ h ≠ pls) (w : PLW h h1 pl pls len c) (hlen : len ≤ 820) (K : ∀ h2, PLW h h2 pl pls len (fun j => pit (scv E.1 (j % 41) (j / 41)) (nI 69) (c j)) → Q 0 none h2) : sm_wp 57 0 [.ref pl, .ref ed, jk, jk] [] h1 Q := by
  refine wp_kn k_57 rfl rfl ?_
  refine wp_pure k_57 rfl rfl ?_
  refine dn (n := E.1.length) (P := fun i => ∀ (x3 : Value) (h2 : sm_H), PLW h h2 pl pls len (fun j => pit (∃ k, k < i ∧ stpE E k ∧ covE E.1 k (j % 41) (j / 41)) (nI 69) (c j)) → sm_wp 57 2 [.ref pl, .ref ed, .int (nI i), x3] [] h2 Q) ?_ ?_ 0 (Nat.zero_le _) jk h1 (w.eq (fun j _ => (pit_n (fun ⟨k, hk, _⟩ => absurd hk (Nat.not_lt_zero k))).symm))
  · intro x3 h2 w2
    have sz : samA h h2 (hZ h) := w2.2.2.2.1 _ hz1 hz2
    have X2 := (EdFO.same X O (fun b hb => w2.2.2.2.1 b (hpl b hb).1 (hpl b hb).2) sz w2.2.2.1 (by rw [w2.1]; exact Nat.le_refl _)).1
    obtain ⟨⟨e0, e1, e2, e3⟩, l1, hP, hBt⟩ := id X2
    refine wp_pure k_57 rfl rfl ?_
    refine wp_pure k_57 rfl rfl ?_
    refine wp_get k_57 rfl e0 e1 ?_
    refine wp_iv k_57 rfl [] rfl l1.1 (r := [.int (nI (E.1.length))]) (Nat.le_of_ble_eq_true rfl) (Nat.le_of_ble_eq_true rfl) rfl ?_
    refine c_size l1 ⟨rfl, ?_⟩
    refine wp_br k_57 rfl rfl rfl rfl (fun _ => ?_) (fun z => absurd (Int32.le_refl _) z)
    refine wp_vrt k_57 rfl rfl (K h2 (w2.eq (fun j _ => pit_c ⟨fun ⟨k, q1, ⟨j', q2⟩, q3⟩ => ?_, fun ⟨k, s, q1, q2, q3, q4⟩ => ?_⟩)))
    · refine ⟨j', k, stP_lt q2, Classical.not_not.mp (fun z => ?_), q2, q3⟩
      rw [hWd.st0 (stP_lt q2) z] at q2
      exact absurd q2 List.not_mem_nil
    · obtain ⟨i, r1, r2⟩ := s_ex q3
      obtain ⟨_, hb⟩ := hWd.st6 q1 r1
      rw [r2] at hb
      exact ⟨s, hb, ⟨k, q3⟩, q4⟩
  · intro i hi9 ih x3 h2 w2
    have sz : samA h h2 (hZ h) := w2.2.2.2.1 _ hz1 hz2
    have X2 := (EdFO.same X O (fun b hb => w2.2.2.2.1 b (hpl b hb).1 (hpl b hb).2) sz w2.2.2.1 (by rw [w2.1]; exact Nat.le_refl _)).1
    obtain ⟨⟨e0, e1, e2, e3⟩, l1, hP, hBt⟩ := id X2
    obtain ⟨kd9, x9, y9, w9, h9, lv9, a1, a2, a3, a4, a5, a6, a7, a8, a9, b1, b2, b3, _⟩ := hWd.pl hi9
    by_cases zs : stpE E i
    · have eL : pit (stpE E i) (nI 1) (nI 0) = nI 1 := pit_y zs
      refine wp_pure k_57 rfl rfl ?_
      refine wp_pure k_57 rfl rfl ?_
      refine wp_get k_57 rfl e0 e1 ?_
      refine wp_iv k_57 rfl [] rfl l1.1 (r := [.int (nI i)]) (Nat.le_of_ble_eq_true rfl) (Nat.le_of_ble_eq_true rfl) rfl ?_
      refine c_size l1 ⟨rfl, ?_⟩
      refine wp_br k_57 rfl rfl rfl rfl (fun z => absurd z (nI_ge hi9 (by omega))) (fun _ => ?_)
      refine wp_pure k_57 rfl rfl ?_
      refine wp_get k_57 rfl e0 e1 ?_
      refine wp_pure k_57 rfl rfl ?_
      refine wp_iv k_57 rfl [.int (nI i)] rfl l1.1 (r := []) (Nat.le_of_ble_eq_true rfl) (Nat.le_of_ble_eq_true rfl) rfl ?_
      refine c_get l1 (by omega) ⟨rfl, ?_⟩
      refine wp_cc k_57 rfl (hP i (by omega)).1 ?_
      refine wp_pure k_57 rfl rfl ?_
      refine wp_pure k_57 rfl rfl ?_
      refine wp_get k_57 rfl (hP i (by omega)).1 ((hP i hi9).2.2.2.2.2.2.2.2.2.2.trans (congrArg Value.int eL)) ?_
      refine wp_br k_57 rfl rfl rfl rfl (fun z => absurd z (show ¬ ((nI 1 : Int32) = 0) by decide)) (fun _ => ?_)
      refine wp_pure k_57 rfl rfl ?_
      refine wp_pure k_57 rfl rfl ?_
      refine wp_kn k_57 rfl rfl ?_
      refine wp_iv k_57 rfl [.ref (pa i), .int (nI 69)] rfl w2.2.2.2.2.1 (r := []) (Nat.le_of_ble_eq_true rfl) (Nat.le_of_ble_eq_true rfl) rfl ?_
      refine c_paint1 w2 hlen (X.2.2.1 i hi9).1 (((X.2.2.1 i hi9).2.1 2 (by decide)).trans (congrArg Value.int a4)) (((X.2.2.1 i hi9).2.1 3 (by decide)).trans (congrArg Value.int a5)) (((X.2.2.1 i hi9).2.1 4 (by decide)).trans (congrArg Value.int a6)) (((X.2.2.1 i hi9).2.1 5 (by decide)).trans (congrArg Value.int a7)) (hpl _ (O.2.2.1 i hi9)).1 (hpl _ (O.2.2.1 i hi9)).2 b1 b3 (by omega) (fun h3 w3 => ⟨rfl, ?_⟩)
      refine wp_inc k_57 rfl rfl rfl ?_
      refine wp_br k_57 rfl rfl rfl rfl (fun _ => ?_) (fun z => absurd trivial z)
      refine ih _ h3 (w3.eq (fun j hj => ?_))
      have cv := cov_nat (E := E) (k := i) (x := j % 41) (y := j / 41) a4 a5 a6 a7 b1 b3 (by omega) (by omega)
      by_cases q : x9 ≤ j % 41 ∧ j % 41 < x9 + w9 ∧ y9 ≤ j / 41 ∧ j / 41 < y9 + h9
      · rw [pit_y q, pit_y ⟨i, by omega, zs, cv.mpr q⟩]
      · rw [pit_n q]
        exact pit_c ⟨fun ⟨k, q1, q2⟩ => ⟨k, by omega, q2⟩, fun ⟨k, q1, q2, q3⟩ => ⟨k, by
          have : k ≠ i := fun z => q (cv.mp (by rw [← z]; exact q3))
          omega, q2, q3⟩⟩
    · have eL : pit (stpE E i) (nI 1) (nI 0) = nI 0 := pit_n zs
      refine wp_pure k_57 rfl rfl ?_
      refine wp_pure k_57 rfl rfl ?_
      refine wp_get k_57 rfl e0 e1 ?_
      refine wp_iv k_57 rfl [] rfl l1.1 (r := [.int (nI i)]) (Nat.le_of_ble_eq_true rfl) (Nat.le_of_ble_eq_true rfl) rfl ?_
      refine c_size l1 ⟨rfl, ?_⟩
      refine wp_br k_57 rfl rfl rfl rfl (fun z => absurd z (nI_ge hi9 (by omega))) (fun _ => ?_)
      refine wp_pure k_57 rfl rfl ?_
      refine wp_get k_57 rfl e0 e1 ?_
      refine wp_pure k_57 rfl rfl ?_
      refine wp_iv k_57 rfl [.int (nI i)] rfl l1.1 (r := []) (Nat.le_of_ble_eq_true rfl) (Nat.le_of_ble_eq_true rfl) rfl ?_
      refine c_get l1 (by omega) ⟨rfl, ?_⟩
      refine wp_cc k_57 rfl (hP i (by omega)).1 ?_
      refine wp_pure k_57 rfl rfl ?_
      refine wp_pure k_57 rfl rfl ?_
      refine wp_get k_57 rfl (hP i (by omega)).1 ((hP i hi9).2.2.2.2.2.2.2.2.2.2.trans (congrArg Value.int eL)) ?_
      refine wp_br k_57 rfl rfl rfl rfl (fun _ => ?_) (fun z => absurd (show (nI 0 : Int32) = 0 by decide) z)
      refine wp_inc k_57 rfl rfl rfl ?_
      refine wp_br k_57 rfl rfl rfl rfl (fun _ => ?_) (fun z => absurd trivial z)
      refine ih _ h2 (w2.eq (fun j _ => pit_c ⟨fun ⟨k, q1, q2⟩ => ⟨k, by omega, q2⟩, fun ⟨k, q1, q2, q3⟩ => ⟨k, by
        have : k ≠ i := fun q => zs (by rw [← q]; exact q2)
        omega, q2, q3⟩⟩))
