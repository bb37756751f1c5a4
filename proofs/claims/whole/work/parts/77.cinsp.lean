/-! the class inspects -/
def INW (h h1 : sm_H) (ins lf ef0 : Nat) (l : List Flt) (dT dU : Nat) : Prop := ∃ ef fa, cI h1 ins lf ef fa l ∧ Fr h h1 (fun b => b = lf ∨ (b = ef0 ∧ ef0 ≠ hZ h)) dT dU ∧ (ef = ef0 ∨ hT h ≤ ef) ∧ ∀ i, i < l.length → hT h ≤ fa i
theorem INW.sam {h h1 : sm_H} {ins lf ef0 dT dU : Nat} {l : List Flt} (w : INW h h1 ins lf ef0 l dT dU) {a : Nat} (ha : a < hT h) (h1' : a ≠ lf) (h2 : a ≠ ef0 ∨ ef0 = hZ h) : samA h h1 a := by
  obtain ⟨ef, fa, _, f, _⟩ := w
  exact f.2.2.2.2.2 a ha (fun q => q.elim h1' (fun q => h2.elim (fun z => z q.1) (fun z => q.2 z)))
theorem c_addF {h h1 : sm_H} {Q : Nat → Option Value → sm_H → Prop} {ins lf ef0 dT dU : Nat} {l : List Flt} (w : INW h h1 ins lf ef0 l dT dU) (hz1 : hC h (hZ h) = 14) (hz2 : hZ h < hT h) (hlf : hZ h ≠ lf) (hins : ins < hT h) (hl : l.length < 200) {x y z : Int32} (K : ∀ h2, INW h h2 ins lf ef0 (l ++ [(x, y, z)]) (dT + 2) (dU + 417) → Q 0 (some (.int (nI 1))) h2) : sm_wp 145 0 [.ref lf, .ref (hT h1)] [] (putF (putF (putF (newO h1 2 3 (fun g => defaultValue (xty 2 (g - 128 * 2)))) 256 (hT h1) (.int x)) 257 (hT h1) (.int y)) 258 (hT h1) (.int z)) Q := by
  obtain ⟨ef, fa, ⟨i1, i2, i3, i4⟩, f, e, g⟩ := id w
  generalize hhN : putF (putF (putF (newO h1 2 3 (fun g => defaultValue (xty 2 (g - 128 * 2)))) 256 (hT h1) (.int x)) 257 (hT h1) (.int y)) 258 (hT h1) (.int z) = hN
  have fN : Fr h1 hN (fun _ => False) 1 3 := by
    rw [← hhN]
    refine ⟨Nat.le_add_right _ _, Nat.le_refl _, Nat.le_add_right _ _, Nat.le_refl _, rfl, fun a ha _ => ?_⟩
    have ne : a ≠ hT h1 := Nat.ne_of_lt ha
    exact (samA.newO ne).trans ((samA.putF ne).trans ((samA.putF ne).trans (samA.putF ne)))
  have sN : ∀ a, a < hT h1 → samA h1 hN a := fun a ha => fN.2.2.2.2.2 a ha id
  have TN : hT hN = hT h1 + 1 := by rw [← hhN]; rfl
  have kp : hC hN (hT h1) = 18 := by rw [← hhN]; exact if_pos rfl
  have fp : FaR hN (hT h1) (x, y, z) := ⟨kp, by rw [← hhN]; exact (hF_putF_f (by decide)).trans ((hF_putF_f (by decide)).trans hF_putF), by rw [← hhN]; exact (hF_putF_f (by decide)).trans hF_putF, by rw [← hhN]; exact hF_putF⟩
  have lN' : Lst hN lf ef l.length fa := i3.same (sN _ i3.2.2.2.2.2.1) (sN _ i3.2.2.2.2.2.2.1) (fun i hi => (sN _ (i3.2.2.2.2.2.2.2.2 i hi).2.2.2).1) fN.2.2.2.2.1 (by omega)
  have insT : ∀ a, a < hT h1 → samA h1 hN a := sN
  refine c_add lN' (by omega) (by rw [kp]; decide) (by rw [kp]; decide) (by omega) (fun h2 e' l2 w2 f2 => K h2 ?_)
  have hzN : hC hN (hZ h) = 14 := by
    rw [(sN _ (by have := f.1; omega)).1, (w.sam hz2 hlf (Classical.em (ef0 = hZ h) |>.symm.imp (fun q z => q z.symm) id)).1]
    exact hz1
  have fr : Fr h1 h2 (fun b => b = lf ∨ (b = ef ∧ hC hN ef = 7)) 2 417 := fN.trans f2 (fun _ _ q => q.elim) (fun _ _ q => q) (by omega) (by omega)
  have e7 : hC hN ef = 7 → ef ≠ hZ h := fun q z => by rw [z, hzN] at q; cases q
  have sI : samA h1 h2 ins := fr.2.2.2.2.2 ins (by have := f.1; omega) (fun q => q.elim (kne i1 i3.1 (by decide)) (fun q => kne2 i3.ke i1 (by decide) (by decide) q.1.symm))
  have sF : ∀ a, a < hT hN → hC hN a = 18 → samA hN h2 a := fun a ha hk => f2.2.2.2.2.2 a ha (fun q => q.elim (kne hk lN'.1 (by decide)) (fun q => kne2 lN'.ke hk (by decide) (by decide) q.1.symm))
  have same : ∀ {h h' : sm_H} {p : Nat} {fl : Flt}, FaR h p fl → samA h h' p → FaR h' p fl := fun x s => ⟨s.1.trans x.1, (s.2.2.1 _).trans x.2.1, (s.2.2.1 _).trans x.2.2.1, (s.2.2.1 _).trans x.2.2.2⟩
  refine ⟨e', (fun i => if i = l.length then hT h1 else fa i), ⟨?_, ?_, ?_, fun i fl hi => ?_⟩, f.trans fr (fun _ _ q => q) (fun b hb q => ?_) (Nat.le_refl _) (Nat.le_refl _), ?_, fun i hi => ?_⟩
  · exact sI.1.trans i1
  · exact (sI.2.2.1 _).trans i2
  · rw [List.length_append]; exact l2
  · dsimp only
    have hi2 := (List.getElem?_eq_some_iff.mp hi).1
    rw [List.length_append] at hi2
    have hi2 : i < l.length + 1 := hi2
    by_cases q : i = l.length
    · rw [if_pos q]
      rw [q, List.getElem?_append_right (Nat.le_refl _), Nat.sub_self] at hi
      cases hi
      exact same fp (sF _ (by omega) kp)
    · rw [if_neg q]
      rw [List.getElem?_append_left (by omega)] at hi
      have hfi := (i3.2.2.2.2.2.2.2.2 i (by omega)).2.2.2
      have x1 := same (i4 i fl hi) (sN _ hfi)
      exact same x1 (sF _ (by omega) x1.1)
  · rcases q with q | q
    · exact Or.inl q
    · rcases e with e | e
      · exact Or.inr ⟨by rw [q.1, e], by rw [← e]; exact e7 q.2⟩
      · omega
  · rcases w2 with w2 | w2
    · rw [w2.1]; exact e
    · right; have := f.1; omega
  · dsimp only
    rw [List.length_append] at hi
    have hi : i < l.length + 1 := hi
    by_cases q : i = l.length
    · rw [if_pos q]; exact f.1
    · rw [if_neg q]; exact g i (by omega)
theorem INW.ed {h h1 : sm_H} {ins lf ef0 dT dU : Nat} {l : List Flt} (w : INW h h1 ins lf ef0 l dT dU) (hz2 : hZ h < hT h) (hlf : hZ h ≠ lf) {lo hi ed lp ep : Nat} {pa : Nat → Nat} {bt : Nat → Nat → Nat} {E : Ed} {un : Nat → Int32} (X : EdF h ed lp ep pa bt E un) (O : EdO h (inI lo hi) ed lp ep pa E) (hhi : hi ≤ hT h) (hed : ∀ a, inI lo hi a → a ≠ lf ∧ a ≠ ef0) : EdF h1 ed lp ep pa bt E un := by
  have f := w.choose_spec.choose_spec.2.1
  exact (EdFO.same X O (fun b hb => w.sam (by have := hb.2; omega) (hed b hb).1 (Or.inl (hed b hb).2)) (w.sam hz2 hlf (Classical.em (ef0 = hZ h) |>.symm.imp (fun q z => q z.symm) id)) f.2.2.2.2.1 f.1).1
theorem c_area {h h1 : sm_H} {Q : Nat → Option Value → sm_H → Prop} {ins lf ef0 dT dU : Nat} {l : List Flt} (w : INW h h1 ins lf ef0 l dT dU) (hz1 : hC h (hZ h) = 14) (hz2 : hZ h < hT h) (hlf : hZ h ≠ lf) (hins : ins < hT h) (hl : l.length < 199) {lo hi ed lp ep : Nat} {pa : Nat → Nat} {bt : Nat → Nat → Nat} {E : Ed} {un : Nat → Int32} (X : EdF h ed lp ep pa bt E un) (O : EdO h (inI lo hi) ed lp ep pa E) (hWd : EdW E) (hn : E.1.length ≤ 60) (hhi : hi ≤ hT h) (hed : ∀ a, inI lo hi a → a ≠ lf ∧ a ≠ ef0) {i : Nat} (hi : i < E.1.length) (hk : atP E.1 1 i = nI 0 ∨ atP E.1 1 i = nI 1) (K : ∀ h2, INW h h2 ins lf ef0 (l ++ flt2 E i) (dT + 2) (dU + 417) → Q 0 none h2) : sm_wp 41 0 [.ref ins, .ref ed, .ref (pa i), jk, jk, jk] [] h1 Q := by
  have X1 := w.ed hz2 hlf X O hhi hed
  obtain ⟨⟨e0, e1, e2, e3⟩, l1, hP, hBt⟩ := id X1
  obtain ⟨ef9, fa9, ⟨i1, i2, i3, i4⟩, f9, _⟩ := id w
  have lT : lf < hT h1 := i3.2.2.2.2.2.1
  have pT : ∀ k, k < E.1.length → pa k < hT h1 := fun k hk => (l1.2.2.2.2.2.2.2.2 k hk).2.2.2
  refine wp_kn k_41 rfl rfl ?_
  refine wp_pure k_41 rfl rfl ?_
  refine dn (n := i) (P := fun k => ∀ (x4 : Value), ∀ (x5 : Value), (∀ j, j < k → ¬ (likE E.1 j i ∧ mtsE E.1 i j)) → sm_wp 41 2 [.ref ins, .ref ed, .ref (pa i), .int (nI k), x4, x5] [] h1 Q) ?_ ?_ 0 (Nat.zero_le _) (jk) (jk) (fun j hj => absurd hj (Nat.not_lt_zero j))
  · intro x4 x5 hI
    
    refine wp_pure k_41 rfl rfl ?_
    refine wp_pure k_41 rfl rfl ?_
    refine wp_get k_41 rfl (hP i (by omega)).1 (hP i (by omega)).2.2.2.2.2.2.1 ?_
    refine wp_br k_41 rfl rfl rfl rfl (fun _ => ?_) (fun z => absurd (Int32.le_refl _) z)
    have e := fstP_none (f := fun k => likE E.1 k i ∧ mtsE E.1 i k) hI
    have e2 : flt2 E i = [] := ift_n (fun q => q.2 e)
    rw [e2, List.append_nil] at K
    exact wp_vrt k_41 rfl rfl (K h1 ⟨ef9, fa9, ⟨i1, i2, i3, i4⟩, f9.mono (fun _ _ q => q) (by omega) (by omega), by assumption⟩)
  · intro k hk0 ih x4 x5 hI
    have hk8 : k < E.1.length := by omega
    refine wp_pure k_41 rfl rfl ?_
    refine wp_pure k_41 rfl rfl ?_
    refine wp_get k_41 rfl (hP i (by omega)).1 (hP i (by omega)).2.2.2.2.2.2.1 ?_
    refine wp_br k_41 rfl rfl rfl rfl (fun z => absurd z (nI_ge hk0 (by omega))) (fun _ => ?_)
    refine wp_pure k_41 rfl rfl ?_
    refine wp_pure k_41 rfl rfl ?_
    refine wp_get k_41 rfl e0 e1 ?_
    refine wp_iv k_41 rfl [] rfl l1.1 (r := [.int (nI k)]) (Nat.le_of_ble_eq_true rfl) (Nat.le_of_ble_eq_true rfl) rfl ?_
    refine c_size l1 ⟨rfl, ?_⟩
    refine wp_br k_41 rfl rfl rfl rfl (fun z => absurd z (nI_ge hk8 (by omega))) (fun _ => ?_)
    refine wp_pure k_41 rfl rfl ?_
    refine wp_get k_41 rfl e0 e1 ?_
    refine wp_pure k_41 rfl rfl ?_
    refine wp_iv k_41 rfl [.int (nI k)] rfl l1.1 (r := []) (Nat.le_of_ble_eq_true rfl) (Nat.le_of_ble_eq_true rfl) rfl ?_
    refine c_get l1 (by omega) ⟨rfl, ?_⟩
    refine wp_cc k_41 rfl (hP k (by omega)).1 ?_
    refine wp_pure k_41 rfl rfl ?_
    refine wp_pure k_41 rfl rfl ?_
    refine wp_get k_41 rfl (hP k (by omega)).1 ((hP k (by omega)).2.1 1 (by decide)) ?_
    refine wp_pure k_41 rfl rfl ?_
    refine wp_get k_41 rfl (hP i (by omega)).1 ((hP i (by omega)).2.1 1 (by decide)) ?_
    refine wp_br k_41 rfl rfl rfl rfl (fun (z43 : ¬ atP E.1 1 k = atP E.1 1 i) => ?_) (fun (z43 : ¬ (¬ atP E.1 1 k = atP E.1 1 i)) => ?_)
    · refine wp_kn k_41 rfl rfl ?_
      refine wp_pure k_41 rfl rfl ?_
      refine wp_pure k_41 rfl rfl ?_
      refine wp_br k_41 rfl rfl rfl rfl (fun _ => ?_) (fun z => absurd (show (nI 0 : Int32) = 0 by decide) z)
      refine wp_inc k_41 rfl rfl rfl ?_
      refine wp_br k_41 rfl rfl rfl rfl (fun _ => ?_) (fun z => absurd trivial z)
      exact ih (.ref (pa k)) (.int (nI 0)) (fun j hj => by
        by_cases q : j = k
        · rw [q]; exact fun q => z43 q.1.1
        · exact hI j (by omega))
    · refine wp_pure k_41 rfl rfl ?_
      refine wp_iv k_41 rfl [] rfl (hP k (by omega)).1 (r := []) (Nat.le_of_ble_eq_true rfl) (Nat.le_of_ble_eq_true rfl) rfl ?_
      refine c_baseN X1 hk8 (hWd.bs hk8) ⟨rfl, ?_⟩
      refine wp_pure k_41 rfl rfl ?_
      refine wp_iv k_41 rfl [] rfl (hP i (by omega)).1 (r := [.int (atP E.1 7 k)]) (Nat.le_of_ble_eq_true rfl) (Nat.le_of_ble_eq_true rfl) rfl ?_
      refine c_baseN X1 hi (hWd.bs hi) ⟨rfl, ?_⟩
      refine wp_br k_41 rfl rfl rfl rfl (fun (z55 : ¬ atP E.1 7 k = atP E.1 7 i) => ?_) (fun (z55 : ¬ (¬ atP E.1 7 k = atP E.1 7 i)) => ?_)
      · refine wp_kn k_41 rfl rfl ?_
        refine wp_pure k_41 rfl rfl ?_
        refine wp_pure k_41 rfl rfl ?_
        refine wp_br k_41 rfl rfl rfl rfl (fun _ => ?_) (fun z => absurd (show (nI 0 : Int32) = 0 by decide) z)
        refine wp_inc k_41 rfl rfl rfl ?_
        refine wp_br k_41 rfl rfl rfl rfl (fun _ => ?_) (fun z => absurd trivial z)
        exact ih (.ref (pa k)) (.int (nI 0)) (fun j hj => by
          by_cases q : j = k
          · rw [q]; exact fun q => z55 q.1.2.1
          · exact hI j (by omega))
      · refine wp_pure k_41 rfl rfl ?_
        refine wp_get k_41 rfl (hP k (by omega)).1 ((hP k (by omega)).2.1 6 (by decide)) ?_
        refine wp_pure k_41 rfl rfl ?_
        refine wp_get k_41 rfl (hP i (by omega)).1 ((hP i (by omega)).2.1 6 (by decide)) ?_
        refine wp_br k_41 rfl rfl rfl rfl (fun (z67 : ¬ atP E.1 6 k = atP E.1 6 i) => ?_) (fun (z67 : ¬ (¬ atP E.1 6 k = atP E.1 6 i)) => ?_)
        · refine wp_kn k_41 rfl rfl ?_
          refine wp_pure k_41 rfl rfl ?_
          refine wp_pure k_41 rfl rfl ?_
          refine wp_br k_41 rfl rfl rfl rfl (fun _ => ?_) (fun z => absurd (show (nI 0 : Int32) = 0 by decide) z)
          refine wp_inc k_41 rfl rfl rfl ?_
          refine wp_br k_41 rfl rfl rfl rfl (fun _ => ?_) (fun z => absurd trivial z)
          exact ih (.ref (pa k)) (.int (nI 0)) (fun j hj => by
            by_cases q : j = k
            · rw [q]; exact fun q => z67 q.1.2.2
            · exact hI j (by omega))
        · refine wp_kn k_41 rfl rfl ?_
          refine wp_br k_41 rfl rfl rfl rfl (fun _ => ?_) (fun z => absurd trivial z)
          refine wp_pure k_41 rfl rfl ?_
          refine wp_pure k_41 rfl rfl ?_
          refine wp_br k_41 rfl rfl rfl rfl (fun z => absurd z (show ¬ ((nI 1 : Int32) = 0) by decide)) (fun _ => ?_)
          refine wp_pure k_41 rfl rfl ?_
          refine wp_pure k_41 rfl rfl ?_
          refine wp_iv k_41 rfl [.ref (pa i)] rfl (hP k (by omega)).1 (r := []) (Nat.le_of_ble_eq_true rfl) (Nat.le_of_ble_eq_true rfl) rfl ?_
          refine c_shares X1 hi hk8 (fun zm => ⟨rfl, ?_⟩) (fun zm => ⟨rfl, ?_⟩)
          · refine wp_br k_41 rfl rfl rfl rfl (fun z => absurd z (show ¬ ((nI 1 : Int32) = 0) by decide)) (fun _ => ?_)
            refine wp_pure k_41 rfl rfl ?_
            refine wp_get k_41 rfl i1 i2 ?_
            refine wp_new k_41 rfl rfl ?_
            show sm_wp 41 98 [.ref ins, .ref ed, .ref (pa i), .int (nI k), .ref (pa k), .int (nI 1)] [.ref (hT h1), .ref lf] _ Q
            refine wp_pure k_41 rfl rfl ?_
            refine wp_kn k_41 rfl rfl ?_
            refine wp_pure k_41 rfl rfl ?_
            refine wp_get k_41 rfl ((if_neg (Nat.ne_of_lt (pT i (by omega)))).trans (hP i (by omega)).1) ((if_neg (Nat.ne_of_lt (pT i (by omega)))).trans (hP i (by omega)).2.2.2.2.2.2.1) ?_
            refine wp_pure k_41 rfl rfl ?_
            refine wp_get k_41 rfl ((if_neg (Nat.ne_of_lt (pT k (by omega)))).trans (hP k (by omega)).1) ((if_neg (Nat.ne_of_lt (pT k (by omega)))).trans (hP k (by omega)).2.2.2.2.2.2.1) ?_
            refine wp_ic k_41 rfl (by decide) [.int (nI 2), .int (nI i), .int (nI k)] rfl (r := [.ref (hT h1), .ref lf]) (Nat.le_of_ble_eq_true rfl) (Nat.le_of_ble_eq_true rfl) rfl ?_
            refine wp_pure k_26 rfl rfl ?_
            refine wp_obj k_26 rfl (Nat.le_of_ble_eq_true rfl) ?_
            refine wp_pure k_26 rfl rfl ?_
            refine wp_pure k_26 rfl rfl ?_
            refine wp_put k_26 rfl (if_pos rfl) rfl rfl ?_
            refine wp_pure k_26 rfl rfl ?_
            refine wp_pure k_26 rfl rfl ?_
            refine wp_put k_26 rfl (if_pos rfl) rfl rfl ?_
            refine wp_pure k_26 rfl rfl ?_
            refine wp_pure k_26 rfl rfl ?_
            refine wp_put k_26 rfl (if_pos rfl) rfl rfl ?_
            refine wp_vrt k_26 rfl rfl ⟨rfl, ?_⟩
            refine wp_iv k_41 rfl [.ref (hT h1)] rfl ((if_neg (by omega)).trans i3.1) (r := []) (Nat.le_of_ble_eq_true rfl) (Nat.le_of_ble_eq_true rfl) rfl ?_
            refine c_addF w hz1 hz2 hlf hins (by omega) (fun h2 w2 => ⟨rfl, ?_⟩)
            have wz := w2
            refine wp_pure k_41 rfl rfl ?_
            have e := fstP_some (f := fun k => likE E.1 k i ∧ mtsE E.1 i k) hk0 ⟨⟨Classical.not_not.mp z43, Classical.not_not.mp z55, Classical.not_not.mp z67⟩, zm⟩ hI
            have e2 : flt2 E i = [(nI 2, nI i, nI k)] := by
              have ef : fmE E.1 i = some k := e
              unfold flt2
              rw [ef]
              exact ift_y ⟨hk, fun q => by cases q⟩
            rw [e2] at K
            exact wp_vrt k_41 rfl rfl (K _ wz)
          · refine wp_br k_41 rfl rfl rfl rfl (fun _ => ?_) (fun z => absurd (show (nI 0 : Int32) = 0 by decide) z)
            refine wp_inc k_41 rfl rfl rfl ?_
            refine wp_br k_41 rfl rfl rfl rfl (fun _ => ?_) (fun z => absurd trivial z)
            exact ih (.ref (pa k)) (.int (nI 1)) (fun j hj => by
              by_cases q : j = k
              · rw [q]; exact fun q => zm q.2
              · exact hI j (by omega))
theorem INW.gor {h h1 : sm_H} {ins lf ef0 dT dU : Nat} {l : List Flt} (w : INW h h1 ins lf ef0 l dT dU) (ke0 : hC h ef0 = 14 ∨ hC h ef0 = 7) (klf : hC h lf = 26) {E : Ed} {go ed dk rc ex : Nat} (G : GoR h go ed E dk rc ex) (hgl : go < hT h) : GoR h1 go ed E dk rc ex :=
  G.same (w.sam hgl (kne G.1.1 klf (by decide)) (Or.inl (Ne.symm (kne2 ke0 G.1.1 (by decide) (by decide)))))
theorem c_inPiece {h h1 : sm_H} {Q : Nat → Option Value → sm_H → Prop} {ins lf ef0 dT dU : Nat} {l : List Flt} (w : INW h h1 ins lf ef0 l dT dU) (hz1 : hC h (hZ h) = 14) (hz2 : hZ h < hT h) (hlf : hZ h ≠ lf) (hins : ins < hT h) (hl : l.length < 199) {lo hi ed lp ep : Nat} {pa : Nat → Nat} {bt : Nat → Nat → Nat} {E : Ed} {un : Nat → Int32} (X : EdF h ed lp ep pa bt E un) (O : EdO h (inI lo hi) ed lp ep pa E) (hWd : EdW E) (hn : E.1.length ≤ 60) (hhi : hi ≤ hT h) (hed : ∀ a, inI lo hi a → a ≠ lf ∧ a ≠ ef0) {go dk rc ex : Nat} (G : GoR h go ed E dk rc ex) (hgl : go < hT h) (ke0 : hC h ef0 = 14 ∨ hC h ef0 = 7) (klf : hC h lf = 26) {i : Nat} (hi : i < E.1.length) (hk : atP E.1 1 i = nI 2) (K : ∀ h2, INW h h2 ins lf ef0 (l ++ flt5 E i) (dT + 2) (dU + 417) → Q 0 none h2) : sm_wp 44 0 [.ref ins, .ref (pa i), .ref go] [] h1 Q := by
  have X1 := w.ed hz2 hlf X O hhi hed
  obtain ⟨⟨e0, e1, e2, e3⟩, l1, hP, hBt⟩ := id X1
  obtain ⟨ef9, fa9, ⟨i1, i2, i3, i4⟩, f9, _⟩ := id w
  have lT : lf < hT h1 := i3.2.2.2.2.2.1
  have pT : ∀ k, k < E.1.length → pa k < hT h1 := fun k hk => (l1.2.2.2.2.2.2.2.2 k hk).2.2.2
  have G1 := w.gor ke0 klf G hgl
  by_cases zl : lnkE E i
  · have eL : pit (lnkE E i) (nI 1) (nI 0) = nI 1 := pit_y zl
    refine wp_pure k_44 rfl rfl ?_
    refine wp_get k_44 rfl (hP i (by omega)).1 ((hP i hi).2.2.2.2.1.trans (congrArg Value.int eL)) ?_
    refine wp_br k_44 rfl rfl rfl rfl (fun z => absurd z (show ¬ ((nI 1 : Int32) = 0) by decide)) (fun _ => ?_)
    refine wp_pure k_44 rfl rfl ?_
    refine wp_pure k_44 rfl rfl ?_
    refine wp_iv k_44 rfl [.ref (pa i)] rfl G1.1.1 (r := []) (Nat.le_of_ble_eq_true rfl) (Nat.le_of_ble_eq_true rfl) rfl ?_
    refine c_isExiting X1 G1 hWd hn hi (fun zr => ⟨rfl, ?_⟩) (fun zr => ⟨rfl, ?_⟩)
    · refine wp_br k_44 rfl rfl rfl rfl (fun _ => ?_) (fun z => absurd (show ¬ (nI 1 : Int32) = 0 by decide) z)
      rw [show flt5 E i = [] from ift_n (fun q => q.2.2 zr), List.append_nil] at K
      exact wp_vrt k_44 rfl rfl (K h1 ⟨ef9, fa9, ⟨i1, i2, i3, i4⟩, f9.mono (fun _ _ q => q) (by omega) (by omega), by assumption⟩)
    · refine wp_br k_44 rfl rfl rfl rfl (fun z => absurd z (show ¬ (¬ (nI 0 : Int32) = 0) by decide)) (fun _ => ?_)
      refine wp_pure k_44 rfl rfl ?_
      refine wp_get k_44 rfl i1 i2 ?_
      refine wp_new k_44 rfl rfl ?_
      show sm_wp 44 22 [.ref ins, .ref (pa i), .ref go] [.ref (hT h1), .ref lf] _ Q
      refine wp_pure k_44 rfl rfl ?_
      refine wp_kn k_44 rfl rfl ?_
      refine wp_pure k_44 rfl rfl ?_
      refine wp_get k_44 rfl ((if_neg (Nat.ne_of_lt (pT i (by omega)))).trans (hP i (by omega)).1) ((if_neg (Nat.ne_of_lt (pT i (by omega)))).trans (hP i (by omega)).2.2.2.2.2.2.1) ?_
      refine wp_km k_44 rfl rfl ?_
      refine wp_ic k_44 rfl (by decide) [.int (nI 5), .int (nI i), .int (-1)] rfl (r := [.ref (hT h1), .ref lf]) (Nat.le_of_ble_eq_true rfl) (Nat.le_of_ble_eq_true rfl) rfl ?_
      refine wp_pure k_26 rfl rfl ?_
      refine wp_obj k_26 rfl (Nat.le_of_ble_eq_true rfl) ?_
      refine wp_pure k_26 rfl rfl ?_
      refine wp_pure k_26 rfl rfl ?_
      refine wp_put k_26 rfl (if_pos rfl) rfl rfl ?_
      refine wp_pure k_26 rfl rfl ?_
      refine wp_pure k_26 rfl rfl ?_
      refine wp_put k_26 rfl (if_pos rfl) rfl rfl ?_
      refine wp_pure k_26 rfl rfl ?_
      refine wp_pure k_26 rfl rfl ?_
      refine wp_put k_26 rfl (if_pos rfl) rfl rfl ?_
      refine wp_vrt k_26 rfl rfl ⟨rfl, ?_⟩
      refine wp_iv k_44 rfl [.ref (hT h1)] rfl ((if_neg (by omega)).trans i3.1) (r := []) (Nat.le_of_ble_eq_true rfl) (Nat.le_of_ble_eq_true rfl) rfl ?_
      refine c_addF w hz1 hz2 hlf hins (by omega) (fun h2 w2 => ⟨rfl, ?_⟩)
      have wz := w2
      refine wp_pure k_44 rfl rfl ?_
      rw [show flt5 E i = [(nI 5, nI i, -1)] from ift_y ⟨hk, zl, zr⟩] at K
      exact wp_vrt k_44 rfl rfl (K _ wz)
  · have eL : pit (lnkE E i) (nI 1) (nI 0) = nI 0 := pit_n zl
    refine wp_pure k_44 rfl rfl ?_
    refine wp_get k_44 rfl (hP i (by omega)).1 ((hP i hi).2.2.2.2.1.trans (congrArg Value.int eL)) ?_
    refine wp_br k_44 rfl rfl rfl rfl (fun _ => ?_) (fun z => absurd (show (nI 0 : Int32) = 0 by decide) z)
    rw [show flt5 E i = [] from ift_n (fun q => zl q.2.1), List.append_nil] at K
    exact wp_vrt k_44 rfl rfl (K h1 ⟨ef9, fa9, ⟨i1, i2, i3, i4⟩, f9.mono (fun _ _ q => q) (by omega) (by omega), by assumption⟩)
theorem c_inAt {h h1 : sm_H} {Q : Nat → Option Value → sm_H → Prop} {ins lf ef0 dT dU : Nat} {l : List Flt} (w : INW h h1 ins lf ef0 l dT dU) (hz1 : hC h (hZ h) = 14) (hz2 : hZ h < hT h) (hlf : hZ h ≠ lf) (hins : ins < hT h) (hl : l.length < 199) {lo hi ed lp ep : Nat} {pa : Nat → Nat} {bt : Nat → Nat → Nat} {E : Ed} {un : Nat → Int32} (X : EdF h ed lp ep pa bt E un) (O : EdO h (inI lo hi) ed lp ep pa E) (hWd : EdW E) (hn : E.1.length ≤ 60) (hhi : hi ≤ hT h) (hed : ∀ a, inI lo hi a → a ≠ lf ∧ a ≠ ef0) {i : Nat} (hi : i < E.1.length) (hk : atP E.1 1 i = nI 3 ∨ atP E.1 1 i = nI 4 ∨ atP E.1 1 i = nI 5) (K : ∀ h2, INW h h2 ins lf ef0 (l ++ flt4 E i) (dT + 2) (dU + 417) → Q 0 none h2) : sm_wp 45 0 [.ref ins, .ref (pa i)] [] h1 Q := by
  have X1 := w.ed hz2 hlf X O hhi hed
  obtain ⟨⟨e0, e1, e2, e3⟩, l1, hP, hBt⟩ := id X1
  obtain ⟨ef9, fa9, ⟨i1, i2, i3, i4⟩, f9, _⟩ := id w
  have lT : lf < hT h1 := i3.2.2.2.2.2.1
  have pT : ∀ k, k < E.1.length → pa k < hT h1 := fun k hk => (l1.2.2.2.2.2.2.2.2 k hk).2.2.2
  obtain ⟨r, hr, hrl, _⟩ := hWd.of3 hi hk
  have ho : rO E.1 i = r := by unfold rO; rw [hr]; exact nI_clamp (by omega)
  by_cases zl : lnkE E r
  · have eL : pit (lnkE E r) (nI 1) (nI 0) = nI 1 := pit_y zl
    refine wp_pure k_45 rfl rfl ?_
    refine wp_get k_45 rfl (hP i (by omega)).1 ((hP i (by omega)).2.2.1.trans (bsV_y hr (by omega))) ?_
    refine wp_br k_45 rfl rfl rfl rfl (fun _ => ?_) (fun z => absurd trivial z)
    refine wp_pure k_45 rfl rfl ?_
    refine wp_get k_45 rfl (hP i (by omega)).1 ((hP i (by omega)).2.2.1.trans (bsV_y hr (by omega))) ?_
    refine wp_get k_45 rfl (hP r (by omega)).1 ((hP r hrl).2.2.2.2.1.trans (congrArg Value.int eL)) ?_
    refine wp_br k_45 rfl rfl rfl rfl (fun _ => ?_) (fun z => absurd (show ¬ (nI 1 : Int32) = 0 by decide) z)
    rw [show flt4 E i = [] from ift_n (fun q => q.2 (by rw [ho]; exact zl)), List.append_nil] at K
    exact wp_vrt k_45 rfl rfl (K h1 ⟨ef9, fa9, ⟨i1, i2, i3, i4⟩, f9.mono (fun _ _ q => q) (by omega) (by omega), by assumption⟩)
  · have eL : pit (lnkE E r) (nI 1) (nI 0) = nI 0 := pit_n zl
    refine wp_pure k_45 rfl rfl ?_
    refine wp_get k_45 rfl (hP i (by omega)).1 ((hP i (by omega)).2.2.1.trans (bsV_y hr (by omega))) ?_
    refine wp_br k_45 rfl rfl rfl rfl (fun _ => ?_) (fun z => absurd trivial z)
    refine wp_pure k_45 rfl rfl ?_
    refine wp_get k_45 rfl (hP i (by omega)).1 ((hP i (by omega)).2.2.1.trans (bsV_y hr (by omega))) ?_
    refine wp_get k_45 rfl (hP r (by omega)).1 ((hP r hrl).2.2.2.2.1.trans (congrArg Value.int eL)) ?_
    refine wp_br k_45 rfl rfl rfl rfl (fun z => absurd z (show ¬ (¬ (nI 0 : Int32) = 0) by decide)) (fun _ => ?_)
    refine wp_pure k_45 rfl rfl ?_
    refine wp_get k_45 rfl i1 i2 ?_
    refine wp_new k_45 rfl rfl ?_
    show sm_wp 45 24 [.ref ins, .ref (pa i)] [.ref (hT h1), .ref lf] _ Q
    refine wp_pure k_45 rfl rfl ?_
    refine wp_kn k_45 rfl rfl ?_
    refine wp_pure k_45 rfl rfl ?_
    refine wp_get k_45 rfl ((if_neg (Nat.ne_of_lt (pT i (by omega)))).trans (hP i (by omega)).1) ((if_neg (Nat.ne_of_lt (pT i (by omega)))).trans (hP i (by omega)).2.2.2.2.2.2.1) ?_
    refine wp_pure k_45 rfl rfl ?_
    refine wp_iv k_45 rfl [] rfl ((if_neg (Nat.ne_of_lt (pT i (by omega)))).trans (hP i (by omega)).1) (r := [.int (nI i), .int (nI 4), .ref (hT h1), .ref (hT h1), .ref lf]) (Nat.le_of_ble_eq_true rfl) (Nat.le_of_ble_eq_true rfl) rfl ?_
    refine wp_pure k_31 rfl rfl ?_
    refine wp_get k_31 rfl ((if_neg (Nat.ne_of_lt (pT i (by omega)))).trans (hP i (by omega)).1) ((if_neg (Nat.ne_of_lt (pT i (by omega)))).trans ((hP i (by omega)).2.2.1.trans (bsV_y hr (by omega)))) ?_
    refine wp_br k_31 rfl rfl rfl rfl (fun _ => ?_) (fun z => absurd trivial z)
    refine wp_pure k_31 rfl rfl ?_
    refine wp_get k_31 rfl ((if_neg (Nat.ne_of_lt (pT i (by omega)))).trans (hP i (by omega)).1) ((if_neg (Nat.ne_of_lt (pT i (by omega)))).trans ((hP i (by omega)).2.2.1.trans (bsV_y hr (by omega)))) ?_
    refine wp_get k_31 rfl ((if_neg (Nat.ne_of_lt (pT r (by omega)))).trans (hP r (by omega)).1) ((if_neg (Nat.ne_of_lt (pT r (by omega)))).trans (hP r (by omega)).2.2.2.2.2.2.1) ?_
    refine wp_irt k_31 rfl rfl rfl ⟨rfl, ?_⟩
    refine wp_ic k_45 rfl (by decide) [.int (nI 4), .int (nI i), .int (nI r)] rfl (r := [.ref (hT h1), .ref lf]) (Nat.le_of_ble_eq_true rfl) (Nat.le_of_ble_eq_true rfl) rfl ?_
    refine wp_pure k_26 rfl rfl ?_
    refine wp_obj k_26 rfl (Nat.le_of_ble_eq_true rfl) ?_
    refine wp_pure k_26 rfl rfl ?_
    refine wp_pure k_26 rfl rfl ?_
    refine wp_put k_26 rfl (if_pos rfl) rfl rfl ?_
    refine wp_pure k_26 rfl rfl ?_
    refine wp_pure k_26 rfl rfl ?_
    refine wp_put k_26 rfl (if_pos rfl) rfl rfl ?_
    refine wp_pure k_26 rfl rfl ?_
    refine wp_pure k_26 rfl rfl ?_
    refine wp_put k_26 rfl (if_pos rfl) rfl rfl ?_
    refine wp_vrt k_26 rfl rfl ⟨rfl, ?_⟩
    refine wp_iv k_45 rfl [.ref (hT h1)] rfl ((if_neg (by omega)).trans i3.1) (r := []) (Nat.le_of_ble_eq_true rfl) (Nat.le_of_ble_eq_true rfl) rfl ?_
    refine c_addF w hz1 hz2 hlf hins (by omega) (fun h2 w2 => ⟨rfl, ?_⟩)
    have wz := w2
    refine wp_pure k_45 rfl rfl ?_
    rw [show flt4 E i = [(nI 4, nI i, nI r)] by unfold flt4; rw [hr]; exact ift_y ⟨hk, by rw [ho]; exact zl⟩] at K
    exact wp_vrt k_45 rfl rfl (K _ wz)
theorem c_inBin2 {h h1 : sm_H} {Q : Nat → Option Value → sm_H → Prop} {ins lf ef0 dT dU : Nat} {l : List Flt} (w : INW h h1 ins lf ef0 l dT dU) (hz1 : hC h (hZ h) = 14) (hz2 : hZ h < hT h) (hlf : hZ h ≠ lf) (hins : ins < hT h) (hl : l.length < 199) {lo hi ed lp ep : Nat} {pa : Nat → Nat} {bt : Nat → Nat → Nat} {E : Ed} {un : Nat → Int32} (X : EdF h ed lp ep pa bt E un) (O : EdO h (inI lo hi) ed lp ep pa E) (hWd : EdW E) (hn : E.1.length ≤ 60) (hhi : hi ≤ hT h) (hed : ∀ a, inI lo hi a → a ≠ lf ∧ a ≠ ef0) {go dk rc ex : Nat} (G : GoR h go ed E dk rc ex) (hgl : go < hT h) (ke0 : hC h ef0 = 14 ∨ hC h ef0 = 7) (klf : hC h lf = 26) {i : Nat} (hi : i < E.1.length) (hk : atP E.1 1 i = nI 1) (K : ∀ h2, INW h h2 ins lf ef0 (l ++ flt2 E i ++ flt3 E i) (dT + 4) (dU + 834) → Q 0 none h2) : sm_wp 42 42 [.ref ins, .ref ed, .ref (pa i), .ref go] [] h1 Q := by
  have X1 := w.ed hz2 hlf X O hhi hed
  obtain ⟨⟨e0, e1, e2, e3⟩, l1, hP, hBt⟩ := id X1
  obtain ⟨ef9, fa9, ⟨i1, i2, i3, i4⟩, f9, _⟩ := id w
  have lT : lf < hT h1 := i3.2.2.2.2.2.1
  have pT : ∀ k, k < E.1.length → pa k < hT h1 := fun k hk => (l1.2.2.2.2.2.2.2.2 k hk).2.2.2
  refine wp_pure k_42 rfl rfl ?_
  refine wp_pure k_42 rfl rfl ?_
  refine wp_pure k_42 rfl rfl ?_
  refine wp_iv k_42 rfl [.ref ed, .ref (pa i)] rfl i1 (r := []) (Nat.le_of_ble_eq_true rfl) (Nat.le_of_ble_eq_true rfl) rfl ?_
  refine c_area w hz1 hz2 hlf hins (by omega) X O hWd hn hhi hed hi (Or.inr hk) (fun h2 w2 => ⟨rfl, ?_⟩)
  have le2 : (l ++ flt2 E i).length ≤ l.length + 1 := by rw [List.length_append]; exact Nat.add_le_add_left (ift_le _ _) _
  have X2 := w2.ed hz2 hlf X O hhi hed
  have G2 := w2.gor ke0 klf G hgl
  obtain ⟨⟨e0, e1, e2, e3⟩, l1, hP, hBt⟩ := id X2
  obtain ⟨ef9, fa9, ⟨i1, i2, i3, i4⟩, f9, _⟩ := id w2
  have lT : lf < hT h2 := i3.2.2.2.2.2.1
  have pT : ∀ k, k < E.1.length → pa k < hT h2 := fun k hk => (l1.2.2.2.2.2.2.2.2 k hk).2.2.2
  refine wp_pure k_42 rfl rfl ?_
  refine wp_pure k_42 rfl rfl ?_
  refine wp_iv k_42 rfl [.ref (pa i)] rfl G2.1.1 (r := []) (Nat.le_of_ble_eq_true rfl) (Nat.le_of_ble_eq_true rfl) rfl ?_
  refine c_isServed X2 G2 hWd hn hi (fun zr => ⟨rfl, ?_⟩) (fun zr => ⟨rfl, ?_⟩)
  · refine wp_br k_42 rfl rfl rfl rfl (fun _ => ?_) (fun z => absurd (show ¬ (nI 1 : Int32) = 0 by decide) z)
    rw [show flt3 E i = [] from ift_n (fun q => q.2 zr), List.append_nil] at K
    exact wp_vrt k_42 rfl rfl (K h2 ⟨ef9, fa9, ⟨i1, i2, i3, i4⟩, f9.mono (fun _ _ q => q) (by omega) (by omega), by assumption⟩)
  · refine wp_br k_42 rfl rfl rfl rfl (fun z => absurd z (show ¬ (¬ (nI 0 : Int32) = 0) by decide)) (fun _ => ?_)
    refine wp_pure k_42 rfl rfl ?_
    refine wp_get k_42 rfl i1 i2 ?_
    refine wp_new k_42 rfl rfl ?_
    show sm_wp 42 63 [.ref ins, .ref ed, .ref (pa i), .ref go] [.ref (hT h2), .ref lf] _ Q
    refine wp_pure k_42 rfl rfl ?_
    refine wp_kn k_42 rfl rfl ?_
    refine wp_pure k_42 rfl rfl ?_
    refine wp_get k_42 rfl ((if_neg (Nat.ne_of_lt (pT i (by omega)))).trans (hP i (by omega)).1) ((if_neg (Nat.ne_of_lt (pT i (by omega)))).trans (hP i (by omega)).2.2.2.2.2.2.1) ?_
    refine wp_km k_42 rfl rfl ?_
    refine wp_ic k_42 rfl (by decide) [.int (nI 3), .int (nI i), .int (-1)] rfl (r := [.ref (hT h2), .ref lf]) (Nat.le_of_ble_eq_true rfl) (Nat.le_of_ble_eq_true rfl) rfl ?_
    refine wp_pure k_26 rfl rfl ?_
    refine wp_obj k_26 rfl (Nat.le_of_ble_eq_true rfl) ?_
    refine wp_pure k_26 rfl rfl ?_
    refine wp_pure k_26 rfl rfl ?_
    refine wp_put k_26 rfl (if_pos rfl) rfl rfl ?_
    refine wp_pure k_26 rfl rfl ?_
    refine wp_pure k_26 rfl rfl ?_
    refine wp_put k_26 rfl (if_pos rfl) rfl rfl ?_
    refine wp_pure k_26 rfl rfl ?_
    refine wp_pure k_26 rfl rfl ?_
    refine wp_put k_26 rfl (if_pos rfl) rfl rfl ?_
    refine wp_vrt k_26 rfl rfl ⟨rfl, ?_⟩
    refine wp_iv k_42 rfl [.ref (hT h2)] rfl ((if_neg (by omega)).trans i3.1) (r := []) (Nat.le_of_ble_eq_true rfl) (Nat.le_of_ble_eq_true rfl) rfl ?_
    refine c_addF w2 hz1 hz2 hlf hins (by omega) (fun h4 w4 => ⟨rfl, ?_⟩)
    have wz := w4
    refine wp_pure k_42 rfl rfl ?_
    rw [show flt3 E i = [(nI 3, nI i, -1)] from ift_y ⟨hk, zr⟩] at K
    exact wp_vrt k_42 rfl rfl (K _ (by obtain ⟨a1, a2, a3, a4, a5⟩ := wz; exact ⟨a1, a2, a3, a4.mono (fun _ _ q => q) (by omega) (by omega), a5⟩))
theorem c_inBin {h h1 : sm_H} {Q : Nat → Option Value → sm_H → Prop} {ins lf ef0 dT dU : Nat} {l : List Flt} (w : INW h h1 ins lf ef0 l dT dU) (hz1 : hC h (hZ h) = 14) (hz2 : hZ h < hT h) (hlf : hZ h ≠ lf) (hins : ins < hT h) (hl : l.length < 198) {lo hi ed lp ep : Nat} {pa : Nat → Nat} {bt : Nat → Nat → Nat} {E : Ed} {un : Nat → Int32} (X : EdF h ed lp ep pa bt E un) (O : EdO h (inI lo hi) ed lp ep pa E) (hWd : EdW E) (hn : E.1.length ≤ 60) (hhi : hi ≤ hT h) (hed : ∀ a, inI lo hi a → a ≠ lf ∧ a ≠ ef0) {go dk rc ex : Nat} (G : GoR h go ed E dk rc ex) (hgl : go < hT h) (ke0 : hC h ef0 = 14 ∨ hC h ef0 = 7) (klf : hC h lf = 26) {i : Nat} (hi : i < E.1.length) (hk : atP E.1 1 i = nI 1) (K : ∀ h2, INW h h2 ins lf ef0 (l ++ flt1 E i ++ flt2 E i ++ flt3 E i) (dT + 6) (dU + 1251) → Q 0 none h2) : sm_wp 42 0 [.ref ins, .ref ed, .ref (pa i), .ref go] [] h1 Q := by
  have X1 := w.ed hz2 hlf X O hhi hed
  obtain ⟨⟨e0, e1, e2, e3⟩, l1, hP, hBt⟩ := id X1
  obtain ⟨ef9, fa9, ⟨i1, i2, i3, i4⟩, f9, _⟩ := id w
  have lT : lf < hT h1 := i3.2.2.2.2.2.1
  have pT : ∀ k, k < E.1.length → pa k < hT h1 := fun k hk => (l1.2.2.2.2.2.2.2.2 k hk).2.2.2
  obtain ⟨r, hr, hrl, _⟩ := hWd.of1 hi hk
  have ho : rO E.1 i = r := by unfold rO; rw [hr]; exact nI_clamp (by omega)
  refine wp_pure k_42 rfl rfl ?_
  refine wp_get k_42 rfl (hP i (by omega)).1 ((hP i (by omega)).2.2.1.trans (bsV_y hr (by omega))) ?_
  refine wp_br k_42 rfl rfl rfl rfl (fun _ => ?_) (fun z => absurd trivial z)
  refine wp_pure k_42 rfl rfl ?_
  refine wp_get k_42 rfl (hP i (by omega)).1 ((hP i (by omega)).2.2.1.trans (bsV_y hr (by omega))) ?_
  refine wp_pure k_42 rfl rfl ?_
  refine wp_iv k_42 rfl [.ref (pa i)] rfl (hP r (by omega)).1 (r := []) (Nat.le_of_ble_eq_true rfl) (Nat.le_of_ble_eq_true rfl) rfl ?_
  refine c_contains X1 hi hrl (fun zi => ⟨rfl, ?_⟩) (fun zi => ⟨rfl, ?_⟩)
  · refine wp_br k_42 rfl rfl rfl rfl (fun _ => ?_) (fun z => absurd (show ¬ (nI 1 : Int32) = 0 by decide) z)
    have e1 : flt1 E i = [] := ift_n (fun q => q.2 (by rw [ho]; exact zi))
    rw [e1, List.append_nil] at K
    exact c_inBin2 w hz1 hz2 hlf hins (by omega) X O hWd hn hhi hed G hgl ke0 klf hi hk (fun h2 w2 => K h2 (by obtain ⟨a1, a2, a3, a4, a5⟩ := w2; exact ⟨a1, a2, a3, a4.mono (fun _ _ q => q) (by omega) (by omega), a5⟩))
  · refine wp_br k_42 rfl rfl rfl rfl (fun z => absurd z (show ¬ (¬ (nI 0 : Int32) = 0) by decide)) (fun _ => ?_)
    refine wp_pure k_42 rfl rfl ?_
    refine wp_get k_42 rfl i1 i2 ?_
    refine wp_new k_42 rfl rfl ?_
    show sm_wp 42 25 [.ref ins, .ref ed, .ref (pa i), .ref go] [.ref (hT h1), .ref lf] _ Q
    refine wp_pure k_42 rfl rfl ?_
    refine wp_kn k_42 rfl rfl ?_
    refine wp_pure k_42 rfl rfl ?_
    refine wp_get k_42 rfl ((if_neg (Nat.ne_of_lt (pT i (by omega)))).trans (hP i (by omega)).1) ((if_neg (Nat.ne_of_lt (pT i (by omega)))).trans (hP i (by omega)).2.2.2.2.2.2.1) ?_
    refine wp_pure k_42 rfl rfl ?_
    refine wp_iv k_42 rfl [] rfl ((if_neg (Nat.ne_of_lt (pT i (by omega)))).trans (hP i (by omega)).1) (r := [.int (nI i), .int (nI 1), .ref (hT h1), .ref (hT h1), .ref lf]) (Nat.le_of_ble_eq_true rfl) (Nat.le_of_ble_eq_true rfl) rfl ?_
    refine wp_pure k_31 rfl rfl ?_
    refine wp_get k_31 rfl ((if_neg (Nat.ne_of_lt (pT i (by omega)))).trans (hP i (by omega)).1) ((if_neg (Nat.ne_of_lt (pT i (by omega)))).trans ((hP i (by omega)).2.2.1.trans (bsV_y hr (by omega)))) ?_
    refine wp_br k_31 rfl rfl rfl rfl (fun _ => ?_) (fun z => absurd trivial z)
    refine wp_pure k_31 rfl rfl ?_
    refine wp_get k_31 rfl ((if_neg (Nat.ne_of_lt (pT i (by omega)))).trans (hP i (by omega)).1) ((if_neg (Nat.ne_of_lt (pT i (by omega)))).trans ((hP i (by omega)).2.2.1.trans (bsV_y hr (by omega)))) ?_
    refine wp_get k_31 rfl ((if_neg (Nat.ne_of_lt (pT r (by omega)))).trans (hP r (by omega)).1) ((if_neg (Nat.ne_of_lt (pT r (by omega)))).trans (hP r (by omega)).2.2.2.2.2.2.1) ?_
    refine wp_irt k_31 rfl rfl rfl ⟨rfl, ?_⟩
    refine wp_ic k_42 rfl (by decide) [.int (nI 1), .int (nI i), .int (nI r)] rfl (r := [.ref (hT h1), .ref lf]) (Nat.le_of_ble_eq_true rfl) (Nat.le_of_ble_eq_true rfl) rfl ?_
    refine wp_pure k_26 rfl rfl ?_
    refine wp_obj k_26 rfl (Nat.le_of_ble_eq_true rfl) ?_
    refine wp_pure k_26 rfl rfl ?_
    refine wp_pure k_26 rfl rfl ?_
    refine wp_put k_26 rfl (if_pos rfl) rfl rfl ?_
    refine wp_pure k_26 rfl rfl ?_
    refine wp_pure k_26 rfl rfl ?_
    refine wp_put k_26 rfl (if_pos rfl) rfl rfl ?_
    refine wp_pure k_26 rfl rfl ?_
    refine wp_pure k_26 rfl rfl ?_
    refine wp_put k_26 rfl (if_pos rfl) rfl rfl ?_
    refine wp_vrt k_26 rfl rfl ⟨rfl, ?_⟩
    refine wp_iv k_42 rfl [.ref (hT h1)] rfl ((if_neg (by omega)).trans i3.1) (r := []) (Nat.le_of_ble_eq_true rfl) (Nat.le_of_ble_eq_true rfl) rfl ?_
    refine c_addF w hz1 hz2 hlf hins (by omega) (fun h2 w2 => ⟨rfl, ?_⟩)
    have wz := w2
    refine wp_pure k_42 rfl rfl ?_
    have e1 : flt1 E i = [(nI 1, nI i, nI r)] := by unfold flt1; rw [hr]; exact ift_y ⟨hk, by rw [ho]; exact zi⟩
    rw [e1] at K
    have le1 : (l ++ [(nI 1, nI i, nI r)]).length = l.length + 1 := List.length_append
    exact c_inBin2 wz hz1 hz2 hlf hins (by omega) X O hWd hn hhi hed G hgl ke0 klf hi hk (fun h2 w2 => K h2 (by obtain ⟨a1, a2, a3, a4, a5⟩ := w2; exact ⟨a1, a2, a3, a4.mono (fun _ _ q => q) (by omega) (by omega), a5⟩))
