/-! the reference's plan -/
theorem m_covers {h0 h : sm_H} {m : Nat} {g : Nat → Int32} {ar : Nat → Nat → Int32} {Q : Nat → Option Value → sm_H → Prop} {E : Ed} {e : Nat} (M : MS h0 h m g ar) (V : MV g ar E e) {k x y : Nat} (hk : k < E.1.length) (K1 : covE E.1 k x y → Q 0 (some (.int (nI 1))) h) (K0 : ¬ covE E.1 k x y → Q 0 (some (.int (nI 0))) h) : sm_wp 139 0 [.ref m, .int (nI k), .int (nI x), .int (nI y), jk] [] h Q := by
  have he := V.he
  have hn := V.hn
  have hl := V.hl
  refine wp_pure k_139 rfl rfl ?_
  refine wm_iv k_139 rfl rfl M [] rfl (r := []) (Nat.le_of_ble_eq_true rfl) (Nat.le_of_ble_eq_true rfl) rfl ?_
  refine wp_kn k_110 rfl rfl ?_
  refine wp_pure k_110 rfl rfl ?_
  refine wm_gi 3 M k_110 rfl rfl rfl rfl V.h3 ?_
  refine wp_mulN k_110 rfl ?_
  refine wp_irt k_110 rfl rfl rfl ⟨rfl, ?_⟩
  refine wp_pure k_139 rfl rfl ?_
  refine wp_addN k_139 rfl ?_
  refine wp_pure k_139 rfl rfl ?_
  refine wp_pure k_139 rfl rfl ?_
  refine wp_pure k_139 rfl rfl ?_
  refine wm_ga 7 M k_139 rfl rfl rfl (by decide) ?_
  refine wp_pure k_139 rfl rfl ?_
  refine wm_al 7 M k_139 rfl rfl (by decide) rfl (show (60 * e) + k < 480 by omega) (v := atP E.1 2 k) (V.p7 k (by omega)) ?_
  refine wp_br k_139 rfl rfl rfl rfl (fun (z16 : nI x < atP E.1 2 k) => ?_) (fun (z16 : ¬ (nI x < atP E.1 2 k)) => ?_)
  · refine wp_kn k_139 rfl rfl ?_
    exact wp_irt k_139 rfl rfl rfl (K0 (fun q => Int32.not_le.mpr z16 q.1))
  · refine wp_pure k_139 rfl rfl ?_
    refine wp_pure k_139 rfl rfl ?_
    refine wm_ga 7 M k_139 rfl rfl rfl (by decide) ?_
    refine wp_pure k_139 rfl rfl ?_
    refine wm_al 7 M k_139 rfl rfl (by decide) rfl (show (60 * e) + k < 480 by omega) (v := atP E.1 2 k) (V.p7 k (by omega)) ?_
    refine wp_pure k_139 rfl rfl ?_
    refine wm_ga 9 M k_139 rfl rfl rfl (by decide) ?_
    refine wp_pure k_139 rfl rfl ?_
    refine wm_al 9 M k_139 rfl rfl (by decide) rfl (show (60 * e) + k < 480 by omega) (v := atP E.1 4 k) (V.p9 k (by omega)) ?_
    refine wp_iadd k_139 rfl ?_
    refine wp_br k_139 rfl rfl rfl rfl (fun (z35 : (atP E.1 2 k) + (atP E.1 4 k) ≤ nI x) => ?_) (fun (z35 : ¬ ((atP E.1 2 k) + (atP E.1 4 k) ≤ nI x)) => ?_)
    · refine wp_kn k_139 rfl rfl ?_
      exact wp_irt k_139 rfl rfl rfl (K0 (fun q => Int32.not_lt.mpr z35 q.2.1))
    · refine wp_pure k_139 rfl rfl ?_
      refine wp_pure k_139 rfl rfl ?_
      refine wm_ga 8 M k_139 rfl rfl rfl (by decide) ?_
      refine wp_pure k_139 rfl rfl ?_
      refine wm_al 8 M k_139 rfl rfl (by decide) rfl (show (60 * e) + k < 480 by omega) (v := atP E.1 3 k) (V.p8 k (by omega)) ?_
      refine wp_br k_139 rfl rfl rfl rfl (fun (z46 : nI y < atP E.1 3 k) => ?_) (fun (z46 : ¬ (nI y < atP E.1 3 k)) => ?_)
      · refine wp_kn k_139 rfl rfl ?_
        exact wp_irt k_139 rfl rfl rfl (K0 (fun q => Int32.not_le.mpr z46 q.2.2.1))
      · refine wp_pure k_139 rfl rfl ?_
        refine wp_pure k_139 rfl rfl ?_
        refine wm_ga 8 M k_139 rfl rfl rfl (by decide) ?_
        refine wp_pure k_139 rfl rfl ?_
        refine wm_al 8 M k_139 rfl rfl (by decide) rfl (show (60 * e) + k < 480 by omega) (v := atP E.1 3 k) (V.p8 k (by omega)) ?_
        refine wp_pure k_139 rfl rfl ?_
        refine wm_ga 10 M k_139 rfl rfl rfl (by decide) ?_
        refine wp_pure k_139 rfl rfl ?_
        refine wm_al 10 M k_139 rfl rfl (by decide) rfl (show (60 * e) + k < 480 by omega) (v := atP E.1 5 k) (V.p10 k (by omega)) ?_
        refine wp_iadd k_139 rfl ?_
        refine wp_br k_139 rfl rfl rfl rfl (fun (z65 : (atP E.1 3 k) + (atP E.1 5 k) ≤ nI y) => ?_) (fun (z65 : ¬ ((atP E.1 3 k) + (atP E.1 5 k) ≤ nI y)) => ?_)
        · refine wp_kn k_139 rfl rfl ?_
          exact wp_irt k_139 rfl rfl rfl (K0 (fun q => Int32.not_lt.mpr z65 q.2.2.2))
        · refine wp_kn k_139 rfl rfl ?_
          refine wp_br k_139 rfl rfl rfl rfl (fun _ => ?_) (fun z => absurd trivial z)
          exact wp_irt k_139 rfl rfl rfl (K1 ⟨Int32.not_lt.mp z16, Int32.not_le.mp z35, Int32.not_lt.mp z46, Int32.not_le.mp z65⟩)
theorem m_stopsAt {h0 h : sm_H} {m : Nat} {g : Nat → Int32} {ar : Nat → Nat → Int32} {Q : Nat → Option Value → sm_H → Prop} {E : Ed} {e : Nat} (M : MS h0 h m g ar) (V : MV g ar E e) (hW : EdW E) {k x y : Nat} (hk : k < E.1.length) (K1 : (∃ s, s ∈ stP E.1 k ∧ covE E.1 s x y) → Q 0 (some (.int (nI 1))) h) (K0 : ¬ (∃ s, s ∈ stP E.1 k ∧ covE E.1 s x y) → Q 0 (some (.int (nI 0))) h) : sm_wp 138 0 [.ref m, .int (nI k), .int (nI x), .int (nI y), jk] [] h Q := by
  have he := V.he
  have hn := V.hn
  have hl := V.hl
  have b4 := V.s4 k
  refine wp_kn k_138 rfl rfl ?_
  refine wp_pure k_138 rfl rfl ?_
  refine dn (n := (stP E.1 k).length) (P := fun i => (∀ j, j < i → ¬ covE E.1 ((stP E.1 k).getD j 0) x y) → sm_wp 138 3 [.ref m, .int (nI k), .int (nI x), .int (nI y), .int (nI i)] [] h Q) ?_ ?_ 0 (Nat.zero_le _) (fun j hj => absurd hj (Nat.not_lt_zero j))
  · intro hI
    
    refine wp_pure k_138 rfl rfl ?_
    refine wp_pure k_138 rfl rfl ?_
    refine wm_ga 21 M k_138 rfl rfl rfl (by decide) ?_
    refine wp_pure k_138 rfl rfl ?_
    refine wm_al 21 M k_138 rfl rfl (by decide) rfl (show k < 60 by omega) (v := nI (stP E.1 k).length) (V.sc k (by omega)) ?_
    refine wp_br k_138 rfl rfl rfl rfl (fun _ => ?_) (fun z => absurd (Int32.le_refl _) z)
    refine wp_kn k_138 rfl rfl ?_
    exact wp_irt k_138 rfl rfl rfl (K0 (fun ⟨s, hs, c⟩ => by
      obtain ⟨i', q1, q2⟩ := s_ex hs
      rw [← q2] at c
      exact hI i' q1 c))
  · intro i hi ih hI
    obtain ⟨h6, bs⟩ := hW.st6 hk hi
    refine wp_pure k_138 rfl rfl ?_
    refine wp_pure k_138 rfl rfl ?_
    refine wm_ga 21 M k_138 rfl rfl rfl (by decide) ?_
    refine wp_pure k_138 rfl rfl ?_
    refine wm_al 21 M k_138 rfl rfl (by decide) rfl (show k < 60 by omega) (v := nI (stP E.1 k).length) (V.sc k (by omega)) ?_
    refine wp_br k_138 rfl rfl rfl rfl (fun z => absurd z (nI_ge hi (by omega))) (fun _ => ?_)
    refine wp_pure k_138 rfl rfl ?_
    refine wp_pure k_138 rfl rfl ?_
    refine wm_ga 22 M k_138 rfl rfl rfl (by decide) ?_
    refine wp_kn k_138 rfl rfl ?_
    refine wp_pure k_138 rfl rfl ?_
    refine wp_mulN k_138 rfl ?_
    refine wp_pure k_138 rfl rfl ?_
    refine wp_addN k_138 rfl ?_
    refine wm_al 22 M k_138 rfl rfl (by decide) rfl (show (4 * k) + i < 240 by omega) (v := nI ((stP E.1 k).getD i 0)) (V.sv k (by omega) i (by omega)) ?_
    refine wp_pure k_138 rfl rfl ?_
    refine wp_pure k_138 rfl rfl ?_
    refine wm_iv k_138 rfl rfl M [.int (nI ((stP E.1 k).getD i 0)), .int (nI x), .int (nI y)] rfl (r := []) (Nat.le_of_ble_eq_true rfl) (Nat.le_of_ble_eq_true rfl) rfl ?_
    refine m_covers M V (by omega) (fun zc => ⟨rfl, ?_⟩) (fun zc => ⟨rfl, ?_⟩)
    · refine wp_br k_138 rfl rfl rfl rfl (fun z => absurd z (show ¬ ((nI 1 : Int32) = 0) by decide)) (fun _ => ?_)
      refine wp_kn k_138 rfl rfl ?_
      exact wp_irt k_138 rfl rfl rfl (K1 ⟨_, s_mem hi, zc⟩)
    · refine wp_br k_138 rfl rfl rfl rfl (fun _ => ?_) (fun z => absurd (show (nI 0 : Int32) = 0 by decide) z)
      refine wp_inc k_138 rfl rfl rfl ?_
      refine wp_br k_138 rfl rfl rfl rfl (fun _ => ?_) (fun z => absurd trivial z)
      exact ih (fun j hj => by
        by_cases q : j = i
        · rw [q]; exact zc
        · exact hI j (by omega))
theorem m_rankOf {h : sm_H} {Q : Nat → Option Value → sm_H → Prop} {c : Int32} (K : Q 0 (some (.int (nI (rkO c)))) h) : sm_wp 140 0 [.int c] [] h Q := by
  refine wp_pure k_140 rfl rfl ?_
  refine wp_kn k_140 rfl rfl ?_
  refine wp_br k_140 rfl rfl rfl rfl (fun (z2 : ¬ c = nI 3) => ?_) (fun (z2 : ¬ (¬ c = nI 3)) => ?_)
  · refine wp_pure k_140 rfl rfl ?_
    refine wp_kn k_140 rfl rfl ?_
    refine wp_br k_140 rfl rfl rfl rfl (fun (z11 : ¬ c = nI 4) => ?_) (fun (z11 : ¬ (¬ c = nI 4)) => ?_)
    · refine wp_pure k_140 rfl rfl ?_
      refine wp_kn k_140 rfl rfl ?_
      refine wp_br k_140 rfl rfl rfl rfl (fun (z20 : ¬ c = nI 5) => ?_) (fun (z20 : ¬ (¬ c = nI 5)) => ?_)
      · refine wp_pure k_140 rfl rfl ?_
        refine wp_kn k_140 rfl rfl ?_
        refine wp_br k_140 rfl rfl rfl rfl (fun (z30 : ¬ c = nI 6) => ?_) (fun (z30 : ¬ (¬ c = nI 6)) => ?_)
        · refine wp_pure k_140 rfl rfl ?_
          refine wp_kn k_140 rfl rfl ?_
          refine wp_br k_140 rfl rfl rfl rfl (fun (z39 : ¬ c = nI 2) => ?_) (fun (z39 : ¬ (¬ c = nI 2)) => ?_)
          · refine wp_pure k_140 rfl rfl ?_
            refine wp_kn k_140 rfl rfl ?_
            refine wp_br k_140 rfl rfl rfl rfl (fun (z48 : ¬ c = nI 1) => ?_) (fun (z48 : ¬ (¬ c = nI 1)) => ?_)
            · refine wp_kn k_140 rfl rfl ?_
              unfold rkO at K
              rw [if_neg z2, if_neg z11, if_neg z20, if_neg z30, if_neg z39, if_neg z48] at K
              exact wp_irt k_140 rfl rfl rfl K
            · refine wp_kn k_140 rfl rfl ?_
              refine wp_br k_140 rfl rfl rfl rfl (fun _ => ?_) (fun z => absurd trivial z)
              unfold rkO at K
              rw [if_neg z2, if_neg z11, if_neg z20, if_neg z30, if_neg z39, if_pos (Classical.not_not.mp z48)] at K
              exact wp_irt k_140 rfl rfl rfl K
          · refine wp_kn k_140 rfl rfl ?_
            refine wp_br k_140 rfl rfl rfl rfl (fun _ => ?_) (fun z => absurd trivial z)
            unfold rkO at K
            rw [if_neg z2, if_neg z11, if_neg z20, if_neg z30, if_pos (Classical.not_not.mp z39)] at K
            exact wp_irt k_140 rfl rfl rfl K
        · refine wp_kn k_140 rfl rfl ?_
          refine wp_br k_140 rfl rfl rfl rfl (fun _ => ?_) (fun z => absurd trivial z)
          unfold rkO at K
          rw [if_neg z2, if_neg z11, if_neg z20, if_pos (Classical.not_not.mp z30)] at K
          exact wp_irt k_140 rfl rfl rfl K
      · refine wp_kn k_140 rfl rfl ?_
        refine wp_br k_140 rfl rfl rfl rfl (fun _ => ?_) (fun z => absurd trivial z)
        unfold rkO at K
        rw [if_neg z2, if_neg z11, if_pos (Classical.not_not.mp z20)] at K
        exact wp_irt k_140 rfl rfl rfl K
    · refine wp_kn k_140 rfl rfl ?_
      refine wp_br k_140 rfl rfl rfl rfl (fun _ => ?_) (fun z => absurd trivial z)
      unfold rkO at K
      rw [if_neg z2, if_pos (Classical.not_not.mp z11)] at K
      exact wp_irt k_140 rfl rfl rfl K
  · refine wp_kn k_140 rfl rfl ?_
    refine wp_br k_140 rfl rfl rfl rfl (fun _ => ?_) (fun z => absurd trivial z)
    unfold rkO at K
    rw [if_pos (Classical.not_not.mp z2)] at K
    exact wp_irt k_140 rfl rfl rfl K
theorem m_signOf {h : sm_H} {Q : Nat → Option Value → sm_H → Prop} {r : Nat} (hr : r ≤ 7) (K : Q 0 (some (.int (sgO r))) h) : sm_wp 141 0 [.int (nI r)] [] h Q := by
  refine wp_pure k_141 rfl rfl ?_
  refine wp_br k_141 rfl rfl rfl rfl (fun (z1 : ¬ nI r = 0) => ?_) (fun (z1 : ¬ (¬ nI r = 0)) => ?_)
  · have y1 : ¬ r = 0 := yNE (by omega) (by omega) (show ¬ nI r = nI 0 from z1)
    refine wp_pure k_141 rfl rfl ?_
    refine wp_kn k_141 rfl rfl ?_
    refine wp_br k_141 rfl rfl rfl rfl (fun (z11 : ¬ nI r = nI 1) => ?_) (fun (z11 : ¬ (¬ nI r = nI 1)) => ?_)
    · have y11 : ¬ r = 1 := yNE (by omega) (by omega) z11
      refine wp_pure k_141 rfl rfl ?_
      refine wp_kn k_141 rfl rfl ?_
      refine wp_br k_141 rfl rfl rfl rfl (fun (z21 : ¬ nI r = nI 2) => ?_) (fun (z21 : ¬ (¬ nI r = nI 2)) => ?_)
      · have y21 : ¬ r = 2 := yNE (by omega) (by omega) z21
        refine wp_pure k_141 rfl rfl ?_
        refine wp_kn k_141 rfl rfl ?_
        refine wp_br k_141 rfl rfl rfl rfl (fun (z31 : ¬ nI r = nI 3) => ?_) (fun (z31 : ¬ (¬ nI r = nI 3)) => ?_)
        · have y31 : ¬ r = 3 := yNE (by omega) (by omega) z31
          refine wp_pure k_141 rfl rfl ?_
          refine wp_kn k_141 rfl rfl ?_
          refine wp_br k_141 rfl rfl rfl rfl (fun (z41 : ¬ nI r = nI 4) => ?_) (fun (z41 : ¬ (¬ nI r = nI 4)) => ?_)
          · have y41 : ¬ r = 4 := yNE (by omega) (by omega) z41
            refine wp_pure k_141 rfl rfl ?_
            refine wp_kn k_141 rfl rfl ?_
            refine wp_br k_141 rfl rfl rfl rfl (fun (z51 : ¬ nI r = nI 5) => ?_) (fun (z51 : ¬ (¬ nI r = nI 5)) => ?_)
            · have y51 : ¬ r = 5 := yNE (by omega) (by omega) z51
              refine wp_pure k_141 rfl rfl ?_
              refine wp_kn k_141 rfl rfl ?_
              refine wp_br k_141 rfl rfl rfl rfl (fun (z62 : ¬ nI r = nI 6) => ?_) (fun (z62 : ¬ (¬ nI r = nI 6)) => ?_)
              · have y62 : ¬ r = 6 := yNE (by omega) (by omega) z62
                refine wp_kn k_141 rfl rfl ?_
                unfold sgO at K
                rw [if_neg y1, if_neg y11, if_neg y21, if_neg y31, if_neg y41, if_neg y51, if_neg y62] at K
                exact wp_irt k_141 rfl rfl rfl K
              · have y62 : r = 6 := yNNE (by omega) (by omega) z62
                refine wp_kn k_141 rfl rfl ?_
                refine wp_br k_141 rfl rfl rfl rfl (fun _ => ?_) (fun z => absurd trivial z)
                unfold sgO at K
                rw [if_neg y1, if_neg y11, if_neg y21, if_neg y31, if_neg y41, if_neg y51, if_pos y62] at K
                exact wp_irt k_141 rfl rfl rfl K
            · have y51 : r = 5 := yNNE (by omega) (by omega) z51
              refine wp_kn k_141 rfl rfl ?_
              refine wp_br k_141 rfl rfl rfl rfl (fun _ => ?_) (fun z => absurd trivial z)
              unfold sgO at K
              rw [if_neg y1, if_neg y11, if_neg y21, if_neg y31, if_neg y41, if_pos y51] at K
              exact wp_irt k_141 rfl rfl rfl K
          · have y41 : r = 4 := yNNE (by omega) (by omega) z41
            refine wp_kn k_141 rfl rfl ?_
            refine wp_br k_141 rfl rfl rfl rfl (fun _ => ?_) (fun z => absurd trivial z)
            unfold sgO at K
            rw [if_neg y1, if_neg y11, if_neg y21, if_neg y31, if_pos y41] at K
            exact wp_irt k_141 rfl rfl rfl K
        · have y31 : r = 3 := yNNE (by omega) (by omega) z31
          refine wp_kn k_141 rfl rfl ?_
          refine wp_br k_141 rfl rfl rfl rfl (fun _ => ?_) (fun z => absurd trivial z)
          unfold sgO at K
          rw [if_neg y1, if_neg y11, if_neg y21, if_pos y31] at K
          exact wp_irt k_141 rfl rfl rfl K
      · have y21 : r = 2 := yNNE (by omega) (by omega) z21
        refine wp_kn k_141 rfl rfl ?_
        refine wp_br k_141 rfl rfl rfl rfl (fun _ => ?_) (fun z => absurd trivial z)
        unfold sgO at K
        rw [if_neg y1, if_neg y11, if_pos y21] at K
        exact wp_irt k_141 rfl rfl rfl K
    · have y11 : r = 1 := yNNE (by omega) (by omega) z11
      refine wp_kn k_141 rfl rfl ?_
      refine wp_br k_141 rfl rfl rfl rfl (fun _ => ?_) (fun z => absurd trivial z)
      unfold sgO at K
      rw [if_neg y1, if_pos y11] at K
      exact wp_irt k_141 rfl rfl rfl K
  · have y1 : r = 0 := yNNE (by omega) (by omega) (show ¬ (¬ nI r = nI 0) from z1)
    refine wp_kn k_141 rfl rfl ?_
    refine wp_br k_141 rfl rfl rfl rfl (fun _ => ?_) (fun z => absurd trivial z)
    unfold sgO at K
    rw [if_pos y1] at K
    exact wp_irt k_141 rfl rfl rfl K
theorem rkO_le (c : Int32) : rkO c ≤ 6 := by
  unfold rkO
  repeat' split
  all_goals omega
theorem m_signAt {h0 h : sm_H} {m : Nat} {g : Nat → Int32} {ar : Nat → Nat → Int32} {Q : Nat → Option Value → sm_H → Prop} {E : Ed} {e : Nat} (M : MS h0 h m g ar) (V : MV g ar E e) (hW : EdW E) {x y : Nat} (K : Q 0 (some (.int (sgnE E.1 x y))) h) : sm_wp 137 0 [.ref m, .int (nI x), .int (nI y), jk, jk, jk, jk] [] h Q := by
  have he := V.he
  have hn := V.hn
  have hl := V.hl
  refine wp_kn k_137 rfl rfl ?_
  refine wp_pure k_137 rfl rfl ?_
  refine wp_kn k_137 rfl rfl ?_
  refine wp_pure k_137 rfl rfl ?_
  refine dn (n := E.1.length) (P := fun i => ∀ (x5 : Value), ∀ (x6 : Value), sm_wp 137 6 [.ref m, .int (nI x), .int (nI y), .int (nI (bsN E.1 x y i)), .int (nI i), x5, x6] [] h Q) ?_ ?_ 0 (Nat.zero_le _) (jk) (jk)
  · intro x5 x6
    
    refine wp_pure k_137 rfl rfl ?_
    refine wp_pure k_137 rfl rfl ?_
    refine wm_iv k_137 rfl rfl M [] rfl (r := [.int (nI (E.1.length))]) (Nat.le_of_ble_eq_true rfl) (Nat.le_of_ble_eq_true rfl) rfl ?_
    refine wp_pure k_109 rfl rfl ?_
    refine wm_ga 4 M k_109 rfl rfl rfl (by decide) ?_
    refine wp_pure k_109 rfl rfl ?_
    refine wm_gi 3 M k_109 rfl rfl rfl rfl V.h3 ?_
    refine wm_al 4 M k_109 rfl rfl (by decide) rfl (show e < 8 by omega) (v := nI E.1.length) V.n4 ?_
    refine wp_irt k_109 rfl rfl rfl ⟨rfl, ?_⟩
    refine wp_br k_137 rfl rfl rfl rfl (fun _ => ?_) (fun z => absurd (Int32.le_refl _) z)
    refine wp_pure k_137 rfl rfl ?_
    refine wp_is k_137 rfl (by decide) [.int (nI (bsN E.1 x y (E.1.length)))] rfl (r := []) (Nat.le_of_ble_eq_true rfl) (Nat.le_of_ble_eq_true rfl) rfl ?_
    refine m_signOf (bsN_7 _) ⟨rfl, ?_⟩
    rw [← sgn_best hW] at K
    exact wp_irt k_137 rfl rfl rfl K
  · intro i hi ih x5 x6
    have b7 := @bsN_7 E.1 x y i
    have r7 : rkO (atP E.1 1 i) ≤ 6 := rkO_le _
    refine wp_pure k_137 rfl rfl ?_
    refine wp_pure k_137 rfl rfl ?_
    refine wm_iv k_137 rfl rfl M [] rfl (r := [.int (nI i)]) (Nat.le_of_ble_eq_true rfl) (Nat.le_of_ble_eq_true rfl) rfl ?_
    refine wp_pure k_109 rfl rfl ?_
    refine wm_ga 4 M k_109 rfl rfl rfl (by decide) ?_
    refine wp_pure k_109 rfl rfl ?_
    refine wm_gi 3 M k_109 rfl rfl rfl rfl V.h3 ?_
    refine wm_al 4 M k_109 rfl rfl (by decide) rfl (show e < 8 by omega) (v := nI E.1.length) V.n4 ?_
    refine wp_irt k_109 rfl rfl rfl ⟨rfl, ?_⟩
    refine wp_br k_137 rfl rfl rfl rfl (fun z => absurd z (nI_ge hi (by omega))) (fun _ => ?_)
    refine wp_pure k_137 rfl rfl ?_
    refine wp_pure k_137 rfl rfl ?_
    refine wm_iv k_137 rfl rfl M [.int (nI i)] rfl (r := []) (Nat.le_of_ble_eq_true rfl) (Nat.le_of_ble_eq_true rfl) rfl ?_
    refine wp_pure k_112 rfl rfl ?_
    refine wm_ga 5 M k_112 rfl rfl rfl (by decide) ?_
    refine wp_pure k_112 rfl rfl ?_
    refine wm_iv k_112 rfl rfl M [] rfl (r := [.ref (m + mo 5)]) (Nat.le_of_ble_eq_true rfl) (Nat.le_of_ble_eq_true rfl) rfl ?_
    refine wp_kn k_110 rfl rfl ?_
    refine wp_pure k_110 rfl rfl ?_
    refine wm_gi 3 M k_110 rfl rfl rfl rfl V.h3 ?_
    refine wp_mulN k_110 rfl ?_
    refine wp_irt k_110 rfl rfl rfl ⟨rfl, ?_⟩
    refine wp_pure k_112 rfl rfl ?_
    refine wp_addN k_112 rfl ?_
    refine wm_al 5 M k_112 rfl rfl (by decide) rfl (show (60 * e) + i < 480 by omega) (v := atP E.1 1 i) (V.p5 i (by omega)) ?_
    refine wp_irt k_112 rfl rfl rfl ⟨rfl, ?_⟩
    refine wp_kn k_137 rfl rfl ?_
    refine wp_br k_137 rfl rfl rfl rfl (fun (z23 : ¬ atP E.1 1 i = nI 6) => ?_) (fun (z23 : ¬ (¬ atP E.1 1 i = nI 6)) => ?_)
    · refine wp_pure k_137 rfl rfl ?_
      refine wp_pure k_137 rfl rfl ?_
      refine wp_pure k_137 rfl rfl ?_
      refine wp_pure k_137 rfl rfl ?_
      refine wm_iv k_137 rfl rfl M [.int (nI i), .int (nI x), .int (nI y)] rfl (r := []) (Nat.le_of_ble_eq_true rfl) (Nat.le_of_ble_eq_true rfl) rfl ?_
      refine m_covers M V hi (fun zc => ⟨rfl, ?_⟩) (fun zc => ⟨rfl, ?_⟩)
      · have zt : thE E.1 x y i := Or.inr ⟨z23, zc⟩
        refine wp_pure k_137 rfl rfl ?_
        refine wp_pure k_137 rfl rfl ?_
        refine wp_pure k_137 rfl rfl ?_
        refine wm_iv k_137 rfl rfl M [.int (nI i)] rfl (r := []) (Nat.le_of_ble_eq_true rfl) (Nat.le_of_ble_eq_true rfl) rfl ?_
        refine wp_pure k_112 rfl rfl ?_
        refine wm_ga 5 M k_112 rfl rfl rfl (by decide) ?_
        refine wp_pure k_112 rfl rfl ?_
        refine wm_iv k_112 rfl rfl M [] rfl (r := [.ref (m + mo 5)]) (Nat.le_of_ble_eq_true rfl) (Nat.le_of_ble_eq_true rfl) rfl ?_
        refine wp_kn k_110 rfl rfl ?_
        refine wp_pure k_110 rfl rfl ?_
        refine wm_gi 3 M k_110 rfl rfl rfl rfl V.h3 ?_
        refine wp_mulN k_110 rfl ?_
        refine wp_irt k_110 rfl rfl rfl ⟨rfl, ?_⟩
        refine wp_pure k_112 rfl rfl ?_
        refine wp_addN k_112 rfl ?_
        refine wm_al 5 M k_112 rfl rfl (by decide) rfl (show (60 * e) + i < 480 by omega) (v := atP E.1 1 i) (V.p5 i (by omega)) ?_
        refine wp_irt k_112 rfl rfl rfl ⟨rfl, ?_⟩
        refine wp_is k_137 rfl (by decide) [.int (atP E.1 1 i)] rfl (r := []) (Nat.le_of_ble_eq_true rfl) (Nat.le_of_ble_eq_true rfl) rfl ?_
        refine m_rankOf ⟨rfl, ?_⟩
        refine wp_pure k_137 rfl rfl ?_
        refine wp_pure k_137 rfl rfl ?_
        refine wp_br k_137 rfl rfl rfl rfl (fun z => absurd z (show ¬ ((nI 1 : Int32) = 0) by decide)) (fun _ => ?_)
        refine wp_pure k_137 rfl rfl ?_
        refine wp_pure k_137 rfl rfl ?_
        refine wp_br k_137 rfl rfl rfl rfl (fun (z66 : nI (bsN E.1 x y i) ≤ nI (rkO (atP E.1 1 i))) => ?_) (fun (z66 : ¬ (nI (bsN E.1 x y i) ≤ nI (rkO (atP E.1 1 i)))) => ?_)
        · have y66 : bsN E.1 x y i ≤ rkO (atP E.1 1 i) := yLe (by omega) (by omega) z66
          refine wp_pure k_137 rfl rfl ?_
          refine wp_pure k_137 rfl rfl ?_
          refine wp_inc k_137 rfl rfl rfl ?_
          refine wp_br k_137 rfl rfl rfl rfl (fun _ => ?_) (fun z => absurd trivial z)
          rw [show bsN E.1 x y (i + 1) = bsN E.1 x y i from if_neg (fun q => by have := q.2; omega)] at ih
          exact ih (.int (nI 1)) (.int (nI (rkO (atP E.1 1 i))))
        · have y66 : rkO (atP E.1 1 i) < bsN E.1 x y i := yNLe (by omega) (by omega) z66
          refine wp_pure k_137 rfl rfl ?_
          refine wp_br k_137 rfl rfl rfl rfl (fun _ => ?_) (fun z => absurd trivial z)
          refine wp_pure k_137 rfl rfl ?_
          refine wp_inc k_137 rfl rfl rfl ?_
          refine wp_br k_137 rfl rfl rfl rfl (fun _ => ?_) (fun z => absurd trivial z)
          rw [show bsN E.1 x y (i + 1) = rkO (atP E.1 1 i) from if_pos ⟨zt, y66⟩] at ih
          exact ih (.int (nI 1)) (.int (nI (rkO (atP E.1 1 i))))
      · have zt : ¬ thE E.1 x y i := fun q => q.elim (fun w => z23 w.1) (fun w => zc w.2)
        refine wp_pure k_137 rfl rfl ?_
        refine wp_pure k_137 rfl rfl ?_
        refine wp_pure k_137 rfl rfl ?_
        refine wm_iv k_137 rfl rfl M [.int (nI i)] rfl (r := []) (Nat.le_of_ble_eq_true rfl) (Nat.le_of_ble_eq_true rfl) rfl ?_
        refine wp_pure k_112 rfl rfl ?_
        refine wm_ga 5 M k_112 rfl rfl rfl (by decide) ?_
        refine wp_pure k_112 rfl rfl ?_
        refine wm_iv k_112 rfl rfl M [] rfl (r := [.ref (m + mo 5)]) (Nat.le_of_ble_eq_true rfl) (Nat.le_of_ble_eq_true rfl) rfl ?_
        refine wp_kn k_110 rfl rfl ?_
        refine wp_pure k_110 rfl rfl ?_
        refine wm_gi 3 M k_110 rfl rfl rfl rfl V.h3 ?_
        refine wp_mulN k_110 rfl ?_
        refine wp_irt k_110 rfl rfl rfl ⟨rfl, ?_⟩
        refine wp_pure k_112 rfl rfl ?_
        refine wp_addN k_112 rfl ?_
        refine wm_al 5 M k_112 rfl rfl (by decide) rfl (show (60 * e) + i < 480 by omega) (v := atP E.1 1 i) (V.p5 i (by omega)) ?_
        refine wp_irt k_112 rfl rfl rfl ⟨rfl, ?_⟩
        refine wp_is k_137 rfl (by decide) [.int (atP E.1 1 i)] rfl (r := []) (Nat.le_of_ble_eq_true rfl) (Nat.le_of_ble_eq_true rfl) rfl ?_
        refine m_rankOf ⟨rfl, ?_⟩
        refine wp_pure k_137 rfl rfl ?_
        refine wp_pure k_137 rfl rfl ?_
        refine wp_br k_137 rfl rfl rfl rfl (fun _ => ?_) (fun z => absurd (show (nI 0 : Int32) = 0 by decide) z)
        refine wp_pure k_137 rfl rfl ?_
        refine wp_pure k_137 rfl rfl ?_
        refine wp_inc k_137 rfl rfl rfl ?_
        refine wp_br k_137 rfl rfl rfl rfl (fun _ => ?_) (fun z => absurd trivial z)
        rw [show bsN E.1 x y (i + 1) = bsN E.1 x y i from if_neg (fun q => zt q.1)] at ih
        exact ih (.int (nI 0)) (.int (nI (rkO (atP E.1 1 i))))
    · refine wp_pure k_137 rfl rfl ?_
      refine wp_pure k_137 rfl rfl ?_
      refine wp_pure k_137 rfl rfl ?_
      refine wp_pure k_137 rfl rfl ?_
      refine wm_iv k_137 rfl rfl M [.int (nI i), .int (nI x), .int (nI y)] rfl (r := []) (Nat.le_of_ble_eq_true rfl) (Nat.le_of_ble_eq_true rfl) rfl ?_
      refine m_stopsAt M V hW hi (fun zc => ⟨rfl, ?_⟩) (fun zc => ⟨rfl, ?_⟩)
      · have zt : thE E.1 x y i := Or.inl ⟨Classical.not_not.mp z23, zc⟩
        refine wp_br k_137 rfl rfl rfl rfl (fun _ => ?_) (fun z => absurd trivial z)
        refine wp_pure k_137 rfl rfl ?_
        refine wp_pure k_137 rfl rfl ?_
        refine wp_pure k_137 rfl rfl ?_
        refine wm_iv k_137 rfl rfl M [.int (nI i)] rfl (r := []) (Nat.le_of_ble_eq_true rfl) (Nat.le_of_ble_eq_true rfl) rfl ?_
        refine wp_pure k_112 rfl rfl ?_
        refine wm_ga 5 M k_112 rfl rfl rfl (by decide) ?_
        refine wp_pure k_112 rfl rfl ?_
        refine wm_iv k_112 rfl rfl M [] rfl (r := [.ref (m + mo 5)]) (Nat.le_of_ble_eq_true rfl) (Nat.le_of_ble_eq_true rfl) rfl ?_
        refine wp_kn k_110 rfl rfl ?_
        refine wp_pure k_110 rfl rfl ?_
        refine wm_gi 3 M k_110 rfl rfl rfl rfl V.h3 ?_
        refine wp_mulN k_110 rfl ?_
        refine wp_irt k_110 rfl rfl rfl ⟨rfl, ?_⟩
        refine wp_pure k_112 rfl rfl ?_
        refine wp_addN k_112 rfl ?_
        refine wm_al 5 M k_112 rfl rfl (by decide) rfl (show (60 * e) + i < 480 by omega) (v := atP E.1 1 i) (V.p5 i (by omega)) ?_
        refine wp_irt k_112 rfl rfl rfl ⟨rfl, ?_⟩
        refine wp_is k_137 rfl (by decide) [.int (atP E.1 1 i)] rfl (r := []) (Nat.le_of_ble_eq_true rfl) (Nat.le_of_ble_eq_true rfl) rfl ?_
        refine m_rankOf ⟨rfl, ?_⟩
        refine wp_pure k_137 rfl rfl ?_
        refine wp_pure k_137 rfl rfl ?_
        refine wp_br k_137 rfl rfl rfl rfl (fun z => absurd z (show ¬ ((nI 1 : Int32) = 0) by decide)) (fun _ => ?_)
        refine wp_pure k_137 rfl rfl ?_
        refine wp_pure k_137 rfl rfl ?_
        refine wp_br k_137 rfl rfl rfl rfl (fun (z66 : nI (bsN E.1 x y i) ≤ nI (rkO (atP E.1 1 i))) => ?_) (fun (z66 : ¬ (nI (bsN E.1 x y i) ≤ nI (rkO (atP E.1 1 i)))) => ?_)
        · have y66 : bsN E.1 x y i ≤ rkO (atP E.1 1 i) := yLe (by omega) (by omega) z66
          refine wp_pure k_137 rfl rfl ?_
          refine wp_pure k_137 rfl rfl ?_
          refine wp_inc k_137 rfl rfl rfl ?_
          refine wp_br k_137 rfl rfl rfl rfl (fun _ => ?_) (fun z => absurd trivial z)
          rw [show bsN E.1 x y (i + 1) = bsN E.1 x y i from if_neg (fun q => by have := q.2; omega)] at ih
          exact ih (.int (nI 1)) (.int (nI (rkO (atP E.1 1 i))))
        · have y66 : rkO (atP E.1 1 i) < bsN E.1 x y i := yNLe (by omega) (by omega) z66
          refine wp_pure k_137 rfl rfl ?_
          refine wp_br k_137 rfl rfl rfl rfl (fun _ => ?_) (fun z => absurd trivial z)
          refine wp_pure k_137 rfl rfl ?_
          refine wp_inc k_137 rfl rfl rfl ?_
          refine wp_br k_137 rfl rfl rfl rfl (fun _ => ?_) (fun z => absurd trivial z)
          rw [show bsN E.1 x y (i + 1) = rkO (atP E.1 1 i) from if_pos ⟨zt, y66⟩] at ih
          exact ih (.int (nI 1)) (.int (nI (rkO (atP E.1 1 i))))
      · have zt : ¬ thE E.1 x y i := fun q => q.elim (fun w => zc w.2) (fun w => w.1 (Classical.not_not.mp z23))
        refine wp_br k_137 rfl rfl rfl rfl (fun _ => ?_) (fun z => absurd trivial z)
        refine wp_pure k_137 rfl rfl ?_
        refine wp_pure k_137 rfl rfl ?_
        refine wp_pure k_137 rfl rfl ?_
        refine wm_iv k_137 rfl rfl M [.int (nI i)] rfl (r := []) (Nat.le_of_ble_eq_true rfl) (Nat.le_of_ble_eq_true rfl) rfl ?_
        refine wp_pure k_112 rfl rfl ?_
        refine wm_ga 5 M k_112 rfl rfl rfl (by decide) ?_
        refine wp_pure k_112 rfl rfl ?_
        refine wm_iv k_112 rfl rfl M [] rfl (r := [.ref (m + mo 5)]) (Nat.le_of_ble_eq_true rfl) (Nat.le_of_ble_eq_true rfl) rfl ?_
        refine wp_kn k_110 rfl rfl ?_
        refine wp_pure k_110 rfl rfl ?_
        refine wm_gi 3 M k_110 rfl rfl rfl rfl V.h3 ?_
        refine wp_mulN k_110 rfl ?_
        refine wp_irt k_110 rfl rfl rfl ⟨rfl, ?_⟩
        refine wp_pure k_112 rfl rfl ?_
        refine wp_addN k_112 rfl ?_
        refine wm_al 5 M k_112 rfl rfl (by decide) rfl (show (60 * e) + i < 480 by omega) (v := atP E.1 1 i) (V.p5 i (by omega)) ?_
        refine wp_irt k_112 rfl rfl rfl ⟨rfl, ?_⟩
        refine wp_is k_137 rfl (by decide) [.int (atP E.1 1 i)] rfl (r := []) (Nat.le_of_ble_eq_true rfl) (Nat.le_of_ble_eq_true rfl) rfl ?_
        refine m_rankOf ⟨rfl, ?_⟩
        refine wp_pure k_137 rfl rfl ?_
        refine wp_pure k_137 rfl rfl ?_
        refine wp_br k_137 rfl rfl rfl rfl (fun _ => ?_) (fun z => absurd (show (nI 0 : Int32) = 0 by decide) z)
        refine wp_pure k_137 rfl rfl ?_
        refine wp_pure k_137 rfl rfl ?_
        refine wp_inc k_137 rfl rfl rfl ?_
        refine wp_br k_137 rfl rfl rfl rfl (fun _ => ?_) (fun z => absurd trivial z)
        rw [show bsN E.1 x y (i + 1) = bsN E.1 x y i from if_neg (fun q => zt q.1)] at ih
        exact ih (.int (nI 0)) (.int (nI (rkO (atP E.1 1 i))))
theorem rowN_le {E : Ed} (hW : EdW E) : ∀ k, k ≤ E.1.length → rowN E.1 k ≤ 20
  | 0, _ => Nat.zero_le _
  | k + 1, h => by
    have ih := rowN_le hW k (by omega)
    obtain ⟨kd, x, y, w, hh, lv, a1, a2, a3, a4, a5, a6, a7, a8, a9, b1, b2, b3, _⟩ := hW.pl (show k < E.1.length by omega)
    unfold rowN
    rw [a5, a7, nI_clamp (by omega), nI_clamp (by omega)]
    omega
noncomputable def plC (ps : List Pl) (j : Nat) : Int32 := if j % 41 = 40 then nI 10 else sgnE ps (j % 41) (j / 41)
theorem plnE_get {ps : List Pl} {j : Nat} {c : Int32} (h : (plnE ps)[j]? = some c) : j < 41 * rowE ps ∧ c = plC ps j := by
  unfold plnE at h
  rw [List.getElem?_map] at h
  have hl := (List.getElem?_eq_some_iff.mp (show ((List.range (41 * rowE ps)).map (fun i => if i % 41 = 40 then nI 10 else sgnE ps (i % 41) (i / 41)))[j]? = some c by rw [List.getElem?_map]; exact h)).1
  rw [List.length_map, List.length_range] at hl
  rw [List.getElem?_range hl] at h
  cases h
  exact ⟨hl, rfl⟩
theorem plnE_len (ps : List Pl) : (plnE ps).length = 41 * rowE ps := by unfold plnE; rw [List.length_map, List.length_range]
theorem m_print {h0 h : sm_H} {m : Nat} {g : Nat → Int32} {ar : Nat → Nat → Int32} {Q : Nat → Option Value → sm_H → Prop} {σ : Sg} (M : MS h0 h m g ar) (R : MR g ar σ) (S : SI σ) (K : ∀ h' g' ar', MS h0 h' m g' ar' → g' 0 = nI 0 → MR g' ar' (prS σ (plnE (sCur σ))) → Q 0 (some (.int (nI (plnE (sCur σ)).length))) h') : sm_wp 136 0 [.ref m, jk, jk, jk] [] h Q := by
  have V := R.view
  have hW := S.1
  have he := V.he
  have hn := V.hn
  have hr : rowE (cE σ).1 ≤ 20 := rowN_le hW _ (Nat.le_refl _)
  have hr2 : rowN (cE σ).1 (cE σ).1.length ≤ 20 := hr
  generalize hEE : cE σ = E at *
  generalize hee : sE σ = e at *
  have hEc : sCur σ = E.1 := by rw [← hEE]; rfl
  rw [hEc] at K
  refine wp_pure k_136 rfl rfl ?_
  refine wp_kn k_136 rfl rfl ?_
  refine wm_pi 0 M k_136 rfl rfl rfl rfl rfl rfl (fun h1 M1 => ?_)
  have V1 := V.same (g' := uF g 0 (nI 0)) (ar' := ar) ⟨uF_ne (by decide), uF_ne (by decide), uF_ne (by decide)⟩ (fun _ _ => rfl)
  refine wp_kn k_136 rfl rfl ?_
  refine wp_pure k_136 rfl rfl ?_
  refine wp_kn k_136 rfl rfl ?_
  refine wp_pure k_136 rfl rfl ?_
  refine dn (n := E.1.length) (P := fun i => ∀ (x3 : Value), sm_wp 136 9 [.ref m, .int (nI (rowN E.1 i)), .int (nI i), x3] [] h1 Q) ?_ ?_ 0 (Nat.zero_le _) (jk)
  · intro x3
    
    refine wp_pure k_136 rfl rfl ?_
    refine wp_pure k_136 rfl rfl ?_
    refine wm_iv k_136 rfl rfl M1 [] rfl (r := [.int (nI (E.1.length))]) (Nat.le_of_ble_eq_true rfl) (Nat.le_of_ble_eq_true rfl) rfl ?_
    refine wp_pure k_109 rfl rfl ?_
    refine wm_ga 4 M1 k_109 rfl rfl rfl (by decide) ?_
    refine wp_pure k_109 rfl rfl ?_
    refine wm_gi 3 M1 k_109 rfl rfl rfl rfl V1.h3 ?_
    refine wm_al 4 M1 k_109 rfl rfl (by decide) rfl (show e < 8 by omega) (v := nI E.1.length) V1.n4 ?_
    refine wp_irt k_109 rfl rfl rfl ⟨rfl, ?_⟩
    refine wp_br k_136 rfl rfl rfl rfl (fun _ => ?_) (fun z => absurd (Int32.le_refl _) z)
    refine wp_pure k_136 rfl rfl ?_
    refine wp_kn k_136 rfl rfl ?_
    refine wm_pi 47 M1 k_136 rfl rfl rfl rfl rfl rfl (fun h2 M2 => ?_)
    have V2 := V1.same (g' := uF (uF g 0 (nI 0)) 47 (nI 0)) (ar' := ar) ⟨uF_ne (by decide), uF_ne (by decide), uF_ne (by decide)⟩ (fun _ _ => rfl)
    refine wp_kn k_136 rfl rfl ?_
    refine wp_pure k_136 rfl rfl ?_
    refine dn (n := rowN E.1 E.1.length) (P := fun i => ∀ (x3 : Value), ∀ (h3 : sm_H) (g3 : Nat → Int32) (ar3 : Nat → Nat → Int32), MS h0 h3 m g3 ar3 → ((∀ k, k ≠ 47 → k ≠ 0 → g3 k = g k) ∧ g3 0 = nI 0 ∧ (∀ k, k ≠ 46 → ar3 k = ar k) ∧ g3 47 = nI (41 * i) ∧ ∀ j, j < 41 * i → ar3 46 j = plC E.1 j) → sm_wp 136 65 [.ref m, .int (nI (rowN E.1 (E.1.length))), .int (nI i), x3] [] h3 Q) ?_ ?_ 0 (Nat.zero_le _) (x3) _ _ _ M2 (⟨fun k h1 h2 => (uF_ne h1).trans (uF_ne h2), (uF_ne (by decide)).trans uF_at, fun _ _ => rfl, uF_at, fun j hj => absurd hj (by omega)⟩)
    · intro x3 h3 g3 ar3 M3 hA
      obtain ⟨hg, hg0, ha, h47, hp⟩ := hA
      refine wp_pure k_136 rfl rfl ?_
      refine wp_pure k_136 rfl rfl ?_
      refine wp_br k_136 rfl rfl rfl rfl (fun _ => ?_) (fun z => absurd (Int32.le_refl _) z)
      refine wp_pure k_136 rfl rfl ?_
      refine wm_gi 47 M3 k_136 rfl rfl rfl rfl h47 ?_
      refine wp_irt k_136 rfl rfl rfl ?_
      have hpl : ∀ (j : Nat) c, (plnE E.1)[j]? = some c → ar3 46 j = c := fun j c hj => by
        obtain ⟨q1, q2⟩ := plnE_get hj
        rw [q2]
        exact hp j q1
      have e := K _ _ _ M3 hg0 (R.pr hg ha (by rw [plnE_len]; exact h47) (by rw [plnE_len]; omega) hpl)
      rw [plnE_len] at e
      exact e
    · intro i hi0 ih0 x3 h3 g3 ar3 M3 hA
      obtain ⟨hg, hg0, ha, h47, hp⟩ := hA
      have hi1 : i < rowE E.1 := hi0
      refine wp_pure k_136 rfl rfl ?_
      refine wp_pure k_136 rfl rfl ?_
      refine wp_br k_136 rfl rfl rfl rfl (fun z => absurd z (nI_ge hi0 (by omega))) (fun _ => ?_)
      refine wp_kn k_136 rfl rfl ?_
      refine wp_pure k_136 rfl rfl ?_
      refine dn (n := 40) (P := fun j => ∀ (h4 : sm_H) (g4 : Nat → Int32) (ar4 : Nat → Nat → Int32), MS h0 h4 m g4 ar4 → ((∀ k, k ≠ 47 → k ≠ 0 → g4 k = g k) ∧ g4 0 = nI 0 ∧ (∀ k, k ≠ 46 → ar4 k = ar k) ∧ g4 47 = nI (41 * i + j) ∧ ∀ z, z < 41 * i + j → ar4 46 z = plC E.1 z) → sm_wp 136 72 [.ref m, .int (nI (rowN E.1 (E.1.length))), .int (nI i), .int (nI j)] [] h4 Q) ?_ ?_ 0 (Nat.zero_le _) _ _ _ M3 (⟨hg, hg0, ha, h47, hp⟩)
      · intro h4 g4 ar4 M4 hB
        obtain ⟨hg2, hg02, ha2, h472, hp2⟩ := hB
        have V_ := V.same (g' := g4) (ar' := ar4) ⟨hg2 3 (by decide) (by decide), hg2 14 (by decide) (by decide), hg2 18 (by decide) (by decide)⟩ (fun k hk => ha2 k (by omega))
        refine wp_pure k_136 rfl rfl ?_
        refine wp_kn k_136 rfl rfl ?_
        refine wp_br k_136 rfl rfl rfl rfl (fun _ => ?_) (fun z => absurd (Int32.le_refl _) z)
        refine wp_pure k_136 rfl rfl ?_
        refine wm_ga 46 M4 k_136 rfl rfl rfl (by decide) ?_
        refine wp_pure k_136 rfl rfl ?_
        refine wm_gi 47 M4 k_136 rfl rfl rfl rfl h472 ?_
        refine wp_kn k_136 rfl rfl ?_
        refine wm_as 46 M4 k_136 rfl rfl (by decide) rfl (show 41 * i + 40 < 820 by omega) (fun h5 M5 => ?_)
        have V5 := V_.same (g' := g4) (ar' := uA ar4 46 (41 * i + 40) (nI 10)) ⟨rfl, rfl, rfl⟩ (fun k hk => uA_ne (by omega))
        refine wp_pure k_136 rfl rfl ?_
        refine wp_pure k_136 rfl rfl ?_
        refine wm_gi 47 M5 k_136 rfl rfl rfl rfl h472 ?_
        refine wp_kn k_136 rfl rfl ?_
        refine wp_addN k_136 rfl ?_
        refine wm_pi 47 M5 k_136 rfl rfl rfl rfl rfl rfl (fun h6 M6 => ?_)
        have V6 := V5.same (g' := uF g4 47 (nI ((41 * i + 40) + 1))) (ar' := uA ar4 46 (41 * i + 40) (nI 10)) ⟨uF_ne (by decide), uF_ne (by decide), uF_ne (by decide)⟩ (fun _ _ => rfl)
        refine wp_inc k_136 rfl rfl rfl ?_
        refine wp_br k_136 rfl rfl rfl rfl (fun _ => ?_) (fun z => absurd trivial z)
        refine ih0 (.int (nI 40)) _ _ _ M6 ⟨fun k h1 h2 => (uF_ne h1).trans (hg2 k h1 h2), (uF_ne (by decide)).trans hg02, fun k hk => (uA_ne hk).trans (ha2 k hk), uF_at.trans (by congr 1), fun j hj => ?_⟩
        by_cases e : j = 41 * i + 40
        · rw [e]
          refine uA_at.trans ?_
          unfold plC
          rw [if_pos (by omega)]
        · exact (uA_nn e).trans (hp2 j (by omega))
      · intro j hj0 ih1 h4 g4 ar4 M4 hB
        obtain ⟨hg2, hg02, ha2, h472, hp2⟩ := hB
        have V_ := V.same (g' := g4) (ar' := ar4) ⟨hg2 3 (by decide) (by decide), hg2 14 (by decide) (by decide), hg2 18 (by decide) (by decide)⟩ (fun k hk => ha2 k (by omega))
        refine wp_pure k_136 rfl rfl ?_
        refine wp_kn k_136 rfl rfl ?_
        refine wp_br k_136 rfl rfl rfl rfl (fun z => absurd z (nI_ge hj0 (by omega))) (fun _ => ?_)
        refine wp_pure k_136 rfl rfl ?_
        refine wm_ga 46 M4 k_136 rfl rfl rfl (by decide) ?_
        refine wp_pure k_136 rfl rfl ?_
        refine wm_gi 47 M4 k_136 rfl rfl rfl rfl h472 ?_
        refine wp_pure k_136 rfl rfl ?_
        refine wp_pure k_136 rfl rfl ?_
        refine wp_pure k_136 rfl rfl ?_
        refine wm_iv k_136 rfl rfl M4 [.int (nI j), .int (nI i)] rfl (r := [.int (nI (41 * i + j)), .ref (m + mo 46)]) (Nat.le_of_ble_eq_true rfl) (Nat.le_of_ble_eq_true rfl) rfl ?_
        refine m_signAt M4 V_ hW ⟨rfl, ?_⟩
        refine wm_as 46 M4 k_136 rfl rfl (by decide) rfl (show 41 * i + j < 820 by omega) (fun h7 M7 => ?_)
        have V7 := V_.same (g' := g4) (ar' := uA ar4 46 (41 * i + j) (sgnE E.1 j i)) ⟨rfl, rfl, rfl⟩ (fun k hk => uA_ne (by omega))
        refine wp_pure k_136 rfl rfl ?_
        refine wp_pure k_136 rfl rfl ?_
        refine wm_gi 47 M7 k_136 rfl rfl rfl rfl h472 ?_
        refine wp_kn k_136 rfl rfl ?_
        refine wp_addN k_136 rfl ?_
        refine wm_pi 47 M7 k_136 rfl rfl rfl rfl rfl rfl (fun h8 M8 => ?_)
        have V8 := V7.same (g' := uF g4 47 (nI ((41 * i + j) + 1))) (ar' := uA ar4 46 (41 * i + j) (sgnE E.1 j i)) ⟨uF_ne (by decide), uF_ne (by decide), uF_ne (by decide)⟩ (fun _ _ => rfl)
        refine wp_inc k_136 rfl rfl rfl ?_
        refine wp_br k_136 rfl rfl rfl rfl (fun _ => ?_) (fun z => absurd trivial z)
        refine ih1 _ _ _ M8 ⟨fun k h1 h2 => (uF_ne h1).trans (hg2 k h1 h2), (uF_ne (by decide)).trans hg02, fun k hk => (uA_ne hk).trans (ha2 k hk), uF_at.trans (by congr 1), fun z hz => ?_⟩
        by_cases e : z = 41 * i + j
        · rw [e]
          refine uA_at.trans ?_
          unfold plC
          rw [if_neg (by omega), show (41 * i + j) % 41 = j by omega, show (41 * i + j) / 41 = i by omega]
        · exact (uA_nn e).trans (hp2 z (by omega))
  · intro i hi ih x3
    obtain ⟨kd9, x9, y9, w9, h9, lv9, a1, a2, a3, a4, a5, a6, a7, a8, a9, b1, b2, b3, _⟩ := hW.pl hi
    have rl := rowN_le hW i (by omega)
    have er : rowN E.1 (i + 1) = max (rowN E.1 i) (y9 + h9) := by
      show max _ _ = _
      rw [a5, a7, nI_clamp (by omega), nI_clamp (by omega)]
    refine wp_pure k_136 rfl rfl ?_
    refine wp_pure k_136 rfl rfl ?_
    refine wm_iv k_136 rfl rfl M1 [] rfl (r := [.int (nI i)]) (Nat.le_of_ble_eq_true rfl) (Nat.le_of_ble_eq_true rfl) rfl ?_
    refine wp_pure k_109 rfl rfl ?_
    refine wm_ga 4 M1 k_109 rfl rfl rfl (by decide) ?_
    refine wp_pure k_109 rfl rfl ?_
    refine wm_gi 3 M1 k_109 rfl rfl rfl rfl V1.h3 ?_
    refine wm_al 4 M1 k_109 rfl rfl (by decide) rfl (show e < 8 by omega) (v := nI E.1.length) V1.n4 ?_
    refine wp_irt k_109 rfl rfl rfl ⟨rfl, ?_⟩
    refine wp_br k_136 rfl rfl rfl rfl (fun z => absurd z (nI_ge hi (by omega))) (fun _ => ?_)
    refine wp_pure k_136 rfl rfl ?_
    refine wm_ga 8 M1 k_136 rfl rfl rfl (by decide) ?_
    refine wp_pure k_136 rfl rfl ?_
    refine wm_iv k_136 rfl rfl M1 [] rfl (r := [.ref (m + mo 8)]) (Nat.le_of_ble_eq_true rfl) (Nat.le_of_ble_eq_true rfl) rfl ?_
    refine wp_kn k_110 rfl rfl ?_
    refine wp_pure k_110 rfl rfl ?_
    refine wm_gi 3 M1 k_110 rfl rfl rfl rfl V1.h3 ?_
    refine wp_mulN k_110 rfl ?_
    refine wp_irt k_110 rfl rfl rfl ⟨rfl, ?_⟩
    refine wp_pure k_136 rfl rfl ?_
    refine wp_addN k_136 rfl ?_
    refine wm_al 8 M1 k_136 rfl rfl (by decide) rfl (show (60 * e) + i < 480 by omega) (v := nI y9) ((V1.p8 i hi).trans a5) ?_
    refine wp_pure k_136 rfl rfl ?_
    refine wm_ga 10 M1 k_136 rfl rfl rfl (by decide) ?_
    refine wp_pure k_136 rfl rfl ?_
    refine wm_iv k_136 rfl rfl M1 [] rfl (r := [.ref (m + mo 10), .int (nI y9)]) (Nat.le_of_ble_eq_true rfl) (Nat.le_of_ble_eq_true rfl) rfl ?_
    refine wp_kn k_110 rfl rfl ?_
    refine wp_pure k_110 rfl rfl ?_
    refine wm_gi 3 M1 k_110 rfl rfl rfl rfl V1.h3 ?_
    refine wp_mulN k_110 rfl ?_
    refine wp_irt k_110 rfl rfl rfl ⟨rfl, ?_⟩
    refine wp_pure k_136 rfl rfl ?_
    refine wp_addN k_136 rfl ?_
    refine wm_al 10 M1 k_136 rfl rfl (by decide) rfl (show (60 * e) + i < 480 by omega) (v := nI h9) ((V1.p10 i hi).trans a7) ?_
    refine wp_addN k_136 rfl ?_
    refine wp_pure k_136 rfl rfl ?_
    refine wp_pure k_136 rfl rfl ?_
    refine wp_pure k_136 rfl rfl ?_
    refine wp_br k_136 rfl rfl rfl rfl (fun (z43 : nI (y9 + h9) ≤ nI (rowN E.1 i)) => ?_) (fun (z43 : ¬ (nI (y9 + h9) ≤ nI (rowN E.1 i))) => ?_)
    · have y43 : y9 + h9 ≤ rowN E.1 i := yLe (by omega) (by omega) z43
      refine wp_pure k_136 rfl rfl ?_
      refine wp_pure k_136 rfl rfl ?_
      refine wp_inc k_136 rfl rfl rfl ?_
      refine wp_br k_136 rfl rfl rfl rfl (fun _ => ?_) (fun z => absurd trivial z)
      rw [er, show max (rowN E.1 i) (y9 + h9) = rowN E.1 i by omega] at ih
      exact ih (.int (nI (y9 + h9)))
    · have y43 : rowN E.1 i < y9 + h9 := yNLe (by omega) (by omega) z43
      refine wp_pure k_136 rfl rfl ?_
      refine wp_br k_136 rfl rfl rfl rfl (fun _ => ?_) (fun z => absurd trivial z)
      refine wp_pure k_136 rfl rfl ?_
      refine wp_inc k_136 rfl rfl rfl ?_
      refine wp_br k_136 rfl rfl rfl rfl (fun _ => ?_) (fun z => absurd trivial z)
      rw [er, show max (rowN E.1 i) (y9 + h9) = y9 + h9 by omega] at ih
      exact ih (.int (nI (y9 + h9)))
