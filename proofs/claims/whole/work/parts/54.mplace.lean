theorem m_linesAt {h0 h : sm_H} {m : Nat} {g : Nat → Int32} {ar : Nat → Nat → Int32} {Q : Nat → Option Value → sm_H → Prop} {E : Ed} {e : Nat} (M : MS h0 h m g ar) (V : MV g ar E e) (hW : EdW E) {k : Nat} (hk : k < E.1.length) (K : Q 0 (some (.int (nI (linE E k)))) h) : sm_wp 111 0 [.ref m, .int (nI k), jk, jk] [] h Q := by
  have he := V.he
  have hn := V.hn
  have hl := V.hl
  by_cases h6 : atP E.1 1 k = nI 6
  · rw [linE_6 hW h6] at K
    refine wp_pure k_111 rfl rfl ?_
    refine wp_pure k_111 rfl rfl ?_
    refine wm_iv k_111 rfl rfl M [.int (nI k)] rfl (r := []) (Nat.le_of_ble_eq_true rfl) (Nat.le_of_ble_eq_true rfl) rfl ?_
    refine wp_pure k_112 rfl rfl ?_
    refine wm_ga 5 M k_112 rfl rfl rfl (by decide) ?_
    refine wp_pure k_112 rfl rfl ?_
    refine wm_iv k_112 rfl rfl M [] rfl (r := [.ref (m + mo 5)]) (Nat.le_of_ble_eq_true rfl) (Nat.le_of_ble_eq_true rfl) rfl ?_
    refine wp_kn k_110 rfl rfl ?_
    refine wp_pure k_110 rfl rfl ?_
    refine wm_gi 3 M k_110 rfl rfl rfl rfl V.h3 ?_
    refine wp_mulN k_110 rfl ?_
    refine wp_irt k_110 rfl rfl rfl ⟨rfl, ?_⟩
    refine wp_pure k_112 rfl rfl ?_
    refine wp_addN k_112 rfl ?_
    refine wm_al 5 M k_112 rfl rfl (by decide) rfl (show (60 * e) + k < 480 by omega) (v := atP E.1 1 k) (V.p5 k (by omega)) ?_
    refine wp_irt k_112 rfl rfl rfl ⟨rfl, ?_⟩
    refine wp_kn k_111 rfl rfl ?_
    refine wp_br k_111 rfl rfl rfl rfl (fun z => absurd z (fun q => q h6)) (fun _ => ?_)
    refine wp_pure k_111 rfl rfl ?_
    refine wm_ga 21 M k_111 rfl rfl rfl (by decide) ?_
    refine wp_pure k_111 rfl rfl ?_
    refine wm_al 21 M k_111 rfl rfl (by decide) rfl (show k < 60 by omega) (v := nI (stP E.1 k).length) (V.sc k (by omega)) ?_
    refine wp_br k_111 rfl rfl rfl rfl (fun _ => ?_) (fun z => absurd trivial z)
    refine wp_pure k_111 rfl rfl ?_
    refine wp_kn k_111 rfl rfl ?_
    refine wp_pure k_111 rfl rfl ?_
    refine wp_pure k_111 rfl rfl ?_
    refine wp_pure k_111 rfl rfl ?_
    refine wm_gi 14 M k_111 rfl rfl rfl rfl V.h14 ?_
    refine wp_br k_111 rfl rfl rfl rfl (fun (z28 : nI E.2.1.length ≤ nI 0) => ?_) (fun (z28 : ¬ (nI E.2.1.length ≤ nI 0)) => ?_)
    · have y28 : E.2.1.length ≤ 0 := yLe (by omega) (by omega) z28
      refine wp_kn k_111 rfl rfl ?_
      refine wp_pure k_111 rfl rfl ?_
      refine wp_pure k_111 rfl rfl ?_
      refine wp_pure k_111 rfl rfl ?_
      refine wm_gi 18 M k_111 rfl rfl rfl rfl V.h18 ?_
      refine wp_br k_111 rfl rfl rfl rfl (fun (z81 : nI E.2.2.length ≤ nI 0) => ?_) (fun (z81 : ¬ (nI E.2.2.length ≤ nI 0)) => ?_)
      · have y81 : E.2.2.length ≤ 0 := yLe (by omega) (by omega) z81
        refine wp_pure k_111 rfl rfl ?_
        exact wp_irt k_111 rfl rfl rfl K
      · have y81 : 0 < E.2.2.length := yNLe (by omega) (by omega) z81
        refine wp_pure k_111 rfl rfl ?_
        refine wp_pure k_111 rfl rfl ?_
        refine wm_iv k_111 rfl rfl M [.int (nI k)] rfl (r := []) (Nat.le_of_ble_eq_true rfl) (Nat.le_of_ble_eq_true rfl) rfl ?_
        refine wp_pure k_112 rfl rfl ?_
        refine wm_ga 5 M k_112 rfl rfl rfl (by decide) ?_
        refine wp_pure k_112 rfl rfl ?_
        refine wm_iv k_112 rfl rfl M [] rfl (r := [.ref (m + mo 5)]) (Nat.le_of_ble_eq_true rfl) (Nat.le_of_ble_eq_true rfl) rfl ?_
        refine wp_kn k_110 rfl rfl ?_
        refine wp_pure k_110 rfl rfl ?_
        refine wm_gi 3 M k_110 rfl rfl rfl rfl V.h3 ?_
        refine wp_mulN k_110 rfl ?_
        refine wp_irt k_110 rfl rfl rfl ⟨rfl, ?_⟩
        refine wp_pure k_112 rfl rfl ?_
        refine wp_addN k_112 rfl ?_
        refine wm_al 5 M k_112 rfl rfl (by decide) rfl (show (60 * e) + k < 480 by omega) (v := atP E.1 1 k) (V.p5 k (by omega)) ?_
        refine wp_irt k_112 rfl rfl rfl ⟨rfl, ?_⟩
        refine wp_kn k_111 rfl rfl ?_
        refine wp_br k_111 rfl rfl rfl rfl (fun _ => ?_) (fun z => absurd (show ¬ atP E.1 1 k = nI 1 from (by rw [h6]; decide)) z)
        refine wp_pure k_111 rfl rfl ?_
        exact wp_irt k_111 rfl rfl rfl K
    · have y28 : 0 < E.2.1.length := yNLe (by omega) (by omega) z28
      refine wp_pure k_111 rfl rfl ?_
      refine wp_pure k_111 rfl rfl ?_
      refine wm_iv k_111 rfl rfl M [.int (nI k)] rfl (r := []) (Nat.le_of_ble_eq_true rfl) (Nat.le_of_ble_eq_true rfl) rfl ?_
      refine wp_pure k_112 rfl rfl ?_
      refine wm_ga 5 M k_112 rfl rfl rfl (by decide) ?_
      refine wp_pure k_112 rfl rfl ?_
      refine wm_iv k_112 rfl rfl M [] rfl (r := [.ref (m + mo 5)]) (Nat.le_of_ble_eq_true rfl) (Nat.le_of_ble_eq_true rfl) rfl ?_
      refine wp_kn k_110 rfl rfl ?_
      refine wp_pure k_110 rfl rfl ?_
      refine wm_gi 3 M k_110 rfl rfl rfl rfl V.h3 ?_
      refine wp_mulN k_110 rfl ?_
      refine wp_irt k_110 rfl rfl rfl ⟨rfl, ?_⟩
      refine wp_pure k_112 rfl rfl ?_
      refine wp_addN k_112 rfl ?_
      refine wm_al 5 M k_112 rfl rfl (by decide) rfl (show (60 * e) + k < 480 by omega) (v := atP E.1 1 k) (V.p5 k (by omega)) ?_
      refine wp_irt k_112 rfl rfl rfl ⟨rfl, ?_⟩
      refine wp_kn k_111 rfl rfl ?_
      refine wp_br k_111 rfl rfl rfl rfl (fun _ => ?_) (fun z => absurd (show ¬ atP E.1 1 k = nI 2 from (by rw [h6]; decide)) z)
      refine wp_kn k_111 rfl rfl ?_
      refine wp_pure k_111 rfl rfl ?_
      refine wp_pure k_111 rfl rfl ?_
      refine wp_pure k_111 rfl rfl ?_
      refine wm_gi 18 M k_111 rfl rfl rfl rfl V.h18 ?_
      refine wp_br k_111 rfl rfl rfl rfl (fun (z81 : nI E.2.2.length ≤ nI 0) => ?_) (fun (z81 : ¬ (nI E.2.2.length ≤ nI 0)) => ?_)
      · have y81 : E.2.2.length ≤ 0 := yLe (by omega) (by omega) z81
        refine wp_pure k_111 rfl rfl ?_
        exact wp_irt k_111 rfl rfl rfl K
      · have y81 : 0 < E.2.2.length := yNLe (by omega) (by omega) z81
        refine wp_pure k_111 rfl rfl ?_
        refine wp_pure k_111 rfl rfl ?_
        refine wm_iv k_111 rfl rfl M [.int (nI k)] rfl (r := []) (Nat.le_of_ble_eq_true rfl) (Nat.le_of_ble_eq_true rfl) rfl ?_
        refine wp_pure k_112 rfl rfl ?_
        refine wm_ga 5 M k_112 rfl rfl rfl (by decide) ?_
        refine wp_pure k_112 rfl rfl ?_
        refine wm_iv k_112 rfl rfl M [] rfl (r := [.ref (m + mo 5)]) (Nat.le_of_ble_eq_true rfl) (Nat.le_of_ble_eq_true rfl) rfl ?_
        refine wp_kn k_110 rfl rfl ?_
        refine wp_pure k_110 rfl rfl ?_
        refine wm_gi 3 M k_110 rfl rfl rfl rfl V.h3 ?_
        refine wp_mulN k_110 rfl ?_
        refine wp_irt k_110 rfl rfl rfl ⟨rfl, ?_⟩
        refine wp_pure k_112 rfl rfl ?_
        refine wp_addN k_112 rfl ?_
        refine wm_al 5 M k_112 rfl rfl (by decide) rfl (show (60 * e) + k < 480 by omega) (v := atP E.1 1 k) (V.p5 k (by omega)) ?_
        refine wp_irt k_112 rfl rfl rfl ⟨rfl, ?_⟩
        refine wp_kn k_111 rfl rfl ?_
        refine wp_br k_111 rfl rfl rfl rfl (fun _ => ?_) (fun z => absurd (show ¬ atP E.1 1 k = nI 1 from (by rw [h6]; decide)) z)
        refine wp_pure k_111 rfl rfl ?_
        exact wp_irt k_111 rfl rfl rfl K
  by_cases h2 : atP E.1 1 k = nI 2
  · rw [linE_2 hW hk h2] at K
    refine wp_pure k_111 rfl rfl ?_
    refine wp_pure k_111 rfl rfl ?_
    refine wm_iv k_111 rfl rfl M [.int (nI k)] rfl (r := []) (Nat.le_of_ble_eq_true rfl) (Nat.le_of_ble_eq_true rfl) rfl ?_
    refine wp_pure k_112 rfl rfl ?_
    refine wm_ga 5 M k_112 rfl rfl rfl (by decide) ?_
    refine wp_pure k_112 rfl rfl ?_
    refine wm_iv k_112 rfl rfl M [] rfl (r := [.ref (m + mo 5)]) (Nat.le_of_ble_eq_true rfl) (Nat.le_of_ble_eq_true rfl) rfl ?_
    refine wp_kn k_110 rfl rfl ?_
    refine wp_pure k_110 rfl rfl ?_
    refine wm_gi 3 M k_110 rfl rfl rfl rfl V.h3 ?_
    refine wp_mulN k_110 rfl ?_
    refine wp_irt k_110 rfl rfl rfl ⟨rfl, ?_⟩
    refine wp_pure k_112 rfl rfl ?_
    refine wp_addN k_112 rfl ?_
    refine wm_al 5 M k_112 rfl rfl (by decide) rfl (show (60 * e) + k < 480 by omega) (v := atP E.1 1 k) (V.p5 k (by omega)) ?_
    refine wp_irt k_112 rfl rfl rfl ⟨rfl, ?_⟩
    refine wp_kn k_111 rfl rfl ?_
    refine wp_br k_111 rfl rfl rfl rfl (fun _ => ?_) (fun z => absurd (show ¬ atP E.1 1 k = nI 6 from (by rw [h2]; decide)) z)
    refine wp_kn k_111 rfl rfl ?_
    refine wp_pure k_111 rfl rfl ?_
    refine wp_kn k_111 rfl rfl ?_
    refine wp_pure k_111 rfl rfl ?_
    refine dn (n := E.2.1.length) (P := fun i => sm_wp 111 23 [.ref m, .int (nI k), .int (nI (cntP i (fun i => wA E.2.1 i = k ∨ wB E.2.1 i = k))), .int (nI i)] [] h Q) ?_ ?_ 0 (Nat.zero_le _)
    · skip
      
      refine wp_pure k_111 rfl rfl ?_
      refine wp_pure k_111 rfl rfl ?_
      refine wm_gi 14 M k_111 rfl rfl rfl rfl V.h14 ?_
      refine wp_br k_111 rfl rfl rfl rfl (fun _ => ?_) (fun z => absurd (Int32.le_refl _) z)
      refine wp_kn k_111 rfl rfl ?_
      refine wp_pure k_111 rfl rfl ?_
      refine wp_pure k_111 rfl rfl ?_
      refine wp_pure k_111 rfl rfl ?_
      refine wm_gi 18 M k_111 rfl rfl rfl rfl V.h18 ?_
      refine wp_br k_111 rfl rfl rfl rfl (fun (z81 : nI E.2.2.length ≤ nI 0) => ?_) (fun (z81 : ¬ (nI E.2.2.length ≤ nI 0)) => ?_)
      · have y81 : E.2.2.length ≤ 0 := yLe (by omega) (by omega) z81
        refine wp_pure k_111 rfl rfl ?_
        exact wp_irt k_111 rfl rfl rfl K
      · have y81 : 0 < E.2.2.length := yNLe (by omega) (by omega) z81
        refine wp_pure k_111 rfl rfl ?_
        refine wp_pure k_111 rfl rfl ?_
        refine wm_iv k_111 rfl rfl M [.int (nI k)] rfl (r := []) (Nat.le_of_ble_eq_true rfl) (Nat.le_of_ble_eq_true rfl) rfl ?_
        refine wp_pure k_112 rfl rfl ?_
        refine wm_ga 5 M k_112 rfl rfl rfl (by decide) ?_
        refine wp_pure k_112 rfl rfl ?_
        refine wm_iv k_112 rfl rfl M [] rfl (r := [.ref (m + mo 5)]) (Nat.le_of_ble_eq_true rfl) (Nat.le_of_ble_eq_true rfl) rfl ?_
        refine wp_kn k_110 rfl rfl ?_
        refine wp_pure k_110 rfl rfl ?_
        refine wm_gi 3 M k_110 rfl rfl rfl rfl V.h3 ?_
        refine wp_mulN k_110 rfl ?_
        refine wp_irt k_110 rfl rfl rfl ⟨rfl, ?_⟩
        refine wp_pure k_112 rfl rfl ?_
        refine wp_addN k_112 rfl ?_
        refine wm_al 5 M k_112 rfl rfl (by decide) rfl (show (60 * e) + k < 480 by omega) (v := atP E.1 1 k) (V.p5 k (by omega)) ?_
        refine wp_irt k_112 rfl rfl rfl ⟨rfl, ?_⟩
        refine wp_kn k_111 rfl rfl ?_
        refine wp_br k_111 rfl rfl rfl rfl (fun _ => ?_) (fun z => absurd (show ¬ atP E.1 1 k = nI 1 from (by rw [h2]; decide)) z)
        refine wp_pure k_111 rfl rfl ?_
        exact wp_irt k_111 rfl rfl rfl K
    · intro i hi ih 
      have bw : wA E.2.1 i < 60 ∧ wB E.2.1 i < 60 := by have := hW.2.2.1 _ _ _ (w_mem hi); omega
      refine wp_pure k_111 rfl rfl ?_
      refine wp_pure k_111 rfl rfl ?_
      refine wm_gi 14 M k_111 rfl rfl rfl rfl V.h14 ?_
      refine wp_br k_111 rfl rfl rfl rfl (fun z => absurd z (nI_ge hi (by omega))) (fun _ => ?_)
      refine wp_pure k_111 rfl rfl ?_
      refine wp_pure k_111 rfl rfl ?_
      refine wm_iv k_111 rfl rfl M [.int (nI k)] rfl (r := []) (Nat.le_of_ble_eq_true rfl) (Nat.le_of_ble_eq_true rfl) rfl ?_
      refine wp_pure k_112 rfl rfl ?_
      refine wm_ga 5 M k_112 rfl rfl rfl (by decide) ?_
      refine wp_pure k_112 rfl rfl ?_
      refine wm_iv k_112 rfl rfl M [] rfl (r := [.ref (m + mo 5)]) (Nat.le_of_ble_eq_true rfl) (Nat.le_of_ble_eq_true rfl) rfl ?_
      refine wp_kn k_110 rfl rfl ?_
      refine wp_pure k_110 rfl rfl ?_
      refine wm_gi 3 M k_110 rfl rfl rfl rfl V.h3 ?_
      refine wp_mulN k_110 rfl ?_
      refine wp_irt k_110 rfl rfl rfl ⟨rfl, ?_⟩
      refine wp_pure k_112 rfl rfl ?_
      refine wp_addN k_112 rfl ?_
      refine wm_al 5 M k_112 rfl rfl (by decide) rfl (show (60 * e) + k < 480 by omega) (v := atP E.1 1 k) (V.p5 k (by omega)) ?_
      refine wp_irt k_112 rfl rfl rfl ⟨rfl, ?_⟩
      refine wp_kn k_111 rfl rfl ?_
      refine wp_br k_111 rfl rfl rfl rfl (fun z => absurd z (fun q => q h2)) (fun _ => ?_)
      refine wp_pure k_111 rfl rfl ?_
      refine wp_pure k_111 rfl rfl ?_
      refine wm_ga 15 M k_111 rfl rfl rfl (by decide) ?_
      refine wp_pure k_111 rfl rfl ?_
      refine wm_al 15 M k_111 rfl rfl (by decide) rfl (show i < 60 by omega) (v := nI (wA E.2.1 i)) (V.w15 i (by omega)) ?_
      refine wp_pure k_111 rfl rfl ?_
      refine wp_br k_111 rfl rfl rfl rfl (fun (z48 : nI (wA E.2.1 i) = nI k) => ?_) (fun (z48 : ¬ (nI (wA E.2.1 i) = nI k)) => ?_)
      · have y48 : wA E.2.1 i = k := yE (by omega) (by omega) z48
        refine wp_kn k_111 rfl rfl ?_
        refine wp_br k_111 rfl rfl rfl rfl (fun _ => ?_) (fun z => absurd trivial z)
        refine wp_addN k_111 rfl ?_
        refine wp_pure k_111 rfl rfl ?_
        refine wp_inc k_111 rfl rfl rfl ?_
        refine wp_br k_111 rfl rfl rfl rfl (fun _ => ?_) (fun z => absurd trivial z)
        rw [cntP_y (f := fun i => wA E.2.1 i = k ∨ wB E.2.1 i = k) (Or.inl y48)] at ih
        exact ih
      · have y48 : ¬ wA E.2.1 i = k := yNE (by omega) (by omega) z48
        refine wp_pure k_111 rfl rfl ?_
        refine wm_ga 16 M k_111 rfl rfl rfl (by decide) ?_
        refine wp_pure k_111 rfl rfl ?_
        refine wm_al 16 M k_111 rfl rfl (by decide) rfl (show i < 60 by omega) (v := nI (wB E.2.1 i)) (V.w16 i (by omega)) ?_
        refine wp_pure k_111 rfl rfl ?_
        refine wp_br k_111 rfl rfl rfl rfl (fun (z58 : ¬ nI (wB E.2.1 i) = nI k) => ?_) (fun (z58 : ¬ (¬ nI (wB E.2.1 i) = nI k)) => ?_)
        · have y58 : ¬ wB E.2.1 i = k := yNE (by omega) (by omega) z58
          refine wp_kn k_111 rfl rfl ?_
          refine wp_addN k_111 rfl ?_
          refine wp_pure k_111 rfl rfl ?_
          refine wp_inc k_111 rfl rfl rfl ?_
          refine wp_br k_111 rfl rfl rfl rfl (fun _ => ?_) (fun z => absurd trivial z)
          rw [cntP_n (f := fun i => wA E.2.1 i = k ∨ wB E.2.1 i = k) (fun q => q.elim y48 y58)] at ih
          exact ih
        · have y58 : wB E.2.1 i = k := yNNE (by omega) (by omega) z58
          refine wp_kn k_111 rfl rfl ?_
          refine wp_br k_111 rfl rfl rfl rfl (fun _ => ?_) (fun z => absurd trivial z)
          refine wp_addN k_111 rfl ?_
          refine wp_pure k_111 rfl rfl ?_
          refine wp_inc k_111 rfl rfl rfl ?_
          refine wp_br k_111 rfl rfl rfl rfl (fun _ => ?_) (fun z => absurd trivial z)
          rw [cntP_y (f := fun i => wA E.2.1 i = k ∨ wB E.2.1 i = k) (Or.inr y58)] at ih
          exact ih
  by_cases h1 : atP E.1 1 k = nI 1
  · rw [linE_1 hW hk h1] at K
    refine wp_pure k_111 rfl rfl ?_
    refine wp_pure k_111 rfl rfl ?_
    refine wm_iv k_111 rfl rfl M [.int (nI k)] rfl (r := []) (Nat.le_of_ble_eq_true rfl) (Nat.le_of_ble_eq_true rfl) rfl ?_
    refine wp_pure k_112 rfl rfl ?_
    refine wm_ga 5 M k_112 rfl rfl rfl (by decide) ?_
    refine wp_pure k_112 rfl rfl ?_
    refine wm_iv k_112 rfl rfl M [] rfl (r := [.ref (m + mo 5)]) (Nat.le_of_ble_eq_true rfl) (Nat.le_of_ble_eq_true rfl) rfl ?_
    refine wp_kn k_110 rfl rfl ?_
    refine wp_pure k_110 rfl rfl ?_
    refine wm_gi 3 M k_110 rfl rfl rfl rfl V.h3 ?_
    refine wp_mulN k_110 rfl ?_
    refine wp_irt k_110 rfl rfl rfl ⟨rfl, ?_⟩
    refine wp_pure k_112 rfl rfl ?_
    refine wp_addN k_112 rfl ?_
    refine wm_al 5 M k_112 rfl rfl (by decide) rfl (show (60 * e) + k < 480 by omega) (v := atP E.1 1 k) (V.p5 k (by omega)) ?_
    refine wp_irt k_112 rfl rfl rfl ⟨rfl, ?_⟩
    refine wp_kn k_111 rfl rfl ?_
    refine wp_br k_111 rfl rfl rfl rfl (fun _ => ?_) (fun z => absurd (show ¬ atP E.1 1 k = nI 6 from (by rw [h1]; decide)) z)
    refine wp_kn k_111 rfl rfl ?_
    refine wp_pure k_111 rfl rfl ?_
    refine wp_kn k_111 rfl rfl ?_
    refine wp_pure k_111 rfl rfl ?_
    refine wp_pure k_111 rfl rfl ?_
    refine wp_pure k_111 rfl rfl ?_
    refine wm_gi 14 M k_111 rfl rfl rfl rfl V.h14 ?_
    refine wp_br k_111 rfl rfl rfl rfl (fun (z28 : nI E.2.1.length ≤ nI 0) => ?_) (fun (z28 : ¬ (nI E.2.1.length ≤ nI 0)) => ?_)
    · have y28 : E.2.1.length ≤ 0 := yLe (by omega) (by omega) z28
      refine wp_kn k_111 rfl rfl ?_
      refine wp_pure k_111 rfl rfl ?_
      refine dn (n := E.2.2.length) (P := fun i => sm_wp 111 76 [.ref m, .int (nI k), .int (nI (cntP i (fun i => vA E.2.2 i = k))), .int (nI i)] [] h Q) ?_ ?_ 0 (Nat.zero_le _)
      · skip
        
        refine wp_pure k_111 rfl rfl ?_
        refine wp_pure k_111 rfl rfl ?_
        refine wm_gi 18 M k_111 rfl rfl rfl rfl V.h18 ?_
        refine wp_br k_111 rfl rfl rfl rfl (fun _ => ?_) (fun z => absurd (Int32.le_refl _) z)
        refine wp_pure k_111 rfl rfl ?_
        exact wp_irt k_111 rfl rfl rfl K
      · intro i hi ih 
        have bw : vA E.2.2 i < 60 := by have := hW.2.2.2 _ _ (v_mem hi); omega
        refine wp_pure k_111 rfl rfl ?_
        refine wp_pure k_111 rfl rfl ?_
        refine wm_gi 18 M k_111 rfl rfl rfl rfl V.h18 ?_
        refine wp_br k_111 rfl rfl rfl rfl (fun z => absurd z (nI_ge hi (by omega))) (fun _ => ?_)
        refine wp_pure k_111 rfl rfl ?_
        refine wp_pure k_111 rfl rfl ?_
        refine wm_iv k_111 rfl rfl M [.int (nI k)] rfl (r := []) (Nat.le_of_ble_eq_true rfl) (Nat.le_of_ble_eq_true rfl) rfl ?_
        refine wp_pure k_112 rfl rfl ?_
        refine wm_ga 5 M k_112 rfl rfl rfl (by decide) ?_
        refine wp_pure k_112 rfl rfl ?_
        refine wm_iv k_112 rfl rfl M [] rfl (r := [.ref (m + mo 5)]) (Nat.le_of_ble_eq_true rfl) (Nat.le_of_ble_eq_true rfl) rfl ?_
        refine wp_kn k_110 rfl rfl ?_
        refine wp_pure k_110 rfl rfl ?_
        refine wm_gi 3 M k_110 rfl rfl rfl rfl V.h3 ?_
        refine wp_mulN k_110 rfl ?_
        refine wp_irt k_110 rfl rfl rfl ⟨rfl, ?_⟩
        refine wp_pure k_112 rfl rfl ?_
        refine wp_addN k_112 rfl ?_
        refine wm_al 5 M k_112 rfl rfl (by decide) rfl (show (60 * e) + k < 480 by omega) (v := atP E.1 1 k) (V.p5 k (by omega)) ?_
        refine wp_irt k_112 rfl rfl rfl ⟨rfl, ?_⟩
        refine wp_kn k_111 rfl rfl ?_
        refine wp_br k_111 rfl rfl rfl rfl (fun z => absurd z (fun q => q h1)) (fun _ => ?_)
        refine wp_pure k_111 rfl rfl ?_
        refine wp_pure k_111 rfl rfl ?_
        refine wm_ga 19 M k_111 rfl rfl rfl (by decide) ?_
        refine wp_pure k_111 rfl rfl ?_
        refine wm_al 19 M k_111 rfl rfl (by decide) rfl (show i < 60 by omega) (v := nI (vA E.2.2 i)) (V.w19 i (by omega)) ?_
        refine wp_pure k_111 rfl rfl ?_
        refine wp_br k_111 rfl rfl rfl rfl (fun (z101 : ¬ nI (vA E.2.2 i) = nI k) => ?_) (fun (z101 : ¬ (¬ nI (vA E.2.2 i) = nI k)) => ?_)
        · have y101 : ¬ vA E.2.2 i = k := yNE (by omega) (by omega) z101
          refine wp_kn k_111 rfl rfl ?_
          refine wp_addN k_111 rfl ?_
          refine wp_pure k_111 rfl rfl ?_
          refine wp_inc k_111 rfl rfl rfl ?_
          refine wp_br k_111 rfl rfl rfl rfl (fun _ => ?_) (fun z => absurd trivial z)
          rw [cntP_n (f := fun i => vA E.2.2 i = k) y101] at ih
          exact ih
        · have y101 : vA E.2.2 i = k := yNNE (by omega) (by omega) z101
          refine wp_kn k_111 rfl rfl ?_
          refine wp_br k_111 rfl rfl rfl rfl (fun _ => ?_) (fun z => absurd trivial z)
          refine wp_addN k_111 rfl ?_
          refine wp_pure k_111 rfl rfl ?_
          refine wp_inc k_111 rfl rfl rfl ?_
          refine wp_br k_111 rfl rfl rfl rfl (fun _ => ?_) (fun z => absurd trivial z)
          rw [cntP_y (f := fun i => vA E.2.2 i = k) y101] at ih
          exact ih
    · have y28 : 0 < E.2.1.length := yNLe (by omega) (by omega) z28
      refine wp_pure k_111 rfl rfl ?_
      refine wp_pure k_111 rfl rfl ?_
      refine wm_iv k_111 rfl rfl M [.int (nI k)] rfl (r := []) (Nat.le_of_ble_eq_true rfl) (Nat.le_of_ble_eq_true rfl) rfl ?_
      refine wp_pure k_112 rfl rfl ?_
      refine wm_ga 5 M k_112 rfl rfl rfl (by decide) ?_
      refine wp_pure k_112 rfl rfl ?_
      refine wm_iv k_112 rfl rfl M [] rfl (r := [.ref (m + mo 5)]) (Nat.le_of_ble_eq_true rfl) (Nat.le_of_ble_eq_true rfl) rfl ?_
      refine wp_kn k_110 rfl rfl ?_
      refine wp_pure k_110 rfl rfl ?_
      refine wm_gi 3 M k_110 rfl rfl rfl rfl V.h3 ?_
      refine wp_mulN k_110 rfl ?_
      refine wp_irt k_110 rfl rfl rfl ⟨rfl, ?_⟩
      refine wp_pure k_112 rfl rfl ?_
      refine wp_addN k_112 rfl ?_
      refine wm_al 5 M k_112 rfl rfl (by decide) rfl (show (60 * e) + k < 480 by omega) (v := atP E.1 1 k) (V.p5 k (by omega)) ?_
      refine wp_irt k_112 rfl rfl rfl ⟨rfl, ?_⟩
      refine wp_kn k_111 rfl rfl ?_
      refine wp_br k_111 rfl rfl rfl rfl (fun _ => ?_) (fun z => absurd (show ¬ atP E.1 1 k = nI 2 from (by rw [h1]; decide)) z)
      refine wp_kn k_111 rfl rfl ?_
      refine wp_pure k_111 rfl rfl ?_
      refine dn (n := E.2.2.length) (P := fun i => sm_wp 111 76 [.ref m, .int (nI k), .int (nI (cntP i (fun i => vA E.2.2 i = k))), .int (nI i)] [] h Q) ?_ ?_ 0 (Nat.zero_le _)
      · skip
        
        refine wp_pure k_111 rfl rfl ?_
        refine wp_pure k_111 rfl rfl ?_
        refine wm_gi 18 M k_111 rfl rfl rfl rfl V.h18 ?_
        refine wp_br k_111 rfl rfl rfl rfl (fun _ => ?_) (fun z => absurd (Int32.le_refl _) z)
        refine wp_pure k_111 rfl rfl ?_
        exact wp_irt k_111 rfl rfl rfl K
      · intro i hi ih 
        have bw : vA E.2.2 i < 60 := by have := hW.2.2.2 _ _ (v_mem hi); omega
        refine wp_pure k_111 rfl rfl ?_
        refine wp_pure k_111 rfl rfl ?_
        refine wm_gi 18 M k_111 rfl rfl rfl rfl V.h18 ?_
        refine wp_br k_111 rfl rfl rfl rfl (fun z => absurd z (nI_ge hi (by omega))) (fun _ => ?_)
        refine wp_pure k_111 rfl rfl ?_
        refine wp_pure k_111 rfl rfl ?_
        refine wm_iv k_111 rfl rfl M [.int (nI k)] rfl (r := []) (Nat.le_of_ble_eq_true rfl) (Nat.le_of_ble_eq_true rfl) rfl ?_
        refine wp_pure k_112 rfl rfl ?_
        refine wm_ga 5 M k_112 rfl rfl rfl (by decide) ?_
        refine wp_pure k_112 rfl rfl ?_
        refine wm_iv k_112 rfl rfl M [] rfl (r := [.ref (m + mo 5)]) (Nat.le_of_ble_eq_true rfl) (Nat.le_of_ble_eq_true rfl) rfl ?_
        refine wp_kn k_110 rfl rfl ?_
        refine wp_pure k_110 rfl rfl ?_
        refine wm_gi 3 M k_110 rfl rfl rfl rfl V.h3 ?_
        refine wp_mulN k_110 rfl ?_
        refine wp_irt k_110 rfl rfl rfl ⟨rfl, ?_⟩
        refine wp_pure k_112 rfl rfl ?_
        refine wp_addN k_112 rfl ?_
        refine wm_al 5 M k_112 rfl rfl (by decide) rfl (show (60 * e) + k < 480 by omega) (v := atP E.1 1 k) (V.p5 k (by omega)) ?_
        refine wp_irt k_112 rfl rfl rfl ⟨rfl, ?_⟩
        refine wp_kn k_111 rfl rfl ?_
        refine wp_br k_111 rfl rfl rfl rfl (fun z => absurd z (fun q => q h1)) (fun _ => ?_)
        refine wp_pure k_111 rfl rfl ?_
        refine wp_pure k_111 rfl rfl ?_
        refine wm_ga 19 M k_111 rfl rfl rfl (by decide) ?_
        refine wp_pure k_111 rfl rfl ?_
        refine wm_al 19 M k_111 rfl rfl (by decide) rfl (show i < 60 by omega) (v := nI (vA E.2.2 i)) (V.w19 i (by omega)) ?_
        refine wp_pure k_111 rfl rfl ?_
        refine wp_br k_111 rfl rfl rfl rfl (fun (z101 : ¬ nI (vA E.2.2 i) = nI k) => ?_) (fun (z101 : ¬ (¬ nI (vA E.2.2 i) = nI k)) => ?_)
        · have y101 : ¬ vA E.2.2 i = k := yNE (by omega) (by omega) z101
          refine wp_kn k_111 rfl rfl ?_
          refine wp_addN k_111 rfl ?_
          refine wp_pure k_111 rfl rfl ?_
          refine wp_inc k_111 rfl rfl rfl ?_
          refine wp_br k_111 rfl rfl rfl rfl (fun _ => ?_) (fun z => absurd trivial z)
          rw [cntP_n (f := fun i => vA E.2.2 i = k) y101] at ih
          exact ih
        · have y101 : vA E.2.2 i = k := yNNE (by omega) (by omega) z101
          refine wp_kn k_111 rfl rfl ?_
          refine wp_br k_111 rfl rfl rfl rfl (fun _ => ?_) (fun z => absurd trivial z)
          refine wp_addN k_111 rfl ?_
          refine wp_pure k_111 rfl rfl ?_
          refine wp_inc k_111 rfl rfl rfl ?_
          refine wp_br k_111 rfl rfl rfl rfl (fun _ => ?_) (fun z => absurd trivial z)
          rw [cntP_y (f := fun i => vA E.2.2 i = k) y101] at ih
          exact ih
  rw [linE_0 hW hk h6 h2 h1] at K
  refine wp_pure k_111 rfl rfl ?_
  refine wp_pure k_111 rfl rfl ?_
  refine wm_iv k_111 rfl rfl M [.int (nI k)] rfl (r := []) (Nat.le_of_ble_eq_true rfl) (Nat.le_of_ble_eq_true rfl) rfl ?_
  refine wp_pure k_112 rfl rfl ?_
  refine wm_ga 5 M k_112 rfl rfl rfl (by decide) ?_
  refine wp_pure k_112 rfl rfl ?_
  refine wm_iv k_112 rfl rfl M [] rfl (r := [.ref (m + mo 5)]) (Nat.le_of_ble_eq_true rfl) (Nat.le_of_ble_eq_true rfl) rfl ?_
  refine wp_kn k_110 rfl rfl ?_
  refine wp_pure k_110 rfl rfl ?_
  refine wm_gi 3 M k_110 rfl rfl rfl rfl V.h3 ?_
  refine wp_mulN k_110 rfl ?_
  refine wp_irt k_110 rfl rfl rfl ⟨rfl, ?_⟩
  refine wp_pure k_112 rfl rfl ?_
  refine wp_addN k_112 rfl ?_
  refine wm_al 5 M k_112 rfl rfl (by decide) rfl (show (60 * e) + k < 480 by omega) (v := atP E.1 1 k) (V.p5 k (by omega)) ?_
  refine wp_irt k_112 rfl rfl rfl ⟨rfl, ?_⟩
  refine wp_kn k_111 rfl rfl ?_
  refine wp_br k_111 rfl rfl rfl rfl (fun _ => ?_) (fun z => absurd h6 z)
  refine wp_kn k_111 rfl rfl ?_
  refine wp_pure k_111 rfl rfl ?_
  refine wp_kn k_111 rfl rfl ?_
  refine wp_pure k_111 rfl rfl ?_
  refine wp_pure k_111 rfl rfl ?_
  refine wp_pure k_111 rfl rfl ?_
  refine wm_gi 14 M k_111 rfl rfl rfl rfl V.h14 ?_
  refine wp_br k_111 rfl rfl rfl rfl (fun (z28 : nI E.2.1.length ≤ nI 0) => ?_) (fun (z28 : ¬ (nI E.2.1.length ≤ nI 0)) => ?_)
  · have y28 : E.2.1.length ≤ 0 := yLe (by omega) (by omega) z28
    refine wp_kn k_111 rfl rfl ?_
    refine wp_pure k_111 rfl rfl ?_
    refine wp_pure k_111 rfl rfl ?_
    refine wp_pure k_111 rfl rfl ?_
    refine wm_gi 18 M k_111 rfl rfl rfl rfl V.h18 ?_
    refine wp_br k_111 rfl rfl rfl rfl (fun (z81 : nI E.2.2.length ≤ nI 0) => ?_) (fun (z81 : ¬ (nI E.2.2.length ≤ nI 0)) => ?_)
    · have y81 : E.2.2.length ≤ 0 := yLe (by omega) (by omega) z81
      refine wp_pure k_111 rfl rfl ?_
      exact wp_irt k_111 rfl rfl rfl K
    · have y81 : 0 < E.2.2.length := yNLe (by omega) (by omega) z81
      refine wp_pure k_111 rfl rfl ?_
      refine wp_pure k_111 rfl rfl ?_
      refine wm_iv k_111 rfl rfl M [.int (nI k)] rfl (r := []) (Nat.le_of_ble_eq_true rfl) (Nat.le_of_ble_eq_true rfl) rfl ?_
      refine wp_pure k_112 rfl rfl ?_
      refine wm_ga 5 M k_112 rfl rfl rfl (by decide) ?_
      refine wp_pure k_112 rfl rfl ?_
      refine wm_iv k_112 rfl rfl M [] rfl (r := [.ref (m + mo 5)]) (Nat.le_of_ble_eq_true rfl) (Nat.le_of_ble_eq_true rfl) rfl ?_
      refine wp_kn k_110 rfl rfl ?_
      refine wp_pure k_110 rfl rfl ?_
      refine wm_gi 3 M k_110 rfl rfl rfl rfl V.h3 ?_
      refine wp_mulN k_110 rfl ?_
      refine wp_irt k_110 rfl rfl rfl ⟨rfl, ?_⟩
      refine wp_pure k_112 rfl rfl ?_
      refine wp_addN k_112 rfl ?_
      refine wm_al 5 M k_112 rfl rfl (by decide) rfl (show (60 * e) + k < 480 by omega) (v := atP E.1 1 k) (V.p5 k (by omega)) ?_
      refine wp_irt k_112 rfl rfl rfl ⟨rfl, ?_⟩
      refine wp_kn k_111 rfl rfl ?_
      refine wp_br k_111 rfl rfl rfl rfl (fun _ => ?_) (fun z => absurd h1 z)
      refine wp_pure k_111 rfl rfl ?_
      exact wp_irt k_111 rfl rfl rfl K
  · have y28 : 0 < E.2.1.length := yNLe (by omega) (by omega) z28
    refine wp_pure k_111 rfl rfl ?_
    refine wp_pure k_111 rfl rfl ?_
    refine wm_iv k_111 rfl rfl M [.int (nI k)] rfl (r := []) (Nat.le_of_ble_eq_true rfl) (Nat.le_of_ble_eq_true rfl) rfl ?_
    refine wp_pure k_112 rfl rfl ?_
    refine wm_ga 5 M k_112 rfl rfl rfl (by decide) ?_
    refine wp_pure k_112 rfl rfl ?_
    refine wm_iv k_112 rfl rfl M [] rfl (r := [.ref (m + mo 5)]) (Nat.le_of_ble_eq_true rfl) (Nat.le_of_ble_eq_true rfl) rfl ?_
    refine wp_kn k_110 rfl rfl ?_
    refine wp_pure k_110 rfl rfl ?_
    refine wm_gi 3 M k_110 rfl rfl rfl rfl V.h3 ?_
    refine wp_mulN k_110 rfl ?_
    refine wp_irt k_110 rfl rfl rfl ⟨rfl, ?_⟩
    refine wp_pure k_112 rfl rfl ?_
    refine wp_addN k_112 rfl ?_
    refine wm_al 5 M k_112 rfl rfl (by decide) rfl (show (60 * e) + k < 480 by omega) (v := atP E.1 1 k) (V.p5 k (by omega)) ?_
    refine wp_irt k_112 rfl rfl rfl ⟨rfl, ?_⟩
    refine wp_kn k_111 rfl rfl ?_
    refine wp_br k_111 rfl rfl rfl rfl (fun _ => ?_) (fun z => absurd h2 z)
    refine wp_kn k_111 rfl rfl ?_
    refine wp_pure k_111 rfl rfl ?_
    refine wp_pure k_111 rfl rfl ?_
    refine wp_pure k_111 rfl rfl ?_
    refine wm_gi 18 M k_111 rfl rfl rfl rfl V.h18 ?_
    refine wp_br k_111 rfl rfl rfl rfl (fun (z81 : nI E.2.2.length ≤ nI 0) => ?_) (fun (z81 : ¬ (nI E.2.2.length ≤ nI 0)) => ?_)
    · have y81 : E.2.2.length ≤ 0 := yLe (by omega) (by omega) z81
      refine wp_pure k_111 rfl rfl ?_
      exact wp_irt k_111 rfl rfl rfl K
    · have y81 : 0 < E.2.2.length := yNLe (by omega) (by omega) z81
      refine wp_pure k_111 rfl rfl ?_
      refine wp_pure k_111 rfl rfl ?_
      refine wm_iv k_111 rfl rfl M [.int (nI k)] rfl (r := []) (Nat.le_of_ble_eq_true rfl) (Nat.le_of_ble_eq_true rfl) rfl ?_
      refine wp_pure k_112 rfl rfl ?_
      refine wm_ga 5 M k_112 rfl rfl rfl (by decide) ?_
      refine wp_pure k_112 rfl rfl ?_
      refine wm_iv k_112 rfl rfl M [] rfl (r := [.ref (m + mo 5)]) (Nat.le_of_ble_eq_true rfl) (Nat.le_of_ble_eq_true rfl) rfl ?_
      refine wp_kn k_110 rfl rfl ?_
      refine wp_pure k_110 rfl rfl ?_
      refine wm_gi 3 M k_110 rfl rfl rfl rfl V.h3 ?_
      refine wp_mulN k_110 rfl ?_
      refine wp_irt k_110 rfl rfl rfl ⟨rfl, ?_⟩
      refine wp_pure k_112 rfl rfl ?_
      refine wp_addN k_112 rfl ?_
      refine wm_al 5 M k_112 rfl rfl (by decide) rfl (show (60 * e) + k < 480 by omega) (v := atP E.1 1 k) (V.p5 k (by omega)) ?_
      refine wp_irt k_112 rfl rfl rfl ⟨rfl, ?_⟩
      refine wp_kn k_111 rfl rfl ?_
      refine wp_br k_111 rfl rfl rfl rfl (fun _ => ?_) (fun z => absurd h1 z)
      refine wp_pure k_111 rfl rfl ?_
      exact wp_irt k_111 rfl rfl rfl K
noncomputable def plV (E : Ed) (k w : Nat) : Int32 := @ite _ (w = 7) (Classical.propDecidable _) (nI (linE E k)) (atP E.1 (w + 1) k)
theorem plV_7 {E : Ed} {k : Nat} : plV E k 7 = nI (linE E k) := if_pos rfl
theorem plV_n {E : Ed} {k w : Nat} (h : w ≠ 7) : plV E k w = atP E.1 (w + 1) k := if_neg h
theorem m_place {h0 h : sm_H} {m : Nat} {g : Nat → Int32} {ar : Nat → Nat → Int32} {Q : Nat → Option Value → sm_H → Prop} {E : Ed} {e : Nat} (M : MS h0 h m g ar) (V : MV g ar E e) (hW : EdW E) {i a : Int32} (K0 : ¬ (∃ k w, k < E.1.length ∧ w ≤ 7 ∧ i = nI k ∧ a = nI w) → ∀ h', MS h0 h' m (uF g 0 (nI 1)) ar → Q 0 (some (.int (nI 0))) h') (K1 : ∀ k w, k < E.1.length → w ≤ 7 → i = nI k → a = nI w → ∀ h', MS h0 h' m (uF g 0 (nI 0)) ar → Q 0 (some (.int (plV E k w))) h') : sm_wp 108 0 [.ref m, .int i, .int a, jk] [] h Q := by
  have he := V.he
  have hn := V.hn
  have hl := V.hl
  by_cases z1 : nI 0 ≤ i ∧ i ≤ nI E.1.length - nI 1
  · obtain ⟨k, hk, rfl⟩ := in_y (by omega) z1
    by_cases z2 : nI 0 ≤ a ∧ a ≤ nI 7
    · obtain ⟨w, hw, rfl⟩ := in_c (by decide) z2
      refine wp_pure k_108 rfl rfl ?_
      refine wp_pure k_108 rfl rfl ?_
      refine wp_kn k_108 rfl rfl ?_
      refine wp_pure k_108 rfl rfl ?_
      refine wm_iv k_108 rfl rfl M [] rfl (r := [.int (nI 0), .int (nI k), .ref m]) (Nat.le_of_ble_eq_true rfl) (Nat.le_of_ble_eq_true rfl) rfl ?_
      refine wp_pure k_109 rfl rfl ?_
      refine wm_ga 4 M k_109 rfl rfl rfl (by decide) ?_
      refine wp_pure k_109 rfl rfl ?_
      refine wm_gi 3 M k_109 rfl rfl rfl rfl V.h3 ?_
      refine wm_al 4 M k_109 rfl rfl (by decide) rfl (show e < 8 by omega) (v := nI E.1.length) V.n4 ?_
      refine wp_irt k_109 rfl rfl rfl ⟨rfl, ?_⟩
      refine wp_kn k_108 rfl rfl ?_
      refine wp_isub k_108 rfl ?_
      refine wp_is k_108 rfl (by decide) [.int (nI k), .int (nI 0), .int ((nI E.1.length) - (nI 1))] rfl (r := [.ref m]) (Nat.le_of_ble_eq_true rfl) (Nat.le_of_ble_eq_true rfl) rfl ?_
      refine m_in (fun _ => ⟨rfl, ?_⟩) (fun z => absurd z1 z)
      refine wp_br k_108 rfl rfl rfl rfl (fun z => absurd z (show ¬ ((nI 1 : Int32) = 0) by decide)) (fun _ => ?_)
      refine wp_pure k_108 rfl rfl ?_
      refine wp_kn k_108 rfl rfl ?_
      refine wp_kn k_108 rfl rfl ?_
      refine wp_is k_108 rfl (by decide) [.int (nI w), .int (nI 0), .int (nI 7)] rfl (r := [.ref m]) (Nat.le_of_ble_eq_true rfl) (Nat.le_of_ble_eq_true rfl) rfl ?_
      refine m_in (fun _ => ⟨rfl, ?_⟩) (fun z => absurd z2 z)
      refine wp_br k_108 rfl rfl rfl rfl (fun _ => ?_) (fun z => absurd (show ¬ (nI 1 : Int32) = 0 by decide) z)
      refine wp_kn k_108 rfl rfl ?_
      refine wm_pi 0 M k_108 rfl rfl rfl rfl rfl rfl (fun h3 M3 => ?_)
      have V3 := V.same (g' := uF g 0 (nI 0)) (ar' := ar) ⟨uF_ne (by decide), uF_ne (by decide), uF_ne (by decide)⟩ (fun _ _ => rfl)
      refine wp_pure k_108 rfl rfl ?_
      refine wm_gi 0 M3 k_108 rfl rfl rfl rfl uF_at ?_
      refine wp_br k_108 rfl rfl rfl rfl (fun _ => ?_) (fun z => absurd (show (nI 0 : Int32) ≤ 0 by decide) z)
      refine wp_pure k_108 rfl rfl ?_
      refine wm_iv k_108 rfl rfl M3 [] rfl (r := []) (Nat.le_of_ble_eq_true rfl) (Nat.le_of_ble_eq_true rfl) rfl ?_
      refine wp_kn k_110 rfl rfl ?_
      refine wp_pure k_110 rfl rfl ?_
      refine wm_gi 3 M3 k_110 rfl rfl rfl rfl V3.h3 ?_
      refine wp_mulN k_110 rfl ?_
      refine wp_irt k_110 rfl rfl rfl ⟨rfl, ?_⟩
      refine wp_pure k_108 rfl rfl ?_
      refine wp_addN k_108 rfl ?_
      refine wp_pure k_108 rfl rfl ?_
      refine wp_pure k_108 rfl rfl ?_
      refine wp_br k_108 rfl rfl rfl rfl (fun (z50 : ¬ nI w = 0) => ?_) (fun (z50 : ¬ (¬ nI w = 0)) => ?_)
      · have y50 : ¬ w = 0 := yNE (by omega) (by omega) (show ¬ nI w = nI 0 from z50)
        refine wp_pure k_108 rfl rfl ?_
        refine wp_kn k_108 rfl rfl ?_
        refine wp_br k_108 rfl rfl rfl rfl (fun (z62 : ¬ nI w = nI 1) => ?_) (fun (z62 : ¬ (¬ nI w = nI 1)) => ?_)
        · have y62 : ¬ w = 1 := yNE (by omega) (by omega) z62
          refine wp_pure k_108 rfl rfl ?_
          refine wp_kn k_108 rfl rfl ?_
          refine wp_br k_108 rfl rfl rfl rfl (fun (z74 : ¬ nI w = nI 2) => ?_) (fun (z74 : ¬ (¬ nI w = nI 2)) => ?_)
          · have y74 : ¬ w = 2 := yNE (by omega) (by omega) z74
            refine wp_pure k_108 rfl rfl ?_
            refine wp_kn k_108 rfl rfl ?_
            refine wp_br k_108 rfl rfl rfl rfl (fun (z86 : ¬ nI w = nI 3) => ?_) (fun (z86 : ¬ (¬ nI w = nI 3)) => ?_)
            · have y86 : ¬ w = 3 := yNE (by omega) (by omega) z86
              refine wp_pure k_108 rfl rfl ?_
              refine wp_kn k_108 rfl rfl ?_
              refine wp_br k_108 rfl rfl rfl rfl (fun (z98 : ¬ nI w = nI 4) => ?_) (fun (z98 : ¬ (¬ nI w = nI 4)) => ?_)
              · have y98 : ¬ w = 4 := yNE (by omega) (by omega) z98
                refine wp_pure k_108 rfl rfl ?_
                refine wp_kn k_108 rfl rfl ?_
                refine wp_br k_108 rfl rfl rfl rfl (fun (z110 : ¬ nI w = nI 5) => ?_) (fun (z110 : ¬ (¬ nI w = nI 5)) => ?_)
                · have y110 : ¬ w = 5 := yNE (by omega) (by omega) z110
                  refine wp_pure k_108 rfl rfl ?_
                  refine wp_kn k_108 rfl rfl ?_
                  refine wp_br k_108 rfl rfl rfl rfl (fun (z123 : ¬ nI w = nI 6) => ?_) (fun (z123 : ¬ (¬ nI w = nI 6)) => ?_)
                  · have y123 : ¬ w = 6 := yNE (by omega) (by omega) z123
                    refine wp_pure k_108 rfl rfl ?_
                    refine wp_pure k_108 rfl rfl ?_
                    refine wm_iv k_108 rfl rfl M3 [.int (nI k)] rfl (r := []) (Nat.le_of_ble_eq_true rfl) (Nat.le_of_ble_eq_true rfl) rfl ?_
                    refine m_linesAt M3 V3 hW hk ⟨rfl, ?_⟩
                    have e := K1 k 7 hk (by omega) rfl (by rw [show w = 7 by omega]) _ M3
                    rw [plV_7] at e
                    exact wp_irt k_108 rfl rfl rfl (e)
                  · have y123 : w = 6 := yNNE (by omega) (by omega) z123
                    refine wp_pure k_108 rfl rfl ?_
                    refine wm_ga 12 M3 k_108 rfl rfl rfl (by decide) ?_
                    refine wp_pure k_108 rfl rfl ?_
                    refine wm_al 12 M3 k_108 rfl rfl (by decide) rfl (show (60 * e) + k < 480 by omega) (v := atP E.1 7 k) (V3.p12 k (by omega)) ?_
                    refine wp_br k_108 rfl rfl rfl rfl (fun _ => ?_) (fun z => absurd trivial z)
                    have e := K1 k 6 hk (by omega) rfl (by rw [show w = 6 by omega]) _ M3
                    rw [plV_n (by decide)] at e
                    exact wp_irt k_108 rfl rfl rfl (e)
                · have y110 : w = 5 := yNNE (by omega) (by omega) z110
                  refine wp_pure k_108 rfl rfl ?_
                  refine wm_ga 11 M3 k_108 rfl rfl rfl (by decide) ?_
                  refine wp_pure k_108 rfl rfl ?_
                  refine wm_al 11 M3 k_108 rfl rfl (by decide) rfl (show (60 * e) + k < 480 by omega) (v := atP E.1 6 k) (V3.p11 k (by omega)) ?_
                  have e := K1 k 5 hk (by omega) rfl (by rw [show w = 5 by omega]) _ M3
                  rw [plV_n (by decide)] at e
                  exact wp_irt k_108 rfl rfl rfl (e)
              · have y98 : w = 4 := yNNE (by omega) (by omega) z98
                refine wp_pure k_108 rfl rfl ?_
                refine wm_ga 10 M3 k_108 rfl rfl rfl (by decide) ?_
                refine wp_pure k_108 rfl rfl ?_
                refine wm_al 10 M3 k_108 rfl rfl (by decide) rfl (show (60 * e) + k < 480 by omega) (v := atP E.1 5 k) (V3.p10 k (by omega)) ?_
                have e := K1 k 4 hk (by omega) rfl (by rw [show w = 4 by omega]) _ M3
                rw [plV_n (by decide)] at e
                exact wp_irt k_108 rfl rfl rfl (e)
            · have y86 : w = 3 := yNNE (by omega) (by omega) z86
              refine wp_pure k_108 rfl rfl ?_
              refine wm_ga 9 M3 k_108 rfl rfl rfl (by decide) ?_
              refine wp_pure k_108 rfl rfl ?_
              refine wm_al 9 M3 k_108 rfl rfl (by decide) rfl (show (60 * e) + k < 480 by omega) (v := atP E.1 4 k) (V3.p9 k (by omega)) ?_
              have e := K1 k 3 hk (by omega) rfl (by rw [show w = 3 by omega]) _ M3
              rw [plV_n (by decide)] at e
              exact wp_irt k_108 rfl rfl rfl (e)
          · have y74 : w = 2 := yNNE (by omega) (by omega) z74
            refine wp_pure k_108 rfl rfl ?_
            refine wm_ga 8 M3 k_108 rfl rfl rfl (by decide) ?_
            refine wp_pure k_108 rfl rfl ?_
            refine wm_al 8 M3 k_108 rfl rfl (by decide) rfl (show (60 * e) + k < 480 by omega) (v := atP E.1 3 k) (V3.p8 k (by omega)) ?_
            have e := K1 k 2 hk (by omega) rfl (by rw [show w = 2 by omega]) _ M3
            rw [plV_n (by decide)] at e
            exact wp_irt k_108 rfl rfl rfl (e)
        · have y62 : w = 1 := yNNE (by omega) (by omega) z62
          refine wp_pure k_108 rfl rfl ?_
          refine wm_ga 7 M3 k_108 rfl rfl rfl (by decide) ?_
          refine wp_pure k_108 rfl rfl ?_
          refine wm_al 7 M3 k_108 rfl rfl (by decide) rfl (show (60 * e) + k < 480 by omega) (v := atP E.1 2 k) (V3.p7 k (by omega)) ?_
          have e := K1 k 1 hk (by omega) rfl (by rw [show w = 1 by omega]) _ M3
          rw [plV_n (by decide)] at e
          exact wp_irt k_108 rfl rfl rfl (e)
      · have y50 : w = 0 := yNNE (by omega) (by omega) (show ¬ (¬ nI w = nI 0) from z50)
        refine wp_pure k_108 rfl rfl ?_
        refine wm_ga 5 M3 k_108 rfl rfl rfl (by decide) ?_
        refine wp_pure k_108 rfl rfl ?_
        refine wm_al 5 M3 k_108 rfl rfl (by decide) rfl (show (60 * e) + k < 480 by omega) (v := atP E.1 1 k) (V3.p5 k (by omega)) ?_
        have e := K1 k 0 hk (by omega) rfl (by rw [show w = 0 by omega]) _ M3
        rw [plV_n (by decide)] at e
        exact wp_irt k_108 rfl rfl rfl (e)
    · skip
      refine wp_pure k_108 rfl rfl ?_
      refine wp_pure k_108 rfl rfl ?_
      refine wp_kn k_108 rfl rfl ?_
      refine wp_pure k_108 rfl rfl ?_
      refine wm_iv k_108 rfl rfl M [] rfl (r := [.int (nI 0), .int (nI k), .ref m]) (Nat.le_of_ble_eq_true rfl) (Nat.le_of_ble_eq_true rfl) rfl ?_
      refine wp_pure k_109 rfl rfl ?_
      refine wm_ga 4 M k_109 rfl rfl rfl (by decide) ?_
      refine wp_pure k_109 rfl rfl ?_
      refine wm_gi 3 M k_109 rfl rfl rfl rfl V.h3 ?_
      refine wm_al 4 M k_109 rfl rfl (by decide) rfl (show e < 8 by omega) (v := nI E.1.length) V.n4 ?_
      refine wp_irt k_109 rfl rfl rfl ⟨rfl, ?_⟩
      refine wp_kn k_108 rfl rfl ?_
      refine wp_isub k_108 rfl ?_
      refine wp_is k_108 rfl (by decide) [.int (nI k), .int (nI 0), .int ((nI E.1.length) - (nI 1))] rfl (r := [.ref m]) (Nat.le_of_ble_eq_true rfl) (Nat.le_of_ble_eq_true rfl) rfl ?_
      refine m_in (fun _ => ⟨rfl, ?_⟩) (fun z => absurd z1 z)
      refine wp_br k_108 rfl rfl rfl rfl (fun z => absurd z (show ¬ ((nI 1 : Int32) = 0) by decide)) (fun _ => ?_)
      refine wp_pure k_108 rfl rfl ?_
      refine wp_kn k_108 rfl rfl ?_
      refine wp_kn k_108 rfl rfl ?_
      refine wp_is k_108 rfl (by decide) [.int a, .int (nI 0), .int (nI 7)] rfl (r := [.ref m]) (Nat.le_of_ble_eq_true rfl) (Nat.le_of_ble_eq_true rfl) rfl ?_
      refine m_in (fun z => absurd z z2) (fun _ => ⟨rfl, ?_⟩)
      refine wp_br k_108 rfl rfl rfl rfl (fun z => absurd z (show ¬ (¬ (nI 0 : Int32) = 0) by decide)) (fun _ => ?_)
      refine wp_kn k_108 rfl rfl ?_
      refine wp_br k_108 rfl rfl rfl rfl (fun _ => ?_) (fun z => absurd trivial z)
      refine wm_pi 0 M k_108 rfl rfl rfl rfl rfl rfl (fun h3 M3 => ?_)
      have V3 := V.same (g' := uF g 0 (nI 1)) (ar' := ar) ⟨uF_ne (by decide), uF_ne (by decide), uF_ne (by decide)⟩ (fun _ _ => rfl)
      refine wp_pure k_108 rfl rfl ?_
      refine wm_gi 0 M3 k_108 rfl rfl rfl rfl uF_at ?_
      refine wp_br k_108 rfl rfl rfl rfl (fun z => absurd z (show ¬ ((nI 1 : Int32) ≤ 0) by decide)) (fun _ => ?_)
      refine wp_kn k_108 rfl rfl ?_
      exact wp_irt k_108 rfl rfl rfl (K0 (fun ⟨_, w, _, hw, _, ew⟩ => z2 (by rw [ew]; exact in_d (by decide) hw)) _ M3)
  · skip
    refine wp_pure k_108 rfl rfl ?_
    refine wp_pure k_108 rfl rfl ?_
    refine wp_kn k_108 rfl rfl ?_
    refine wp_pure k_108 rfl rfl ?_
    refine wm_iv k_108 rfl rfl M [] rfl (r := [.int (nI 0), .int i, .ref m]) (Nat.le_of_ble_eq_true rfl) (Nat.le_of_ble_eq_true rfl) rfl ?_
    refine wp_pure k_109 rfl rfl ?_
    refine wm_ga 4 M k_109 rfl rfl rfl (by decide) ?_
    refine wp_pure k_109 rfl rfl ?_
    refine wm_gi 3 M k_109 rfl rfl rfl rfl V.h3 ?_
    refine wm_al 4 M k_109 rfl rfl (by decide) rfl (show e < 8 by omega) (v := nI E.1.length) V.n4 ?_
    refine wp_irt k_109 rfl rfl rfl ⟨rfl, ?_⟩
    refine wp_kn k_108 rfl rfl ?_
    refine wp_isub k_108 rfl ?_
    refine wp_is k_108 rfl (by decide) [.int i, .int (nI 0), .int ((nI E.1.length) - (nI 1))] rfl (r := [.ref m]) (Nat.le_of_ble_eq_true rfl) (Nat.le_of_ble_eq_true rfl) rfl ?_
    refine m_in (fun z => absurd z z1) (fun _ => ⟨rfl, ?_⟩)
    refine wp_br k_108 rfl rfl rfl rfl (fun _ => ?_) (fun z => absurd (show (nI 0 : Int32) = 0 by decide) z)
    refine wp_kn k_108 rfl rfl ?_
    refine wp_br k_108 rfl rfl rfl rfl (fun _ => ?_) (fun z => absurd trivial z)
    refine wm_pi 0 M k_108 rfl rfl rfl rfl rfl rfl (fun h2 M2 => ?_)
    have V2 := V.same (g' := uF g 0 (nI 1)) (ar' := ar) ⟨uF_ne (by decide), uF_ne (by decide), uF_ne (by decide)⟩ (fun _ _ => rfl)
    refine wp_pure k_108 rfl rfl ?_
    refine wm_gi 0 M2 k_108 rfl rfl rfl rfl uF_at ?_
    refine wp_br k_108 rfl rfl rfl rfl (fun z => absurd z (show ¬ ((nI 1 : Int32) ≤ 0) by decide)) (fun _ => ?_)
    refine wp_kn k_108 rfl rfl ?_
    exact wp_irt k_108 rfl rfl rfl (K0 (fun ⟨k, _, hk, _, ek, _⟩ => z1 (by rw [ek]; exact in_n (by omega) hk)) _ M2)
theorem m_named {h0 h : sm_H} {m : Nat} {g : Nat → Int32} {ar : Nat → Nat → Int32} {Q : Nat → Option Value → sm_H → Prop} {E : Ed} {e : Nat} (M : MS h0 h m g ar) (V : MV g ar E e) {c : Int32} (K : ∀ h', MS h0 h' m (uF g 0 (nI 0)) ar → Q 0 (some (.int (fIv (fI (atP E.1 0) E.1.length c)))) h') : sm_wp 113 0 [.ref m, .int c, jk] [] h Q := by
  have he := V.he
  have hn := V.hn
  have hl := V.hl
  refine wp_pure k_113 rfl rfl ?_
  refine wp_kn k_113 rfl rfl ?_
  refine wm_pi 0 M k_113 rfl rfl rfl rfl rfl rfl (fun h1 M1 => ?_)
  have V1 := V.same (g' := uF g 0 (nI 0)) (ar' := ar) ⟨uF_ne (by decide), uF_ne (by decide), uF_ne (by decide)⟩ (fun _ _ => rfl)
  refine wp_kn k_113 rfl rfl ?_
  refine wp_pure k_113 rfl rfl ?_
  refine dn (n := E.1.length) (P := fun i => (∀ j, j < i → ¬ atP E.1 0 j = c) → sm_wp 113 7 [.ref m, .int c, .int (nI i)] [] h1 Q) ?_ ?_ 0 (Nat.zero_le _) (fun j hj => absurd hj (Nat.not_lt_zero j))
  · intro hI
    refine wp_pure k_113 rfl rfl ?_
    refine wp_pure k_113 rfl rfl ?_
    refine wm_iv k_113 rfl rfl M1 [] rfl (r := [.int (nI (E.1.length))]) (Nat.le_of_ble_eq_true rfl) (Nat.le_of_ble_eq_true rfl) rfl ?_
    refine wp_pure k_109 rfl rfl ?_
    refine wm_ga 4 M1 k_109 rfl rfl rfl (by decide) ?_
    refine wp_pure k_109 rfl rfl ?_
    refine wm_gi 3 M1 k_109 rfl rfl rfl rfl V1.h3 ?_
    refine wm_al 4 M1 k_109 rfl rfl (by decide) rfl (show e < 8 by omega) (v := nI E.1.length) V1.n4 ?_
    refine wp_irt k_109 rfl rfl rfl ⟨rfl, ?_⟩
    refine wp_br k_113 rfl rfl rfl rfl (fun _ => ?_) (fun z => absurd (Int32.le_refl _) z)
    refine wp_km k_113 rfl rfl ?_
    have e := fI_none (f := atP E.1 0) (n := E.1.length) (c := c) hI
    rw [e] at K
    exact wp_irt k_113 rfl rfl rfl (K _ M1)
  · intro i hi ih hI
    refine wp_pure k_113 rfl rfl ?_
    refine wp_pure k_113 rfl rfl ?_
    refine wm_iv k_113 rfl rfl M1 [] rfl (r := [.int (nI i)]) (Nat.le_of_ble_eq_true rfl) (Nat.le_of_ble_eq_true rfl) rfl ?_
    refine wp_pure k_109 rfl rfl ?_
    refine wm_ga 4 M1 k_109 rfl rfl rfl (by decide) ?_
    refine wp_pure k_109 rfl rfl ?_
    refine wm_gi 3 M1 k_109 rfl rfl rfl rfl V1.h3 ?_
    refine wm_al 4 M1 k_109 rfl rfl (by decide) rfl (show e < 8 by omega) (v := nI E.1.length) V1.n4 ?_
    refine wp_irt k_109 rfl rfl rfl ⟨rfl, ?_⟩
    refine wp_br k_113 rfl rfl rfl rfl (fun z => absurd z (nI_ge hi (by omega))) (fun _ => ?_)
    refine wp_pure k_113 rfl rfl ?_
    refine wm_ga 6 M1 k_113 rfl rfl rfl (by decide) ?_
    refine wp_pure k_113 rfl rfl ?_
    refine wm_iv k_113 rfl rfl M1 [] rfl (r := [.ref (m + mo 6)]) (Nat.le_of_ble_eq_true rfl) (Nat.le_of_ble_eq_true rfl) rfl ?_
    refine wp_kn k_110 rfl rfl ?_
    refine wp_pure k_110 rfl rfl ?_
    refine wm_gi 3 M1 k_110 rfl rfl rfl rfl V1.h3 ?_
    refine wp_mulN k_110 rfl ?_
    refine wp_irt k_110 rfl rfl rfl ⟨rfl, ?_⟩
    refine wp_pure k_113 rfl rfl ?_
    refine wp_addN k_113 rfl ?_
    refine wm_al 6 M1 k_113 rfl rfl (by decide) rfl (show (60 * e) + i < 480 by omega) (v := atP E.1 0 i) (V1.p6 i (by omega)) ?_
    refine wp_pure k_113 rfl rfl ?_
    refine wp_br k_113 rfl rfl rfl rfl (fun (z27 : ¬ atP E.1 0 i = c) => ?_) (fun (z27 : ¬ (¬ atP E.1 0 i = c)) => ?_)
    · refine wp_inc k_113 rfl rfl rfl ?_
      refine wp_br k_113 rfl rfl rfl rfl (fun _ => ?_) (fun z => absurd trivial z)
      exact ih (fun j hj => by
        by_cases q : j = i
        · rw [q]; exact z27
        · exact hI j (by omega))
    · refine wp_pure k_113 rfl rfl ?_
      have e := fI_some (f := atP E.1 0) hi (Classical.not_not.mp z27) hI
      rw [e] at K
      exact wp_irt k_113 rfl rfl rfl (K _ M1)
theorem m_isInside {h0 h : sm_H} {m : Nat} {g : Nat → Int32} {ar : Nat → Nat → Int32} {Q : Nat → Option Value → sm_H → Prop} {E : Ed} {e : Nat} (M : MS h0 h m g ar) (V : MV g ar E e) {i j : Nat} (hi : i < E.1.length) (hj : j < E.1.length) (K1 : insE E.1 i j → Q 0 (some (.int (nI 1))) h) (K0 : ¬ insE E.1 i j → Q 0 (some (.int (nI 0))) h) : sm_wp 119 0 [.ref m, .int (nI i), .int (nI j), jk, jk] [] h Q := by
  have he := V.he
  have hn := V.hn
  have hl := V.hl
  refine wp_pure k_119 rfl rfl ?_
  refine wm_iv k_119 rfl rfl M [] rfl (r := []) (Nat.le_of_ble_eq_true rfl) (Nat.le_of_ble_eq_true rfl) rfl ?_
  refine wp_kn k_110 rfl rfl ?_
  refine wp_pure k_110 rfl rfl ?_
  refine wm_gi 3 M k_110 rfl rfl rfl rfl V.h3 ?_
  refine wp_mulN k_110 rfl ?_
  refine wp_irt k_110 rfl rfl rfl ⟨rfl, ?_⟩
  refine wp_pure k_119 rfl rfl ?_
  refine wp_addN k_119 rfl ?_
  refine wp_pure k_119 rfl rfl ?_
  refine wp_pure k_119 rfl rfl ?_
  refine wm_iv k_119 rfl rfl M [] rfl (r := []) (Nat.le_of_ble_eq_true rfl) (Nat.le_of_ble_eq_true rfl) rfl ?_
  refine wp_kn k_110 rfl rfl ?_
  refine wp_pure k_110 rfl rfl ?_
  refine wm_gi 3 M k_110 rfl rfl rfl rfl V.h3 ?_
  refine wp_mulN k_110 rfl ?_
  refine wp_irt k_110 rfl rfl rfl ⟨rfl, ?_⟩
  refine wp_pure k_119 rfl rfl ?_
  refine wp_addN k_119 rfl ?_
  refine wp_pure k_119 rfl rfl ?_
  refine wp_pure k_119 rfl rfl ?_
  refine wm_ga 7 M k_119 rfl rfl rfl (by decide) ?_
  refine wp_pure k_119 rfl rfl ?_
  refine wm_al 7 M k_119 rfl rfl (by decide) rfl (show (60 * e) + i < 480 by omega) (v := atP E.1 2 i) (V.p7 i (by omega)) ?_
  refine wp_pure k_119 rfl rfl ?_
  refine wm_ga 7 M k_119 rfl rfl rfl (by decide) ?_
  refine wp_pure k_119 rfl rfl ?_
  refine wm_al 7 M k_119 rfl rfl (by decide) rfl (show (60 * e) + j < 480 by omega) (v := atP E.1 2 j) (V.p7 j (by omega)) ?_
  refine wp_br k_119 rfl rfl rfl rfl (fun (z28 : atP E.1 2 i < atP E.1 2 j) => ?_) (fun (z28 : ¬ (atP E.1 2 i < atP E.1 2 j)) => ?_)
  · refine wp_kn k_119 rfl rfl ?_
    exact wp_irt k_119 rfl rfl rfl (K0 (fun q => Int32.not_le.mpr z28 q.1))
  · refine wp_pure k_119 rfl rfl ?_
    refine wm_ga 8 M k_119 rfl rfl rfl (by decide) ?_
    refine wp_pure k_119 rfl rfl ?_
    refine wm_al 8 M k_119 rfl rfl (by decide) rfl (show (60 * e) + i < 480 by omega) (v := atP E.1 3 i) (V.p8 i (by omega)) ?_
    refine wp_pure k_119 rfl rfl ?_
    refine wm_ga 8 M k_119 rfl rfl rfl (by decide) ?_
    refine wp_pure k_119 rfl rfl ?_
    refine wm_al 8 M k_119 rfl rfl (by decide) rfl (show (60 * e) + j < 480 by omega) (v := atP E.1 3 j) (V.p8 j (by omega)) ?_
    refine wp_br k_119 rfl rfl rfl rfl (fun (z44 : atP E.1 3 i < atP E.1 3 j) => ?_) (fun (z44 : ¬ (atP E.1 3 i < atP E.1 3 j)) => ?_)
    · refine wp_kn k_119 rfl rfl ?_
      exact wp_irt k_119 rfl rfl rfl (K0 (fun q => Int32.not_le.mpr z44 q.2.1))
    · refine wp_pure k_119 rfl rfl ?_
      refine wm_ga 7 M k_119 rfl rfl rfl (by decide) ?_
      refine wp_pure k_119 rfl rfl ?_
      refine wm_al 7 M k_119 rfl rfl (by decide) rfl (show (60 * e) + i < 480 by omega) (v := atP E.1 2 i) (V.p7 i (by omega)) ?_
      refine wp_pure k_119 rfl rfl ?_
      refine wm_ga 9 M k_119 rfl rfl rfl (by decide) ?_
      refine wp_pure k_119 rfl rfl ?_
      refine wm_al 9 M k_119 rfl rfl (by decide) rfl (show (60 * e) + i < 480 by omega) (v := atP E.1 4 i) (V.p9 i (by omega)) ?_
      refine wp_iadd k_119 rfl ?_
      refine wp_pure k_119 rfl rfl ?_
      refine wm_ga 7 M k_119 rfl rfl rfl (by decide) ?_
      refine wp_pure k_119 rfl rfl ?_
      refine wm_al 7 M k_119 rfl rfl (by decide) rfl (show (60 * e) + j < 480 by omega) (v := atP E.1 2 j) (V.p7 j (by omega)) ?_
      refine wp_pure k_119 rfl rfl ?_
      refine wm_ga 9 M k_119 rfl rfl rfl (by decide) ?_
      refine wp_pure k_119 rfl rfl ?_
      refine wm_al 9 M k_119 rfl rfl (by decide) rfl (show (60 * e) + j < 480 by omega) (v := atP E.1 4 j) (V.p9 j (by omega)) ?_
      refine wp_iadd k_119 rfl ?_
      refine wp_br k_119 rfl rfl rfl rfl (fun (z75 : (atP E.1 2 j) + (atP E.1 4 j) < (atP E.1 2 i) + (atP E.1 4 i)) => ?_) (fun (z75 : ¬ ((atP E.1 2 j) + (atP E.1 4 j) < (atP E.1 2 i) + (atP E.1 4 i))) => ?_)
      · refine wp_kn k_119 rfl rfl ?_
        exact wp_irt k_119 rfl rfl rfl (K0 (fun q => Int32.not_le.mpr z75 q.2.2.1))
      · refine wp_pure k_119 rfl rfl ?_
        refine wm_ga 8 M k_119 rfl rfl rfl (by decide) ?_
        refine wp_pure k_119 rfl rfl ?_
        refine wm_al 8 M k_119 rfl rfl (by decide) rfl (show (60 * e) + i < 480 by omega) (v := atP E.1 3 i) (V.p8 i (by omega)) ?_
        refine wp_pure k_119 rfl rfl ?_
        refine wm_ga 10 M k_119 rfl rfl rfl (by decide) ?_
        refine wp_pure k_119 rfl rfl ?_
        refine wm_al 10 M k_119 rfl rfl (by decide) rfl (show (60 * e) + i < 480 by omega) (v := atP E.1 5 i) (V.p10 i (by omega)) ?_
        refine wp_iadd k_119 rfl ?_
        refine wp_pure k_119 rfl rfl ?_
        refine wm_ga 8 M k_119 rfl rfl rfl (by decide) ?_
        refine wp_pure k_119 rfl rfl ?_
        refine wm_al 8 M k_119 rfl rfl (by decide) rfl (show (60 * e) + j < 480 by omega) (v := atP E.1 3 j) (V.p8 j (by omega)) ?_
        refine wp_pure k_119 rfl rfl ?_
        refine wm_ga 10 M k_119 rfl rfl rfl (by decide) ?_
        refine wp_pure k_119 rfl rfl ?_
        refine wm_al 10 M k_119 rfl rfl (by decide) rfl (show (60 * e) + j < 480 by omega) (v := atP E.1 5 j) (V.p10 j (by omega)) ?_
        refine wp_iadd k_119 rfl ?_
        refine wp_br k_119 rfl rfl rfl rfl (fun (z106 : (atP E.1 3 j) + (atP E.1 5 j) < (atP E.1 3 i) + (atP E.1 5 i)) => ?_) (fun (z106 : ¬ ((atP E.1 3 j) + (atP E.1 5 j) < (atP E.1 3 i) + (atP E.1 5 i))) => ?_)
        · refine wp_kn k_119 rfl rfl ?_
          exact wp_irt k_119 rfl rfl rfl (K0 (fun q => Int32.not_le.mpr z106 q.2.2.2))
        · refine wp_kn k_119 rfl rfl ?_
          refine wp_br k_119 rfl rfl rfl rfl (fun _ => ?_) (fun z => absurd trivial z)
          exact wp_irt k_119 rfl rfl rfl (K1 ⟨Int32.not_lt.mp z28, Int32.not_lt.mp z44, Int32.not_lt.mp z75, Int32.not_lt.mp z106⟩)
theorem m_meets {h0 h : sm_H} {m : Nat} {g : Nat → Int32} {ar : Nat → Nat → Int32} {Q : Nat → Option Value → sm_H → Prop} {E : Ed} {e : Nat} (M : MS h0 h m g ar) (V : MV g ar E e) {i j : Nat} (hi : i < E.1.length) (hj : j < E.1.length) (K1 : mtsE E.1 i j → Q 0 (some (.int (nI 1))) h) (K0 : ¬ mtsE E.1 i j → Q 0 (some (.int (nI 0))) h) : sm_wp 122 0 [.ref m, .int (nI i), .int (nI j), jk, jk] [] h Q := by
  have he := V.he
  have hn := V.hn
  have hl := V.hl
  refine wp_pure k_122 rfl rfl ?_
  refine wm_iv k_122 rfl rfl M [] rfl (r := []) (Nat.le_of_ble_eq_true rfl) (Nat.le_of_ble_eq_true rfl) rfl ?_
  refine wp_kn k_110 rfl rfl ?_
  refine wp_pure k_110 rfl rfl ?_
  refine wm_gi 3 M k_110 rfl rfl rfl rfl V.h3 ?_
  refine wp_mulN k_110 rfl ?_
  refine wp_irt k_110 rfl rfl rfl ⟨rfl, ?_⟩
  refine wp_pure k_122 rfl rfl ?_
  refine wp_addN k_122 rfl ?_
  refine wp_pure k_122 rfl rfl ?_
  refine wp_pure k_122 rfl rfl ?_
  refine wm_iv k_122 rfl rfl M [] rfl (r := []) (Nat.le_of_ble_eq_true rfl) (Nat.le_of_ble_eq_true rfl) rfl ?_
  refine wp_kn k_110 rfl rfl ?_
  refine wp_pure k_110 rfl rfl ?_
  refine wm_gi 3 M k_110 rfl rfl rfl rfl V.h3 ?_
  refine wp_mulN k_110 rfl ?_
  refine wp_irt k_110 rfl rfl rfl ⟨rfl, ?_⟩
  refine wp_pure k_122 rfl rfl ?_
  refine wp_addN k_122 rfl ?_
  refine wp_pure k_122 rfl rfl ?_
  refine wp_pure k_122 rfl rfl ?_
  refine wm_ga 7 M k_122 rfl rfl rfl (by decide) ?_
  refine wp_pure k_122 rfl rfl ?_
  refine wm_al 7 M k_122 rfl rfl (by decide) rfl (show (60 * e) + i < 480 by omega) (v := atP E.1 2 i) (V.p7 i (by omega)) ?_
  refine wp_pure k_122 rfl rfl ?_
  refine wm_ga 7 M k_122 rfl rfl rfl (by decide) ?_
  refine wp_pure k_122 rfl rfl ?_
  refine wm_al 7 M k_122 rfl rfl (by decide) rfl (show (60 * e) + j < 480 by omega) (v := atP E.1 2 j) (V.p7 j (by omega)) ?_
  refine wp_pure k_122 rfl rfl ?_
  refine wm_ga 9 M k_122 rfl rfl rfl (by decide) ?_
  refine wp_pure k_122 rfl rfl ?_
  refine wm_al 9 M k_122 rfl rfl (by decide) rfl (show (60 * e) + j < 480 by omega) (v := atP E.1 4 j) (V.p9 j (by omega)) ?_
  refine wp_iadd k_122 rfl ?_
  refine wp_br k_122 rfl rfl rfl rfl (fun (z36 : (atP E.1 2 j) + (atP E.1 4 j) ≤ atP E.1 2 i) => ?_) (fun (z36 : ¬ ((atP E.1 2 j) + (atP E.1 4 j) ≤ atP E.1 2 i)) => ?_)
  · refine wp_kn k_122 rfl rfl ?_
    exact wp_irt k_122 rfl rfl rfl (K0 (fun q => Int32.not_le.mpr q.1 z36))
  · refine wp_pure k_122 rfl rfl ?_
    refine wm_ga 7 M k_122 rfl rfl rfl (by decide) ?_
    refine wp_pure k_122 rfl rfl ?_
    refine wm_al 7 M k_122 rfl rfl (by decide) rfl (show (60 * e) + j < 480 by omega) (v := atP E.1 2 j) (V.p7 j (by omega)) ?_
    refine wp_pure k_122 rfl rfl ?_
    refine wm_ga 7 M k_122 rfl rfl rfl (by decide) ?_
    refine wp_pure k_122 rfl rfl ?_
    refine wm_al 7 M k_122 rfl rfl (by decide) rfl (show (60 * e) + i < 480 by omega) (v := atP E.1 2 i) (V.p7 i (by omega)) ?_
    refine wp_pure k_122 rfl rfl ?_
    refine wm_ga 9 M k_122 rfl rfl rfl (by decide) ?_
    refine wp_pure k_122 rfl rfl ?_
    refine wm_al 9 M k_122 rfl rfl (by decide) rfl (show (60 * e) + i < 480 by omega) (v := atP E.1 4 i) (V.p9 i (by omega)) ?_
    refine wp_iadd k_122 rfl ?_
    refine wp_br k_122 rfl rfl rfl rfl (fun (z59 : (atP E.1 2 i) + (atP E.1 4 i) ≤ atP E.1 2 j) => ?_) (fun (z59 : ¬ ((atP E.1 2 i) + (atP E.1 4 i) ≤ atP E.1 2 j)) => ?_)
    · refine wp_kn k_122 rfl rfl ?_
      exact wp_irt k_122 rfl rfl rfl (K0 (fun q => Int32.not_le.mpr q.2.1 z59))
    · refine wp_pure k_122 rfl rfl ?_
      refine wm_ga 8 M k_122 rfl rfl rfl (by decide) ?_
      refine wp_pure k_122 rfl rfl ?_
      refine wm_al 8 M k_122 rfl rfl (by decide) rfl (show (60 * e) + i < 480 by omega) (v := atP E.1 3 i) (V.p8 i (by omega)) ?_
      refine wp_pure k_122 rfl rfl ?_
      refine wm_ga 8 M k_122 rfl rfl rfl (by decide) ?_
      refine wp_pure k_122 rfl rfl ?_
      refine wm_al 8 M k_122 rfl rfl (by decide) rfl (show (60 * e) + j < 480 by omega) (v := atP E.1 3 j) (V.p8 j (by omega)) ?_
      refine wp_pure k_122 rfl rfl ?_
      refine wm_ga 10 M k_122 rfl rfl rfl (by decide) ?_
      refine wp_pure k_122 rfl rfl ?_
      refine wm_al 10 M k_122 rfl rfl (by decide) rfl (show (60 * e) + j < 480 by omega) (v := atP E.1 5 j) (V.p10 j (by omega)) ?_
      refine wp_iadd k_122 rfl ?_
      refine wp_br k_122 rfl rfl rfl rfl (fun (z83 : (atP E.1 3 j) + (atP E.1 5 j) ≤ atP E.1 3 i) => ?_) (fun (z83 : ¬ ((atP E.1 3 j) + (atP E.1 5 j) ≤ atP E.1 3 i)) => ?_)
      · refine wp_kn k_122 rfl rfl ?_
        exact wp_irt k_122 rfl rfl rfl (K0 (fun q => Int32.not_le.mpr q.2.2.1 z83))
      · refine wp_pure k_122 rfl rfl ?_
        refine wm_ga 8 M k_122 rfl rfl rfl (by decide) ?_
        refine wp_pure k_122 rfl rfl ?_
        refine wm_al 8 M k_122 rfl rfl (by decide) rfl (show (60 * e) + j < 480 by omega) (v := atP E.1 3 j) (V.p8 j (by omega)) ?_
        refine wp_pure k_122 rfl rfl ?_
        refine wm_ga 8 M k_122 rfl rfl rfl (by decide) ?_
        refine wp_pure k_122 rfl rfl ?_
        refine wm_al 8 M k_122 rfl rfl (by decide) rfl (show (60 * e) + i < 480 by omega) (v := atP E.1 3 i) (V.p8 i (by omega)) ?_
        refine wp_pure k_122 rfl rfl ?_
        refine wm_ga 10 M k_122 rfl rfl rfl (by decide) ?_
        refine wp_pure k_122 rfl rfl ?_
        refine wm_al 10 M k_122 rfl rfl (by decide) rfl (show (60 * e) + i < 480 by omega) (v := atP E.1 5 i) (V.p10 i (by omega)) ?_
        refine wp_iadd k_122 rfl ?_
        refine wp_br k_122 rfl rfl rfl rfl (fun (z106 : (atP E.1 3 i) + (atP E.1 5 i) ≤ atP E.1 3 j) => ?_) (fun (z106 : ¬ ((atP E.1 3 i) + (atP E.1 5 i) ≤ atP E.1 3 j)) => ?_)
        · refine wp_kn k_122 rfl rfl ?_
          exact wp_irt k_122 rfl rfl rfl (K0 (fun q => Int32.not_le.mpr q.2.2.2 z106))
        · refine wp_kn k_122 rfl rfl ?_
          refine wp_br k_122 rfl rfl rfl rfl (fun _ => ?_) (fun z => absurd trivial z)
          exact wp_irt k_122 rfl rfl rfl (K1 ⟨Int32.not_le.mp z36, Int32.not_le.mp z59, Int32.not_le.mp z83, Int32.not_le.mp z106⟩)
theorem m_firstMet {h0 h : sm_H} {m : Nat} {g : Nat → Int32} {ar : Nat → Nat → Int32} {Q : Nat → Option Value → sm_H → Prop} {E : Ed} {e : Nat} (M : MS h0 h m g ar) (V : MV g ar E e) (hW : EdW E) {i : Nat} (hi : i < E.1.length) (K : Q 0 (some (.int (fO (fmE E.1 i)))) h) : sm_wp 121 0 [.ref m, .int (nI i), jk, jk] [] h Q := by
  have he := V.he
  have hn := V.hn
  have hl := V.hl
  refine wp_kn k_121 rfl rfl ?_
  refine wp_pure k_121 rfl rfl ?_
  refine dn (n := i) (P := fun k => ∀ (x3 : Value), (∀ j, j < k → ¬ (likE E.1 j i ∧ mtsE E.1 i j)) → sm_wp 121 2 [.ref m, .int (nI i), .int (nI k), x3] [] h Q) ?_ ?_ 0 (Nat.zero_le _) (jk) (fun j hj => absurd hj (Nat.not_lt_zero j))
  · intro x3 hI
    
    refine wp_pure k_121 rfl rfl ?_
    refine wp_pure k_121 rfl rfl ?_
    refine wp_br k_121 rfl rfl rfl rfl (fun _ => ?_) (fun z => absurd (Int32.le_refl _) z)
    refine wp_km k_121 rfl rfl ?_
    have e := fstP_none (f := fun k => likE E.1 k i ∧ mtsE E.1 i k) hI
    unfold fmE at K
    rw [e] at K
    exact wp_irt k_121 rfl rfl rfl K
  · intro k hk0 ih x3 hI
    have hk : k < E.1.length := by omega
    refine wp_pure k_121 rfl rfl ?_
    refine wp_pure k_121 rfl rfl ?_
    refine wp_br k_121 rfl rfl rfl rfl (fun z => absurd z (nI_ge hk0 (by omega))) (fun _ => ?_)
    refine wp_pure k_121 rfl rfl ?_
    refine wp_pure k_121 rfl rfl ?_
    refine wm_iv k_121 rfl rfl M [.int (nI k)] rfl (r := []) (Nat.le_of_ble_eq_true rfl) (Nat.le_of_ble_eq_true rfl) rfl ?_
    refine wp_pure k_112 rfl rfl ?_
    refine wm_ga 5 M k_112 rfl rfl rfl (by decide) ?_
    refine wp_pure k_112 rfl rfl ?_
    refine wm_iv k_112 rfl rfl M [] rfl (r := [.ref (m + mo 5)]) (Nat.le_of_ble_eq_true rfl) (Nat.le_of_ble_eq_true rfl) rfl ?_
    refine wp_kn k_110 rfl rfl ?_
    refine wp_pure k_110 rfl rfl ?_
    refine wm_gi 3 M k_110 rfl rfl rfl rfl V.h3 ?_
    refine wp_mulN k_110 rfl ?_
    refine wp_irt k_110 rfl rfl rfl ⟨rfl, ?_⟩
    refine wp_pure k_112 rfl rfl ?_
    refine wp_addN k_112 rfl ?_
    refine wm_al 5 M k_112 rfl rfl (by decide) rfl (show (60 * e) + k < 480 by omega) (v := atP E.1 1 k) (V.p5 k (by omega)) ?_
    refine wp_irt k_112 rfl rfl rfl ⟨rfl, ?_⟩
    refine wp_pure k_121 rfl rfl ?_
    refine wp_pure k_121 rfl rfl ?_
    refine wm_iv k_121 rfl rfl M [.int (nI i)] rfl (r := [.int (atP E.1 1 k)]) (Nat.le_of_ble_eq_true rfl) (Nat.le_of_ble_eq_true rfl) rfl ?_
    refine wp_pure k_112 rfl rfl ?_
    refine wm_ga 5 M k_112 rfl rfl rfl (by decide) ?_
    refine wp_pure k_112 rfl rfl ?_
    refine wm_iv k_112 rfl rfl M [] rfl (r := [.ref (m + mo 5)]) (Nat.le_of_ble_eq_true rfl) (Nat.le_of_ble_eq_true rfl) rfl ?_
    refine wp_kn k_110 rfl rfl ?_
    refine wp_pure k_110 rfl rfl ?_
    refine wm_gi 3 M k_110 rfl rfl rfl rfl V.h3 ?_
    refine wp_mulN k_110 rfl ?_
    refine wp_irt k_110 rfl rfl rfl ⟨rfl, ?_⟩
    refine wp_pure k_112 rfl rfl ?_
    refine wp_addN k_112 rfl ?_
    refine wm_al 5 M k_112 rfl rfl (by decide) rfl (show (60 * e) + i < 480 by omega) (v := atP E.1 1 i) (V.p5 i (by omega)) ?_
    refine wp_irt k_112 rfl rfl rfl ⟨rfl, ?_⟩
    refine wp_br k_121 rfl rfl rfl rfl (fun (z17 : ¬ atP E.1 1 k = atP E.1 1 i) => ?_) (fun (z17 : ¬ (¬ atP E.1 1 k = atP E.1 1 i)) => ?_)
    · refine wp_kn k_121 rfl rfl ?_
      refine wp_pure k_121 rfl rfl ?_
      refine wp_pure k_121 rfl rfl ?_
      refine wp_br k_121 rfl rfl rfl rfl (fun _ => ?_) (fun z => absurd (show (nI 0 : Int32) = 0 by decide) z)
      refine wp_inc k_121 rfl rfl rfl ?_
      refine wp_br k_121 rfl rfl rfl rfl (fun _ => ?_) (fun z => absurd trivial z)
      exact ih (.int (nI 0)) (fun j hj => by
        by_cases q : j = k
        · rw [q]; exact fun q => z17 ((likE_ref hW hk hi).mp q.1).1
        · exact hI j (by omega))
    · refine wp_pure k_121 rfl rfl ?_
      refine wp_pure k_121 rfl rfl ?_
      refine wm_iv k_121 rfl rfl M [.int (nI i)] rfl (r := []) (Nat.le_of_ble_eq_true rfl) (Nat.le_of_ble_eq_true rfl) rfl ?_
      refine wp_pure k_112 rfl rfl ?_
      refine wm_ga 5 M k_112 rfl rfl rfl (by decide) ?_
      refine wp_pure k_112 rfl rfl ?_
      refine wm_iv k_112 rfl rfl M [] rfl (r := [.ref (m + mo 5)]) (Nat.le_of_ble_eq_true rfl) (Nat.le_of_ble_eq_true rfl) rfl ?_
      refine wp_kn k_110 rfl rfl ?_
      refine wp_pure k_110 rfl rfl ?_
      refine wm_gi 3 M k_110 rfl rfl rfl rfl V.h3 ?_
      refine wp_mulN k_110 rfl ?_
      refine wp_irt k_110 rfl rfl rfl ⟨rfl, ?_⟩
      refine wp_pure k_112 rfl rfl ?_
      refine wp_addN k_112 rfl ?_
      refine wm_al 5 M k_112 rfl rfl (by decide) rfl (show (60 * e) + i < 480 by omega) (v := atP E.1 1 i) (V.p5 i (by omega)) ?_
      refine wp_irt k_112 rfl rfl rfl ⟨rfl, ?_⟩
      refine wp_br k_121 rfl rfl rfl rfl (fun (z25 : atP E.1 1 i = 0) => ?_) (fun (z25 : ¬ (atP E.1 1 i = 0)) => ?_)
      · refine wp_kn k_121 rfl rfl ?_
        refine wp_br k_121 rfl rfl rfl rfl (fun _ => ?_) (fun z => absurd trivial z)
        refine wp_pure k_121 rfl rfl ?_
        refine wp_pure k_121 rfl rfl ?_
        refine wp_br k_121 rfl rfl rfl rfl (fun z => absurd z (show ¬ ((nI 1 : Int32) = 0) by decide)) (fun _ => ?_)
        refine wp_pure k_121 rfl rfl ?_
        refine wp_pure k_121 rfl rfl ?_
        refine wp_pure k_121 rfl rfl ?_
        refine wm_iv k_121 rfl rfl M [.int (nI i), .int (nI k)] rfl (r := []) (Nat.le_of_ble_eq_true rfl) (Nat.le_of_ble_eq_true rfl) rfl ?_
        refine m_meets M V hi (by omega) (fun zm1 => ⟨rfl, ?_⟩) (fun zm1 => ⟨rfl, ?_⟩)
        · have zm := zm1
          refine wp_br k_121 rfl rfl rfl rfl (fun z => absurd z (show ¬ ((nI 1 : Int32) = 0) by decide)) (fun _ => ?_)
          refine wp_pure k_121 rfl rfl ?_
          have e := fstP_some (f := fun k => likE E.1 k i ∧ mtsE E.1 i k) hk0 ⟨(likE_ref hW hk hi).mpr ⟨Classical.not_not.mp z17, Or.inl z25⟩, zm⟩ hI
          unfold fmE at K
          rw [e] at K
          exact wp_irt k_121 rfl rfl rfl K
        · have zm := zm1
          refine wp_br k_121 rfl rfl rfl rfl (fun _ => ?_) (fun z => absurd (show (nI 0 : Int32) = 0 by decide) z)
          refine wp_inc k_121 rfl rfl rfl ?_
          refine wp_br k_121 rfl rfl rfl rfl (fun _ => ?_) (fun z => absurd trivial z)
          exact ih (.int (nI 1)) (fun j hj => by
            by_cases q : j = k
            · rw [q]; exact fun q => zm q.2
            · exact hI j (by omega))
      · refine wp_pure k_121 rfl rfl ?_
        refine wm_ga 12 M k_121 rfl rfl rfl (by decide) ?_
        refine wp_pure k_121 rfl rfl ?_
        refine wm_iv k_121 rfl rfl M [] rfl (r := [.ref (m + mo 12)]) (Nat.le_of_ble_eq_true rfl) (Nat.le_of_ble_eq_true rfl) rfl ?_
        refine wp_kn k_110 rfl rfl ?_
        refine wp_pure k_110 rfl rfl ?_
        refine wm_gi 3 M k_110 rfl rfl rfl rfl V.h3 ?_
        refine wp_mulN k_110 rfl ?_
        refine wp_irt k_110 rfl rfl rfl ⟨rfl, ?_⟩
        refine wp_pure k_121 rfl rfl ?_
        refine wp_addN k_121 rfl ?_
        refine wm_al 12 M k_121 rfl rfl (by decide) rfl (show (60 * e) + k < 480 by omega) (v := atP E.1 7 k) (V.p12 k (by omega)) ?_
        refine wp_pure k_121 rfl rfl ?_
        refine wm_ga 12 M k_121 rfl rfl rfl (by decide) ?_
        refine wp_pure k_121 rfl rfl ?_
        refine wm_iv k_121 rfl rfl M [] rfl (r := [.ref (m + mo 12), .int (atP E.1 7 k)]) (Nat.le_of_ble_eq_true rfl) (Nat.le_of_ble_eq_true rfl) rfl ?_
        refine wp_kn k_110 rfl rfl ?_
        refine wp_pure k_110 rfl rfl ?_
        refine wm_gi 3 M k_110 rfl rfl rfl rfl V.h3 ?_
        refine wp_mulN k_110 rfl ?_
        refine wp_irt k_110 rfl rfl rfl ⟨rfl, ?_⟩
        refine wp_pure k_121 rfl rfl ?_
        refine wp_addN k_121 rfl ?_
        refine wm_al 12 M k_121 rfl rfl (by decide) rfl (show (60 * e) + i < 480 by omega) (v := atP E.1 7 i) (V.p12 i (by omega)) ?_
        refine wp_br k_121 rfl rfl rfl rfl (fun (z50 : ¬ atP E.1 7 k = atP E.1 7 i) => ?_) (fun (z50 : ¬ (¬ atP E.1 7 k = atP E.1 7 i)) => ?_)
        · refine wp_kn k_121 rfl rfl ?_
          refine wp_pure k_121 rfl rfl ?_
          refine wp_pure k_121 rfl rfl ?_
          refine wp_br k_121 rfl rfl rfl rfl (fun _ => ?_) (fun z => absurd (show (nI 0 : Int32) = 0 by decide) z)
          refine wp_inc k_121 rfl rfl rfl ?_
          refine wp_br k_121 rfl rfl rfl rfl (fun _ => ?_) (fun z => absurd trivial z)
          exact ih (.int (nI 0)) (fun j hj => by
            by_cases q : j = k
            · rw [q]; exact fun q => ((likE_ref hW hk hi).mp q.1).2.elim z25 (fun w => z50 w.1)
            · exact hI j (by omega))
        · refine wp_pure k_121 rfl rfl ?_
          refine wm_ga 11 M k_121 rfl rfl rfl (by decide) ?_
          refine wp_pure k_121 rfl rfl ?_
          refine wm_iv k_121 rfl rfl M [] rfl (r := [.ref (m + mo 11)]) (Nat.le_of_ble_eq_true rfl) (Nat.le_of_ble_eq_true rfl) rfl ?_
          refine wp_kn k_110 rfl rfl ?_
          refine wp_pure k_110 rfl rfl ?_
          refine wm_gi 3 M k_110 rfl rfl rfl rfl V.h3 ?_
          refine wp_mulN k_110 rfl ?_
          refine wp_irt k_110 rfl rfl rfl ⟨rfl, ?_⟩
          refine wp_pure k_121 rfl rfl ?_
          refine wp_addN k_121 rfl ?_
          refine wm_al 11 M k_121 rfl rfl (by decide) rfl (show (60 * e) + k < 480 by omega) (v := atP E.1 6 k) (V.p11 k (by omega)) ?_
          refine wp_pure k_121 rfl rfl ?_
          refine wm_ga 11 M k_121 rfl rfl rfl (by decide) ?_
          refine wp_pure k_121 rfl rfl ?_
          refine wm_iv k_121 rfl rfl M [] rfl (r := [.ref (m + mo 11), .int (atP E.1 6 k)]) (Nat.le_of_ble_eq_true rfl) (Nat.le_of_ble_eq_true rfl) rfl ?_
          refine wp_kn k_110 rfl rfl ?_
          refine wp_pure k_110 rfl rfl ?_
          refine wm_gi 3 M k_110 rfl rfl rfl rfl V.h3 ?_
          refine wp_mulN k_110 rfl ?_
          refine wp_irt k_110 rfl rfl rfl ⟨rfl, ?_⟩
          refine wp_pure k_121 rfl rfl ?_
          refine wp_addN k_121 rfl ?_
          refine wm_al 11 M k_121 rfl rfl (by decide) rfl (show (60 * e) + i < 480 by omega) (v := atP E.1 6 i) (V.p11 i (by omega)) ?_
          refine wp_br k_121 rfl rfl rfl rfl (fun (z75 : ¬ atP E.1 6 k = atP E.1 6 i) => ?_) (fun (z75 : ¬ (¬ atP E.1 6 k = atP E.1 6 i)) => ?_)
          · refine wp_kn k_121 rfl rfl ?_
            refine wp_pure k_121 rfl rfl ?_
            refine wp_pure k_121 rfl rfl ?_
            refine wp_br k_121 rfl rfl rfl rfl (fun _ => ?_) (fun z => absurd (show (nI 0 : Int32) = 0 by decide) z)
            refine wp_inc k_121 rfl rfl rfl ?_
            refine wp_br k_121 rfl rfl rfl rfl (fun _ => ?_) (fun z => absurd trivial z)
            exact ih (.int (nI 0)) (fun j hj => by
              by_cases q : j = k
              · rw [q]; exact fun q => ((likE_ref hW hk hi).mp q.1).2.elim z25 (fun w => z75 w.2)
              · exact hI j (by omega))
          · refine wp_kn k_121 rfl rfl ?_
            refine wp_br k_121 rfl rfl rfl rfl (fun _ => ?_) (fun z => absurd trivial z)
            refine wp_pure k_121 rfl rfl ?_
            refine wp_pure k_121 rfl rfl ?_
            refine wp_br k_121 rfl rfl rfl rfl (fun z => absurd z (show ¬ ((nI 1 : Int32) = 0) by decide)) (fun _ => ?_)
            refine wp_pure k_121 rfl rfl ?_
            refine wp_pure k_121 rfl rfl ?_
            refine wp_pure k_121 rfl rfl ?_
            refine wm_iv k_121 rfl rfl M [.int (nI i), .int (nI k)] rfl (r := []) (Nat.le_of_ble_eq_true rfl) (Nat.le_of_ble_eq_true rfl) rfl ?_
            refine m_meets M V hi (by omega) (fun zm2 => ⟨rfl, ?_⟩) (fun zm2 => ⟨rfl, ?_⟩)
            · have zm := zm2
              refine wp_br k_121 rfl rfl rfl rfl (fun z => absurd z (show ¬ ((nI 1 : Int32) = 0) by decide)) (fun _ => ?_)
              refine wp_pure k_121 rfl rfl ?_
              have e := fstP_some (f := fun k => likE E.1 k i ∧ mtsE E.1 i k) hk0 ⟨(likE_ref hW hk hi).mpr ⟨Classical.not_not.mp z17, Or.inr ⟨Classical.not_not.mp z50, Classical.not_not.mp z75⟩⟩, zm⟩ hI
              unfold fmE at K
              rw [e] at K
              exact wp_irt k_121 rfl rfl rfl K
            · have zm := zm2
              refine wp_br k_121 rfl rfl rfl rfl (fun _ => ?_) (fun z => absurd (show (nI 0 : Int32) = 0 by decide) z)
              refine wp_inc k_121 rfl rfl rfl ?_
              refine wp_br k_121 rfl rfl rfl rfl (fun _ => ?_) (fun z => absurd trivial z)
              exact ih (.int (nI 1)) (fun j hj => by
                by_cases q : j = k
                · rw [q]; exact fun q => zm q.2
                · exact hI j (by omega))
