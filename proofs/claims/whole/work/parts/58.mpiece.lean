/-! pieces, insides, fillings, differences -/
theorem dec1 {a : Nat} (h : 1 ≤ a) : nI a + sm_k (1, 1) = nI (a - 1) := by
  rw [sm_km1, show nI a = nI (a - 1) + nI 1 by rw [nI_add]; congr 1; omega, Int32.add_assoc]
  exact Int32.add_zero _
theorem m_pieceAt {h0 h : sm_H} {m : Nat} {g : Nat → Int32} {ar : Nat → Nat → Int32} {Q : Nat → Option Value → sm_H → Prop} {E : Ed} {e : Nat} (M : MS h0 h m g ar) (V : MV g ar E e) {r : Nat} (hr : r < 2 ^ 31) (K : Q 0 (some (.int (fO (pceE E.1 r)))) h) : sm_wp 129 0 [.ref m, .int (nI r), jk, jk] [] h Q := by
  have he := V.he
  have hn := V.hn
  have hl := V.hl
  refine wp_pure k_129 rfl rfl ?_
  refine wp_pure k_129 rfl rfl ?_
  refine wp_kn k_129 rfl rfl ?_
  refine wp_pure k_129 rfl rfl ?_
  refine dn (n := E.1.length) (P := fun i => (cntP i (fun j => atP E.1 1 j = nI 2) ≤ r ∧ ∀ j, j < i → ¬ (atP E.1 1 j = nI 2 ∧ cntP j (fun j => atP E.1 1 j = nI 2) = r)) → sm_wp 129 4 [.ref m, .int (nI r), .int (nI (r - cntP i (fun j => atP E.1 1 j = nI 2))), .int (nI i)] [] h Q) ?_ ?_ 0 (Nat.zero_le _) (⟨Nat.zero_le _, fun j hj => absurd hj (Nat.not_lt_zero j)⟩)
  · intro hI
    refine wp_pure k_129 rfl rfl ?_
    refine wp_pure k_129 rfl rfl ?_
    refine wm_iv k_129 rfl rfl M [] rfl (r := [.int (nI (E.1.length))]) (Nat.le_of_ble_eq_true rfl) (Nat.le_of_ble_eq_true rfl) rfl ?_
    refine wp_pure k_109 rfl rfl ?_
    refine wm_ga 4 M k_109 rfl rfl rfl (by decide) ?_
    refine wp_pure k_109 rfl rfl ?_
    refine wm_gi 3 M k_109 rfl rfl rfl rfl V.h3 ?_
    refine wm_al 4 M k_109 rfl rfl (by decide) rfl (show e < 8 by omega) (v := nI E.1.length) V.n4 ?_
    refine wp_irt k_109 rfl rfl rfl ⟨rfl, ?_⟩
    refine wp_br k_129 rfl rfl rfl rfl (fun _ => ?_) (fun z => absurd (Int32.le_refl _) z)
    refine wp_km k_129 rfl rfl ?_
    have e := fstP_none (f := fun k => atP E.1 1 k = nI 2 ∧ cntP k (fun j => atP E.1 1 j = nI 2) = r) hI.2
    unfold pceE at K
    rw [e] at K
    exact wp_irt k_129 rfl rfl rfl K
  · intro i hi ih hI
    refine wp_pure k_129 rfl rfl ?_
    refine wp_pure k_129 rfl rfl ?_
    refine wm_iv k_129 rfl rfl M [] rfl (r := [.int (nI i)]) (Nat.le_of_ble_eq_true rfl) (Nat.le_of_ble_eq_true rfl) rfl ?_
    refine wp_pure k_109 rfl rfl ?_
    refine wm_ga 4 M k_109 rfl rfl rfl (by decide) ?_
    refine wp_pure k_109 rfl rfl ?_
    refine wm_gi 3 M k_109 rfl rfl rfl rfl V.h3 ?_
    refine wm_al 4 M k_109 rfl rfl (by decide) rfl (show e < 8 by omega) (v := nI E.1.length) V.n4 ?_
    refine wp_irt k_109 rfl rfl rfl ⟨rfl, ?_⟩
    refine wp_br k_129 rfl rfl rfl rfl (fun z => absurd z (nI_ge hi (by omega))) (fun _ => ?_)
    refine wp_pure k_129 rfl rfl ?_
    refine wp_pure k_129 rfl rfl ?_
    refine wm_iv k_129 rfl rfl M [.int (nI i)] rfl (r := []) (Nat.le_of_ble_eq_true rfl) (Nat.le_of_ble_eq_true rfl) rfl ?_
    refine wp_pure k_112 rfl rfl ?_
    refine wm_ga 5 M k_112 rfl rfl rfl (by decide) ?_
    refine wp_pure k_112 rfl rfl ?_
    refine wm_iv k_112 rfl rfl M [] rfl (r := [.ref (m + mo 5)]) (Nat.le_of_ble_eq_true rfl) (Nat.le_of_ble_eq_true rfl) rfl ?_
    refine wp_kn k_110 rfl rfl ?_
    refine wp_pure k_110 rfl rfl ?_
    refine wm_gi 3 M k_110 rfl rfl rfl rfl V.h3 ?_
    refine wp_mulN k_110 rfl ?_
    refine wp_irt k_110 rfl rfl rfl ⟨rfl, ?_⟩
    refine wp_pure k_112 rfl rfl ?_
    refine wp_addN k_112 rfl ?_
    refine wm_al 5 M k_112 rfl rfl (by decide) rfl (show (60 * e) + i < 480 by omega) (v := atP E.1 1 i) (V.p5 i (by omega)) ?_
    refine wp_irt k_112 rfl rfl rfl ⟨rfl, ?_⟩
    refine wp_kn k_129 rfl rfl ?_
    refine wp_br k_129 rfl rfl rfl rfl (fun (z18 : atP E.1 1 i = nI 2) => ?_) (fun (z18 : ¬ (atP E.1 1 i = nI 2)) => ?_)
    · refine wp_pure k_129 rfl rfl ?_
      refine wp_br k_129 rfl rfl rfl rfl (fun (z25 : ¬ nI (r - cntP i (fun j => atP E.1 1 j = nI 2)) = 0) => ?_) (fun (z25 : ¬ (¬ nI (r - cntP i (fun j => atP E.1 1 j = nI 2)) = 0)) => ?_)
      · have y25 : ¬ r - cntP i (fun j => atP E.1 1 j = nI 2) = 0 := yNE (by omega) (by omega) (show ¬ nI (r - cntP i (fun j => atP E.1 1 j = nI 2)) = nI 0 from z25)
        refine wp_pure k_129 rfl rfl ?_
        refine wp_inc k_129 rfl rfl rfl ?_
        refine wp_br k_129 rfl rfl rfl rfl (fun _ => ?_) (fun z => absurd trivial z)
        have c1 := hI.1
        have k2 : atP E.1 1 i = nI 2 := z18
        have e1 := cntP_y (f := fun j => atP E.1 1 j = nI 2) k2
        have e := dec1 (a := r - cntP i (fun j => atP E.1 1 j = nI 2)) (by omega)
        rw [e1] at ih
        show sm_wp 129 4 [.ref m, .int (nI r), .int (nI (r - cntP i (fun j => atP E.1 1 j = nI 2)) + sm_k (1, 1)), .int (nI (i + 1))] [] h Q
        rw [e, show r - cntP i (fun j => atP E.1 1 j = nI 2) - 1 = r - (cntP i (fun j => atP E.1 1 j = nI 2) + 1) by omega]
        exact ih ⟨by omega, fun j hj => by
          by_cases q : j = i
          · rw [q]; exact fun q => by have := q.2; omega
          · exact hI.2 j (by omega)⟩
      · have y25 : r - cntP i (fun j => atP E.1 1 j = nI 2) = 0 := yNNE (by omega) (by omega) (show ¬ (¬ nI (r - cntP i (fun j => atP E.1 1 j = nI 2)) = nI 0) from z25)
        refine wp_pure k_129 rfl rfl ?_
        have c1 := hI.1
        have e := fstP_some (f := fun k => atP E.1 1 k = nI 2 ∧ cntP k (fun j => atP E.1 1 j = nI 2) = r) hi ⟨z18, by omega⟩ hI.2
        unfold pceE at K
        rw [e] at K
        exact wp_irt k_129 rfl rfl rfl K
    · refine wp_br k_129 rfl rfl rfl rfl (fun _ => ?_) (fun z => absurd trivial z)
      refine wp_inc k_129 rfl rfl rfl ?_
      refine wp_br k_129 rfl rfl rfl rfl (fun _ => ?_) (fun z => absurd trivial z)
      rw [cntP_n (f := fun j => atP E.1 1 j = nI 2) z18] at ih
      exact ih ⟨hI.1, fun j hj => by
        by_cases q : j = i
        · rw [q]; exact fun q => z18 q.1
        · exact hI.2 j (by omega)⟩
noncomputable def pcX (ps : List Pl) (i : Int32) : Option Nat := if i < 0 then none else pceE ps i.toNatClampNeg
noncomputable def pcV (E : Ed) (p w : Nat) : Int32 := if w = 0 then nI p else if w = 1 then pit (rchE E p) (nI 1) (nI 0) else if w = 2 then pit (extE E p) (nI 1) (nI 0) else if w = 4 then stdE E p else nI (onwE E p)
theorem pcX_lt {ps : List Pl} {i : Int32} {p : Nat} (h : pcX ps i = some p) : p < ps.length := by
  unfold pcX at h
  split at h
  · cases h
  · exact (fstP_inv h).1
def KC (c : Nat) (g g' : Nat → Int32) (ar ar' : Nat → Nat → Int32) : Prop := (∀ k, k ≠ 0 → g' k = g k) ∧ g' 0 = nI c ∧ ∀ k, k ≠ 62 → ar' k = ar k
theorem m_pieceQ {h0 h : sm_H} {m : Nat} {g : Nat → Int32} {ar : Nat → Nat → Int32} {Q : Nat → Option Value → sm_H → Prop} {E : Ed} {e : Nat} (M : MS h0 h m g ar) (V : MV g ar E e) (hW : EdW E) {i a : Int32} (K1 : pcX E.1 i = none → ∀ h' g' ar', MS h0 h' m g' ar' → KC 1 g g' ar ar' → Q 0 (some (.int (nI 0))) h') (K2 : ∀ p, pcX E.1 i = some p → ¬ (∃ w, w ≤ 4 ∧ a = nI w) → ∀ h' g' ar', MS h0 h' m g' ar' → KC 2 g g' ar ar' → Q 0 (some (.int (nI 0))) h') (K0 : ∀ p w, pcX E.1 i = some p → w ≤ 4 → a = nI w → ∀ h' g' ar', MS h0 h' m g' ar' → KC 0 g g' ar ar' → Q 0 (some (.int (pcV E p w))) h') : sm_wp 128 0 [.ref m, .int i, .int a, jk, jk, jk] [] h Q := by
  have he := V.he
  have hn := V.hn
  have hl := V.hl
  by_cases z1 : i < 0
  · have hN : pcX E.1 i = none := by unfold pcX; rw [if_pos z1]
    refine wp_pure k_128 rfl rfl ?_
    refine wp_br k_128 rfl rfl rfl rfl (fun z => absurd z (Int32.not_le.mpr z1)) (fun _ => ?_)
    refine wp_km k_128 rfl rfl ?_
    refine wp_br k_128 rfl rfl rfl rfl (fun _ => ?_) (fun z => absurd trivial z)
    refine wp_pure k_128 rfl rfl ?_
    refine wp_pure k_128 rfl rfl ?_
    refine wp_pure k_128 rfl rfl ?_
    refine wp_km k_128 rfl rfl ?_
    refine wp_br k_128 rfl rfl rfl rfl (fun z => absurd rfl z) (fun _ => ?_)
    refine wp_kn k_128 rfl rfl ?_
    refine wp_br k_128 rfl rfl rfl rfl (fun _ => ?_) (fun z => absurd trivial z)
    refine wm_pi 0 M k_128 rfl rfl rfl rfl rfl rfl (fun h1 M1 => ?_)
    have V1 := V.same (g' := uF g 0 (nI 1)) (ar' := ar) ⟨uF_ne (by decide), uF_ne (by decide), uF_ne (by decide)⟩ (fun _ _ => rfl)
    refine wp_pure k_128 rfl rfl ?_
    refine wm_gi 0 M1 k_128 rfl rfl rfl rfl uF_at ?_
    refine wp_br k_128 rfl rfl rfl rfl (fun z => absurd z (show ¬ ((nI 1 : Int32) ≤ 0) by decide)) (fun _ => ?_)
    refine wp_kn k_128 rfl rfl ?_
    exact wp_irt k_128 rfl rfl rfl (K1 hN _ _ _ M1 ⟨fun k hk => uF_ne hk, uF_at, fun _ _ => rfl⟩)
  obtain ⟨r, hrl, rfl⟩ := nI_of z1
  have hX : pcX E.1 (nI r) = pceE E.1 r := by unfold pcX; rw [if_neg z1, nI_clamp hrl]
  cases hp : pceE E.1 r with
  | none =>
    refine wp_pure k_128 rfl rfl ?_
    refine wp_br k_128 rfl rfl rfl rfl (fun _ => ?_) (fun z => absurd (Int32.not_lt.mp z1) z)
    refine wp_pure k_128 rfl rfl ?_
    refine wp_pure k_128 rfl rfl ?_
    refine wm_iv k_128 rfl rfl M [.int (nI r)] rfl (r := []) (Nat.le_of_ble_eq_true rfl) (Nat.le_of_ble_eq_true rfl) rfl ?_
    refine m_pieceAt M V hrl ?_
    rw [hp]
    refine ⟨rfl, ?_⟩
    refine wp_pure k_128 rfl rfl ?_
    refine wp_pure k_128 rfl rfl ?_
    refine wp_pure k_128 rfl rfl ?_
    refine wp_km k_128 rfl rfl ?_
    refine wp_br k_128 rfl rfl rfl rfl (fun z => absurd rfl z) (fun _ => ?_)
    refine wp_kn k_128 rfl rfl ?_
    refine wp_br k_128 rfl rfl rfl rfl (fun _ => ?_) (fun z => absurd trivial z)
    refine wm_pi 0 M k_128 rfl rfl rfl rfl rfl rfl (fun h1 M1 => ?_)
    have V1 := V.same (g' := uF g 0 (nI 1)) (ar' := ar) ⟨uF_ne (by decide), uF_ne (by decide), uF_ne (by decide)⟩ (fun _ _ => rfl)
    refine wp_pure k_128 rfl rfl ?_
    refine wm_gi 0 M1 k_128 rfl rfl rfl rfl uF_at ?_
    refine wp_br k_128 rfl rfl rfl rfl (fun z => absurd z (show ¬ ((nI 1 : Int32) ≤ 0) by decide)) (fun _ => ?_)
    refine wp_kn k_128 rfl rfl ?_
    exact wp_irt k_128 rfl rfl rfl (K1 (hX.trans hp) _ _ _ M1 ⟨fun k hk => uF_ne hk, uF_at, fun _ _ => rfl⟩)
  | some p =>
    have hpl : p < E.1.length := (fstP_inv hp).1
    by_cases z2 : nI 0 ≤ a ∧ a ≤ nI 4
    · obtain ⟨w, hw, rfl⟩ := in_c (by decide) z2
      refine wp_pure k_128 rfl rfl ?_
      refine wp_br k_128 rfl rfl rfl rfl (fun _ => ?_) (fun z => absurd (Int32.not_lt.mp z1) z)
      refine wp_pure k_128 rfl rfl ?_
      refine wp_pure k_128 rfl rfl ?_
      refine wm_iv k_128 rfl rfl M [.int (nI r)] rfl (r := []) (Nat.le_of_ble_eq_true rfl) (Nat.le_of_ble_eq_true rfl) rfl ?_
      refine m_pieceAt M V hrl ?_
      rw [hp]
      refine ⟨rfl, ?_⟩
      refine wp_pure k_128 rfl rfl ?_
      refine wp_pure k_128 rfl rfl ?_
      refine wp_pure k_128 rfl rfl ?_
      refine wp_km k_128 rfl rfl ?_
      refine wp_br k_128 rfl rfl rfl rfl (fun _ => ?_) (fun z => absurd (nI_nm1 (by omega)) z)
      refine wp_pure k_128 rfl rfl ?_
      refine wp_kn k_128 rfl rfl ?_
      refine wp_kn k_128 rfl rfl ?_
      refine wp_is k_128 rfl (by decide) [.int (nI w), .int (nI 0), .int (nI 4)] rfl (r := [.ref m]) (Nat.le_of_ble_eq_true rfl) (Nat.le_of_ble_eq_true rfl) rfl ?_
      refine m_in (fun _ => ⟨rfl, ?_⟩) (fun z => absurd z2 z)
      refine wp_br k_128 rfl rfl rfl rfl (fun _ => ?_) (fun z => absurd (show ¬ (nI 1 : Int32) = 0 by decide) z)
      refine wp_kn k_128 rfl rfl ?_
      refine wm_pi 0 M k_128 rfl rfl rfl rfl rfl rfl (fun h2 M2 => ?_)
      have V2 := V.same (g' := uF g 0 (nI 0)) (ar' := ar) ⟨uF_ne (by decide), uF_ne (by decide), uF_ne (by decide)⟩ (fun _ _ => rfl)
      refine wp_pure k_128 rfl rfl ?_
      refine wm_gi 0 M2 k_128 rfl rfl rfl rfl uF_at ?_
      refine wp_br k_128 rfl rfl rfl rfl (fun _ => ?_) (fun z => absurd (show (nI 0 : Int32) ≤ 0 by decide) z)
      refine wp_pure k_128 rfl rfl ?_
      refine wp_br k_128 rfl rfl rfl rfl (fun (z51 : ¬ nI w = 0) => ?_) (fun (z51 : ¬ (¬ nI w = 0)) => ?_)
      · have y51 : ¬ w = 0 := yNE (by omega) (by omega) (show ¬ nI w = nI 0 from z51)
        refine wp_pure k_128 rfl rfl ?_
        refine wm_iv k_128 rfl rfl M2 [] rfl (r := []) (Nat.le_of_ble_eq_true rfl) (Nat.le_of_ble_eq_true rfl) rfl ?_
        refine m_measure M2 V2 hW (fun h3 ar3 M3 fA F => ⟨rfl, ?_⟩)
        have V3 := V2.same (g' := uF g 0 (nI 0)) (ar' := ar3) ⟨rfl, rfl, rfl⟩ (fun k hk => fA k (by omega))
        refine wp_pure k_128 rfl rfl ?_
        refine wp_kn k_128 rfl rfl ?_
        refine wp_br k_128 rfl rfl rfl rfl (fun (z62 : ¬ nI w = nI 1) => ?_) (fun (z62 : ¬ (¬ nI w = nI 1)) => ?_)
        · have y62 : ¬ w = 1 := yNE (by omega) (by omega) z62
          refine wp_pure k_128 rfl rfl ?_
          refine wp_kn k_128 rfl rfl ?_
          refine wp_br k_128 rfl rfl rfl rfl (fun (z81 : ¬ nI w = nI 2) => ?_) (fun (z81 : ¬ (¬ nI w = nI 2)) => ?_)
          · have y81 : ¬ w = 2 := yNE (by omega) (by omega) z81
            refine wp_pure k_128 rfl rfl ?_
            refine wp_kn k_128 rfl rfl ?_
            refine wp_br k_128 rfl rfl rfl rfl (fun (z101 : ¬ nI w = nI 4) => ?_) (fun (z101 : ¬ (¬ nI w = nI 4)) => ?_)
            · have y101 : ¬ w = 4 := yNE (by omega) (by omega) z101
              refine wp_kn k_128 rfl rfl ?_
              refine wp_pure k_128 rfl rfl ?_
              refine wp_kn k_128 rfl rfl ?_
              refine wp_pure k_128 rfl rfl ?_
              refine dn (n := E.1.length) (P := fun k => sm_wp 128 116 [.ref m, .int (nI r), .int (nI w), .int (nI p), .int (nI (cntP k (fun k => k ≠ p ∧ ∃ l, Wk (egE E) l p k))), .int (nI k)] [] h3 Q) ?_ ?_ 0 (Nat.zero_le _)
              · skip
                refine wp_pure k_128 rfl rfl ?_
                refine wp_pure k_128 rfl rfl ?_
                refine wm_iv k_128 rfl rfl M3 [] rfl (r := [.int (nI (E.1.length))]) (Nat.le_of_ble_eq_true rfl) (Nat.le_of_ble_eq_true rfl) rfl ?_
                refine wp_pure k_109 rfl rfl ?_
                refine wm_ga 4 M3 k_109 rfl rfl rfl (by decide) ?_
                refine wp_pure k_109 rfl rfl ?_
                refine wm_gi 3 M3 k_109 rfl rfl rfl rfl V3.h3 ?_
                refine wm_al 4 M3 k_109 rfl rfl (by decide) rfl (show e < 8 by omega) (v := nI E.1.length) V3.n4 ?_
                refine wp_irt k_109 rfl rfl rfl ⟨rfl, ?_⟩
                refine wp_br k_128 rfl rfl rfl rfl (fun _ => ?_) (fun z => absurd (Int32.le_refl _) z)
                refine wp_pure k_128 rfl rfl ?_
                have e := K0 p 3 (hX.trans hp) (by omega) (by rw [show w = 3 by omega]) _ _ _ M3 ⟨fun k hk => uF_ne hk, uF_at, fA⟩
                rw [show pcV E p 3 = nI (onwE E p) from rfl] at e
                exact wp_irt k_128 rfl rfl rfl e
              · intro k hk0 ih 
                refine wp_pure k_128 rfl rfl ?_
                refine wp_pure k_128 rfl rfl ?_
                refine wm_iv k_128 rfl rfl M3 [] rfl (r := [.int (nI k)]) (Nat.le_of_ble_eq_true rfl) (Nat.le_of_ble_eq_true rfl) rfl ?_
                refine wp_pure k_109 rfl rfl ?_
                refine wm_ga 4 M3 k_109 rfl rfl rfl (by decide) ?_
                refine wp_pure k_109 rfl rfl ?_
                refine wm_gi 3 M3 k_109 rfl rfl rfl rfl V3.h3 ?_
                refine wm_al 4 M3 k_109 rfl rfl (by decide) rfl (show e < 8 by omega) (v := nI E.1.length) V3.n4 ?_
                refine wp_irt k_109 rfl rfl rfl ⟨rfl, ?_⟩
                refine wp_br k_128 rfl rfl rfl rfl (fun z => absurd z (nI_ge hk0 (by omega))) (fun _ => ?_)
                refine wp_pure k_128 rfl rfl ?_
                refine wp_pure k_128 rfl rfl ?_
                refine wp_pure k_128 rfl rfl ?_
                refine wp_br k_128 rfl rfl rfl rfl (fun (z130 : nI k = nI p) => ?_) (fun (z130 : ¬ (nI k = nI p)) => ?_)
                · have y130 : k = p := yE (by omega) (by omega) z130
                  refine wp_kn k_128 rfl rfl ?_
                  refine wp_addN k_128 rfl ?_
                  refine wp_pure k_128 rfl rfl ?_
                  refine wp_inc k_128 rfl rfl rfl ?_
                  refine wp_br k_128 rfl rfl rfl rfl (fun _ => ?_) (fun z => absurd trivial z)
                  rw [cntP_n (f := fun k => k ≠ p ∧ ∃ l, Wk (egE E) l p k) (fun q => q.1 y130)] at ih
                  exact ih
                · have y130 : ¬ k = p := yNE (by omega) (by omega) z130
                  refine wp_pure k_128 rfl rfl ?_
                  refine wm_ga 62 M3 k_128 rfl rfl rfl (by decide) ?_
                  refine wp_kn k_128 rfl rfl ?_
                  refine wp_pure k_128 rfl rfl ?_
                  refine wp_mulN k_128 rfl ?_
                  refine wp_pure k_128 rfl rfl ?_
                  refine wp_addN k_128 rfl ?_
                  refine wm_al 62 M3 k_128 rfl rfl (by decide) rfl (show (60 * p) + k < 3600 by omega) rfl ?_
                  refine wp_km k_128 rfl rfl ?_
                  refine wp_br k_128 rfl rfl rfl rfl (fun (z146 : ar3 62 ((60 * p) + k) = -1) => ?_) (fun (z146 : ¬ (ar3 62 ((60 * p) + k) = -1)) => ?_)
                  · refine wp_kn k_128 rfl rfl ?_
                    refine wp_addN k_128 rfl ?_
                    refine wp_pure k_128 rfl rfl ?_
                    refine wp_inc k_128 rfl rfl rfl ?_
                    refine wp_br k_128 rfl rfl rfl rfl (fun _ => ?_) (fun z => absurd trivial z)
                    rw [cntP_n (f := fun k => k ≠ p ∧ ∃ l, Wk (egE E) l p k) (fun q => (FarE_m1 F hpl hk0).mpr q.2 z146)] at ih
                    exact ih
                  · refine wp_kn k_128 rfl rfl ?_
                    refine wp_br k_128 rfl rfl rfl rfl (fun _ => ?_) (fun z => absurd trivial z)
                    refine wp_addN k_128 rfl ?_
                    refine wp_pure k_128 rfl rfl ?_
                    refine wp_inc k_128 rfl rfl rfl ?_
                    refine wp_br k_128 rfl rfl rfl rfl (fun _ => ?_) (fun z => absurd trivial z)
                    rw [cntP_y (f := fun k => k ≠ p ∧ ∃ l, Wk (egE E) l p k) ⟨y130, (FarE_m1 F hpl hk0).mp z146⟩] at ih
                    exact ih
            · have y101 : w = 4 := yNNE (by omega) (by omega) z101
              refine wp_pure k_128 rfl rfl ?_
              refine wp_pure k_128 rfl rfl ?_
              refine wm_iv k_128 rfl rfl M3 [.int (nI p)] rfl (r := []) (Nat.le_of_ble_eq_true rfl) (Nat.le_of_ble_eq_true rfl) rfl ?_
              refine m_toDock M3 V3 hW F hpl ⟨rfl, ?_⟩
              have e := K0 p 4 (hX.trans hp) (by omega) (by rw [show w = 4 by omega]) _ _ _ M3 ⟨fun k hk => uF_ne hk, uF_at, fA⟩
              rw [show pcV E p 4 = stdE E p from rfl] at e
              exact wp_irt k_128 rfl rfl rfl e
          · have y81 : w = 2 := yNNE (by omega) (by omega) z81
            refine wp_pure k_128 rfl rfl ?_
            refine wp_pure k_128 rfl rfl ?_
            refine wm_iv k_128 rfl rfl M3 [.int (nI p)] rfl (r := []) (Nat.le_of_ble_eq_true rfl) (Nat.le_of_ble_eq_true rfl) rfl ?_
            refine m_toDock M3 V3 hW F hpl ⟨rfl, ?_⟩
            refine wp_km k_128 rfl rfl ?_
            refine wp_br k_128 rfl rfl rfl rfl (fun (z90 : stdE E p = -1) => ?_) (fun (z90 : ¬ (stdE E p = -1)) => ?_)
            · refine wp_kn k_128 rfl rfl ?_
              have e := K0 p 2 (hX.trans hp) (by omega) (by rw [show w = 2 by omega]) _ _ _ M3 ⟨fun k hk => uF_ne hk, uF_at, fA⟩
              rw [show pcV E p 2 = nI 0 by show pit (extE E p) (nI 1) (nI 0) = nI 0; exact pit_n ((stdE_m1 hW hn hpl).mp z90)] at e
              exact wp_irt k_128 rfl rfl rfl e
            · refine wp_kn k_128 rfl rfl ?_
              refine wp_br k_128 rfl rfl rfl rfl (fun _ => ?_) (fun z => absurd trivial z)
              have e := K0 p 2 (hX.trans hp) (by omega) (by rw [show w = 2 by omega]) _ _ _ M3 ⟨fun k hk => uF_ne hk, uF_at, fA⟩
              rw [show pcV E p 2 = nI 1 by show pit (extE E p) (nI 1) (nI 0) = nI 1; exact pit_y (Classical.not_not.mp (fun q => z90 ((stdE_m1 hW hn hpl).mpr q)))] at e
              exact wp_irt k_128 rfl rfl rfl e
        · have y62 : w = 1 := yNNE (by omega) (by omega) z62
          refine wp_pure k_128 rfl rfl ?_
          refine wp_pure k_128 rfl rfl ?_
          refine wm_iv k_128 rfl rfl M3 [.int (nI p)] rfl (r := []) (Nat.le_of_ble_eq_true rfl) (Nat.le_of_ble_eq_true rfl) rfl ?_
          refine m_isReached M3 V3 hW F hpl (fun zr => ⟨rfl, ?_⟩) (fun zr => ⟨rfl, ?_⟩)
          · refine wp_br k_128 rfl rfl rfl rfl (fun z => absurd z (show ¬ ((nI 1 : Int32) = 0) by decide)) (fun _ => ?_)
            refine wp_kn k_128 rfl rfl ?_
            refine wp_br k_128 rfl rfl rfl rfl (fun _ => ?_) (fun z => absurd trivial z)
            have e := K0 p 1 (hX.trans hp) (by omega) (by rw [show w = 1 by omega]) _ _ _ M3 ⟨fun k hk => uF_ne hk, uF_at, fA⟩
            rw [show pcV E p 1 = nI 1 by show pit (rchE E p) (nI 1) (nI 0) = nI 1; exact pit_y zr] at e
            exact wp_irt k_128 rfl rfl rfl e
          · refine wp_br k_128 rfl rfl rfl rfl (fun _ => ?_) (fun z => absurd (show (nI 0 : Int32) = 0 by decide) z)
            refine wp_kn k_128 rfl rfl ?_
            have e := K0 p 1 (hX.trans hp) (by omega) (by rw [show w = 1 by omega]) _ _ _ M3 ⟨fun k hk => uF_ne hk, uF_at, fA⟩
            rw [show pcV E p 1 = nI 0 by show pit (rchE E p) (nI 1) (nI 0) = nI 0; exact pit_n zr] at e
            exact wp_irt k_128 rfl rfl rfl e
      · have y51 : w = 0 := yNNE (by omega) (by omega) (show ¬ (¬ nI w = nI 0) from z51)
        refine wp_pure k_128 rfl rfl ?_
        have e := K0 p 0 (hX.trans hp) (by omega) (by rw [show w = 0 by omega]) _ _ _ M2 ⟨fun k hk => uF_ne hk, uF_at, fun _ _ => rfl⟩
        rw [show pcV E p 0 = nI p from rfl] at e
        exact wp_irt k_128 rfl rfl rfl e
    · skip
      refine wp_pure k_128 rfl rfl ?_
      refine wp_br k_128 rfl rfl rfl rfl (fun _ => ?_) (fun z => absurd (Int32.not_lt.mp z1) z)
      refine wp_pure k_128 rfl rfl ?_
      refine wp_pure k_128 rfl rfl ?_
      refine wm_iv k_128 rfl rfl M [.int (nI r)] rfl (r := []) (Nat.le_of_ble_eq_true rfl) (Nat.le_of_ble_eq_true rfl) rfl ?_
      refine m_pieceAt M V hrl ?_
      rw [hp]
      refine ⟨rfl, ?_⟩
      refine wp_pure k_128 rfl rfl ?_
      refine wp_pure k_128 rfl rfl ?_
      refine wp_pure k_128 rfl rfl ?_
      refine wp_km k_128 rfl rfl ?_
      refine wp_br k_128 rfl rfl rfl rfl (fun _ => ?_) (fun z => absurd (nI_nm1 (by omega)) z)
      refine wp_pure k_128 rfl rfl ?_
      refine wp_kn k_128 rfl rfl ?_
      refine wp_kn k_128 rfl rfl ?_
      refine wp_is k_128 rfl (by decide) [.int a, .int (nI 0), .int (nI 4)] rfl (r := [.ref m]) (Nat.le_of_ble_eq_true rfl) (Nat.le_of_ble_eq_true rfl) rfl ?_
      refine m_in (fun z => absurd z z2) (fun _ => ⟨rfl, ?_⟩)
      refine wp_br k_128 rfl rfl rfl rfl (fun z => absurd z (show ¬ (¬ (nI 0 : Int32) = 0) by decide)) (fun _ => ?_)
      refine wp_kn k_128 rfl rfl ?_
      refine wp_br k_128 rfl rfl rfl rfl (fun _ => ?_) (fun z => absurd trivial z)
      refine wm_pi 0 M k_128 rfl rfl rfl rfl rfl rfl (fun h2 M2 => ?_)
      have V2 := V.same (g' := uF g 0 (nI 2)) (ar' := ar) ⟨uF_ne (by decide), uF_ne (by decide), uF_ne (by decide)⟩ (fun _ _ => rfl)
      refine wp_pure k_128 rfl rfl ?_
      refine wm_gi 0 M2 k_128 rfl rfl rfl rfl uF_at ?_
      refine wp_br k_128 rfl rfl rfl rfl (fun z => absurd z (show ¬ ((nI 2 : Int32) ≤ 0) by decide)) (fun _ => ?_)
      refine wp_kn k_128 rfl rfl ?_
      exact wp_irt k_128 rfl rfl rfl (K2 p (hX.trans hp) (fun ⟨w, hw, e⟩ => z2 (by rw [e]; exact in_d (by decide) hw)) _ _ _ M2 ⟨fun k hk => uF_ne hk, uF_at, fun _ _ => rfl⟩)
theorem m_inside {h0 h : sm_H} {m : Nat} {g : Nat → Int32} {ar : Nat → Nat → Int32} {Q : Nat → Option Value → sm_H → Prop} {E : Ed} {e : Nat} (M : MS h0 h m g ar) (V : MV g ar E e) {a b : Int32} (K1 : ∀ i j, i < E.1.length → j < E.1.length → a = nI i → b = nI j → atP E.1 1 i = nI 1 → atP E.1 1 j = nI 0 → ∀ h' g', MS h0 h' m g' ar → KC 0 g g' ar ar → Q 0 (some (.int (pit (insE E.1 i j) (nI 1) (nI 0)))) h') (K0 : ¬ (∃ i j, i < E.1.length ∧ j < E.1.length ∧ a = nI i ∧ b = nI j ∧ atP E.1 1 i = nI 1 ∧ atP E.1 1 j = nI 0) → ∀ h' g', MS h0 h' m g' ar → KC 1 g g' ar ar → Q 0 (some (.int (nI 0))) h') : sm_wp 130 0 [.ref m, .int a, .int b, jk] [] h Q := by
  have he := V.he
  have hn := V.hn
  have hl := V.hl
  by_cases z1 : nI 0 ≤ a ∧ a ≤ nI E.1.length - nI 1
  · obtain ⟨i, hi, rfl⟩ := in_y (by omega) z1
    by_cases z2 : nI 0 ≤ b ∧ b ≤ nI E.1.length - nI 1
    · obtain ⟨j, hj, rfl⟩ := in_y (by omega) z2
      refine wp_pure k_130 rfl rfl ?_
      refine wp_kn k_130 rfl rfl ?_
      refine wp_pure k_130 rfl rfl ?_
      refine wm_iv k_130 rfl rfl M [] rfl (r := [.int (nI 0), .int (nI i)]) (Nat.le_of_ble_eq_true rfl) (Nat.le_of_ble_eq_true rfl) rfl ?_
      refine wp_pure k_109 rfl rfl ?_
      refine wm_ga 4 M k_109 rfl rfl rfl (by decide) ?_
      refine wp_pure k_109 rfl rfl ?_
      refine wm_gi 3 M k_109 rfl rfl rfl rfl V.h3 ?_
      refine wm_al 4 M k_109 rfl rfl (by decide) rfl (show e < 8 by omega) (v := nI E.1.length) V.n4 ?_
      refine wp_irt k_109 rfl rfl rfl ⟨rfl, ?_⟩
      refine wp_kn k_130 rfl rfl ?_
      refine wp_isub k_130 rfl ?_
      refine wp_is k_130 rfl (by decide) [.int (nI i), .int (nI 0), .int ((nI E.1.length) - (nI 1))] rfl (r := []) (Nat.le_of_ble_eq_true rfl) (Nat.le_of_ble_eq_true rfl) rfl ?_
      refine m_in (fun _ => ⟨rfl, ?_⟩) (fun z => absurd z1 z)
      refine wp_br k_130 rfl rfl rfl rfl (fun z => absurd z (show ¬ ((nI 1 : Int32) = 0) by decide)) (fun _ => ?_)
      refine wp_pure k_130 rfl rfl ?_
      refine wp_kn k_130 rfl rfl ?_
      refine wp_pure k_130 rfl rfl ?_
      refine wm_iv k_130 rfl rfl M [] rfl (r := [.int (nI 0), .int (nI j)]) (Nat.le_of_ble_eq_true rfl) (Nat.le_of_ble_eq_true rfl) rfl ?_
      refine wp_pure k_109 rfl rfl ?_
      refine wm_ga 4 M k_109 rfl rfl rfl (by decide) ?_
      refine wp_pure k_109 rfl rfl ?_
      refine wm_gi 3 M k_109 rfl rfl rfl rfl V.h3 ?_
      refine wm_al 4 M k_109 rfl rfl (by decide) rfl (show e < 8 by omega) (v := nI E.1.length) V.n4 ?_
      refine wp_irt k_109 rfl rfl rfl ⟨rfl, ?_⟩
      refine wp_kn k_130 rfl rfl ?_
      refine wp_isub k_130 rfl ?_
      refine wp_is k_130 rfl (by decide) [.int (nI j), .int (nI 0), .int ((nI E.1.length) - (nI 1))] rfl (r := []) (Nat.le_of_ble_eq_true rfl) (Nat.le_of_ble_eq_true rfl) rfl ?_
      refine m_in (fun _ => ⟨rfl, ?_⟩) (fun z => absurd z2 z)
      refine wp_br k_130 rfl rfl rfl rfl (fun z => absurd z (show ¬ ((nI 1 : Int32) = 0) by decide)) (fun _ => ?_)
      refine wp_kn k_130 rfl rfl ?_
      refine wp_br k_130 rfl rfl rfl rfl (fun _ => ?_) (fun z => absurd trivial z)
      refine wp_pure k_130 rfl rfl ?_
      refine wp_pure k_130 rfl rfl ?_
      refine wp_br k_130 rfl rfl rfl rfl (fun z => absurd z (show ¬ ((nI 1 : Int32) = 0) by decide)) (fun _ => ?_)
      refine wp_pure k_130 rfl rfl ?_
      refine wp_pure k_130 rfl rfl ?_
      refine wm_iv k_130 rfl rfl M [.int (nI i)] rfl (r := []) (Nat.le_of_ble_eq_true rfl) (Nat.le_of_ble_eq_true rfl) rfl ?_
      refine wp_pure k_112 rfl rfl ?_
      refine wm_ga 5 M k_112 rfl rfl rfl (by decide) ?_
      refine wp_pure k_112 rfl rfl ?_
      refine wm_iv k_112 rfl rfl M [] rfl (r := [.ref (m + mo 5)]) (Nat.le_of_ble_eq_true rfl) (Nat.le_of_ble_eq_true rfl) rfl ?_
      refine wp_kn k_110 rfl rfl ?_
      refine wp_pure k_110 rfl rfl ?_
      refine wm_gi 3 M k_110 rfl rfl rfl rfl V.h3 ?_
      refine wp_mulN k_110 rfl ?_
      refine wp_irt k_110 rfl rfl rfl ⟨rfl, ?_⟩
      refine wp_pure k_112 rfl rfl ?_
      refine wp_addN k_112 rfl ?_
      refine wm_al 5 M k_112 rfl rfl (by decide) rfl (show (60 * e) + i < 480 by omega) (v := atP E.1 1 i) (V.p5 i (by omega)) ?_
      refine wp_irt k_112 rfl rfl rfl ⟨rfl, ?_⟩
      refine wp_kn k_130 rfl rfl ?_
      refine wp_br k_130 rfl rfl rfl rfl (fun (z44 : ¬ atP E.1 1 i = nI 1) => ?_) (fun (z44 : ¬ (¬ atP E.1 1 i = nI 1)) => ?_)
      · refine wp_kn k_130 rfl rfl ?_
        refine wp_pure k_130 rfl rfl ?_
        refine wp_pure k_130 rfl rfl ?_
        refine wp_pure k_130 rfl rfl ?_
        refine wp_br k_130 rfl rfl rfl rfl (fun _ => ?_) (fun z => absurd (show (nI 0 : Int32) = 0 by decide) z)
        refine wp_kn k_130 rfl rfl ?_
        refine wm_pi 0 M k_130 rfl rfl rfl rfl rfl rfl (fun h3 M3 => ?_)
        have V3 := V.same (g' := uF g 0 (nI 1)) (ar' := ar) ⟨uF_ne (by decide), uF_ne (by decide), uF_ne (by decide)⟩ (fun _ _ => rfl)
        refine wp_pure k_130 rfl rfl ?_
        refine wp_br k_130 rfl rfl rfl rfl (fun _ => ?_) (fun z => absurd (show (nI 0 : Int32) = 0 by decide) z)
        refine wp_kn k_130 rfl rfl ?_
        exact wp_irt k_130 rfl rfl rfl (K0 (fun ⟨i9, j9, h1, h2, e1, e2, k1, k2⟩ => by
          have e1 := (nI_eq (by omega) (by omega)).mp e1
          have e2 := (nI_eq (by omega) (by omega)).mp e2
          subst e1
          subst e2
          exact z44 k1) _ _ M3 ⟨fun k hk => uF_ne hk, uF_at, fun _ _ => rfl⟩)
      · refine wp_pure k_130 rfl rfl ?_
        refine wp_pure k_130 rfl rfl ?_
        refine wm_iv k_130 rfl rfl M [.int (nI j)] rfl (r := []) (Nat.le_of_ble_eq_true rfl) (Nat.le_of_ble_eq_true rfl) rfl ?_
        refine wp_pure k_112 rfl rfl ?_
        refine wm_ga 5 M k_112 rfl rfl rfl (by decide) ?_
        refine wp_pure k_112 rfl rfl ?_
        refine wm_iv k_112 rfl rfl M [] rfl (r := [.ref (m + mo 5)]) (Nat.le_of_ble_eq_true rfl) (Nat.le_of_ble_eq_true rfl) rfl ?_
        refine wp_kn k_110 rfl rfl ?_
        refine wp_pure k_110 rfl rfl ?_
        refine wm_gi 3 M k_110 rfl rfl rfl rfl V.h3 ?_
        refine wp_mulN k_110 rfl ?_
        refine wp_irt k_110 rfl rfl rfl ⟨rfl, ?_⟩
        refine wp_pure k_112 rfl rfl ?_
        refine wp_addN k_112 rfl ?_
        refine wm_al 5 M k_112 rfl rfl (by decide) rfl (show (60 * e) + j < 480 by omega) (v := atP E.1 1 j) (V.p5 j (by omega)) ?_
        refine wp_irt k_112 rfl rfl rfl ⟨rfl, ?_⟩
        refine wp_br k_130 rfl rfl rfl rfl (fun (z52 : ¬ atP E.1 1 j = 0) => ?_) (fun (z52 : ¬ (¬ atP E.1 1 j = 0)) => ?_)
        · refine wp_kn k_130 rfl rfl ?_
          refine wp_pure k_130 rfl rfl ?_
          refine wp_pure k_130 rfl rfl ?_
          refine wp_pure k_130 rfl rfl ?_
          refine wp_br k_130 rfl rfl rfl rfl (fun _ => ?_) (fun z => absurd (show (nI 0 : Int32) = 0 by decide) z)
          refine wp_kn k_130 rfl rfl ?_
          refine wm_pi 0 M k_130 rfl rfl rfl rfl rfl rfl (fun h4 M4 => ?_)
          have V4 := V.same (g' := uF g 0 (nI 1)) (ar' := ar) ⟨uF_ne (by decide), uF_ne (by decide), uF_ne (by decide)⟩ (fun _ _ => rfl)
          refine wp_pure k_130 rfl rfl ?_
          refine wp_br k_130 rfl rfl rfl rfl (fun _ => ?_) (fun z => absurd (show (nI 0 : Int32) = 0 by decide) z)
          refine wp_kn k_130 rfl rfl ?_
          exact wp_irt k_130 rfl rfl rfl (K0 (fun ⟨i9, j9, h1, h2, e1, e2, k1, k2⟩ => by
            have e1 := (nI_eq (by omega) (by omega)).mp e1
            have e2 := (nI_eq (by omega) (by omega)).mp e2
            subst e1
            subst e2
            exact z52 k2) _ _ M4 ⟨fun k hk => uF_ne hk, uF_at, fun _ _ => rfl⟩)
        · refine wp_kn k_130 rfl rfl ?_
          refine wp_br k_130 rfl rfl rfl rfl (fun _ => ?_) (fun z => absurd trivial z)
          refine wp_pure k_130 rfl rfl ?_
          refine wp_pure k_130 rfl rfl ?_
          refine wp_pure k_130 rfl rfl ?_
          refine wp_br k_130 rfl rfl rfl rfl (fun z => absurd z (show ¬ ((nI 1 : Int32) = 0) by decide)) (fun _ => ?_)
          refine wp_kn k_130 rfl rfl ?_
          refine wp_br k_130 rfl rfl rfl rfl (fun _ => ?_) (fun z => absurd trivial z)
          refine wm_pi 0 M k_130 rfl rfl rfl rfl rfl rfl (fun h5 M5 => ?_)
          have V5 := V.same (g' := uF g 0 (nI 0)) (ar' := ar) ⟨uF_ne (by decide), uF_ne (by decide), uF_ne (by decide)⟩ (fun _ _ => rfl)
          refine wp_pure k_130 rfl rfl ?_
          refine wp_br k_130 rfl rfl rfl rfl (fun z => absurd z (show ¬ ((nI 1 : Int32) = 0) by decide)) (fun _ => ?_)
          refine wp_pure k_130 rfl rfl ?_
          refine wp_pure k_130 rfl rfl ?_
          refine wp_pure k_130 rfl rfl ?_
          refine wm_iv k_130 rfl rfl M5 [.int (nI i), .int (nI j)] rfl (r := []) (Nat.le_of_ble_eq_true rfl) (Nat.le_of_ble_eq_true rfl) rfl ?_
          refine m_isInside M5 V5 hi hj (fun zi => ⟨rfl, ?_⟩) (fun zi => ⟨rfl, ?_⟩)
          · refine wp_br k_130 rfl rfl rfl rfl (fun z => absurd z (show ¬ ((nI 1 : Int32) = 0) by decide)) (fun _ => ?_)
            refine wp_kn k_130 rfl rfl ?_
            refine wp_br k_130 rfl rfl rfl rfl (fun _ => ?_) (fun z => absurd trivial z)
            have e := K1 i j hi hj rfl rfl (Classical.not_not.mp z44) (Classical.not_not.mp z52) _ _ M5 ⟨fun k hk => uF_ne hk, uF_at, fun _ _ => rfl⟩
            rw [pit_y zi] at e
            exact wp_irt k_130 rfl rfl rfl e
          · refine wp_br k_130 rfl rfl rfl rfl (fun _ => ?_) (fun z => absurd (show (nI 0 : Int32) = 0 by decide) z)
            refine wp_kn k_130 rfl rfl ?_
            have e := K1 i j hi hj rfl rfl (Classical.not_not.mp z44) (Classical.not_not.mp z52) _ _ M5 ⟨fun k hk => uF_ne hk, uF_at, fun _ _ => rfl⟩
            rw [pit_n zi] at e
            exact wp_irt k_130 rfl rfl rfl e
    · skip
      refine wp_pure k_130 rfl rfl ?_
      refine wp_kn k_130 rfl rfl ?_
      refine wp_pure k_130 rfl rfl ?_
      refine wm_iv k_130 rfl rfl M [] rfl (r := [.int (nI 0), .int (nI i)]) (Nat.le_of_ble_eq_true rfl) (Nat.le_of_ble_eq_true rfl) rfl ?_
      refine wp_pure k_109 rfl rfl ?_
      refine wm_ga 4 M k_109 rfl rfl rfl (by decide) ?_
      refine wp_pure k_109 rfl rfl ?_
      refine wm_gi 3 M k_109 rfl rfl rfl rfl V.h3 ?_
      refine wm_al 4 M k_109 rfl rfl (by decide) rfl (show e < 8 by omega) (v := nI E.1.length) V.n4 ?_
      refine wp_irt k_109 rfl rfl rfl ⟨rfl, ?_⟩
      refine wp_kn k_130 rfl rfl ?_
      refine wp_isub k_130 rfl ?_
      refine wp_is k_130 rfl (by decide) [.int (nI i), .int (nI 0), .int ((nI E.1.length) - (nI 1))] rfl (r := []) (Nat.le_of_ble_eq_true rfl) (Nat.le_of_ble_eq_true rfl) rfl ?_
      refine m_in (fun _ => ⟨rfl, ?_⟩) (fun z => absurd z1 z)
      refine wp_br k_130 rfl rfl rfl rfl (fun z => absurd z (show ¬ ((nI 1 : Int32) = 0) by decide)) (fun _ => ?_)
      refine wp_pure k_130 rfl rfl ?_
      refine wp_kn k_130 rfl rfl ?_
      refine wp_pure k_130 rfl rfl ?_
      refine wm_iv k_130 rfl rfl M [] rfl (r := [.int (nI 0), .int b]) (Nat.le_of_ble_eq_true rfl) (Nat.le_of_ble_eq_true rfl) rfl ?_
      refine wp_pure k_109 rfl rfl ?_
      refine wm_ga 4 M k_109 rfl rfl rfl (by decide) ?_
      refine wp_pure k_109 rfl rfl ?_
      refine wm_gi 3 M k_109 rfl rfl rfl rfl V.h3 ?_
      refine wm_al 4 M k_109 rfl rfl (by decide) rfl (show e < 8 by omega) (v := nI E.1.length) V.n4 ?_
      refine wp_irt k_109 rfl rfl rfl ⟨rfl, ?_⟩
      refine wp_kn k_130 rfl rfl ?_
      refine wp_isub k_130 rfl ?_
      refine wp_is k_130 rfl (by decide) [.int b, .int (nI 0), .int ((nI E.1.length) - (nI 1))] rfl (r := []) (Nat.le_of_ble_eq_true rfl) (Nat.le_of_ble_eq_true rfl) rfl ?_
      refine m_in (fun z => absurd z z2) (fun _ => ⟨rfl, ?_⟩)
      refine wp_br k_130 rfl rfl rfl rfl (fun _ => ?_) (fun z => absurd (show (nI 0 : Int32) = 0 by decide) z)
      refine wp_kn k_130 rfl rfl ?_
      refine wp_pure k_130 rfl rfl ?_
      refine wp_pure k_130 rfl rfl ?_
      refine wp_br k_130 rfl rfl rfl rfl (fun _ => ?_) (fun z => absurd (show (nI 0 : Int32) = 0 by decide) z)
      refine wp_pure k_130 rfl rfl ?_
      refine wp_pure k_130 rfl rfl ?_
      refine wp_br k_130 rfl rfl rfl rfl (fun _ => ?_) (fun z => absurd (show (nI 0 : Int32) = 0 by decide) z)
      refine wp_kn k_130 rfl rfl ?_
      refine wm_pi 0 M k_130 rfl rfl rfl rfl rfl rfl (fun h3 M3 => ?_)
      have V3 := V.same (g' := uF g 0 (nI 1)) (ar' := ar) ⟨uF_ne (by decide), uF_ne (by decide), uF_ne (by decide)⟩ (fun _ _ => rfl)
      refine wp_pure k_130 rfl rfl ?_
      refine wp_br k_130 rfl rfl rfl rfl (fun _ => ?_) (fun z => absurd (show (nI 0 : Int32) = 0 by decide) z)
      refine wp_kn k_130 rfl rfl ?_
      exact wp_irt k_130 rfl rfl rfl (K0 (fun ⟨i9, j9, h1, h2, e1, e2, _⟩ => z2 (by rw [e2]; exact in_n (by omega) h2)) _ _ M3 ⟨fun k hk => uF_ne hk, uF_at, fun _ _ => rfl⟩)
  · skip
    refine wp_pure k_130 rfl rfl ?_
    refine wp_kn k_130 rfl rfl ?_
    refine wp_pure k_130 rfl rfl ?_
    refine wm_iv k_130 rfl rfl M [] rfl (r := [.int (nI 0), .int a]) (Nat.le_of_ble_eq_true rfl) (Nat.le_of_ble_eq_true rfl) rfl ?_
    refine wp_pure k_109 rfl rfl ?_
    refine wm_ga 4 M k_109 rfl rfl rfl (by decide) ?_
    refine wp_pure k_109 rfl rfl ?_
    refine wm_gi 3 M k_109 rfl rfl rfl rfl V.h3 ?_
    refine wm_al 4 M k_109 rfl rfl (by decide) rfl (show e < 8 by omega) (v := nI E.1.length) V.n4 ?_
    refine wp_irt k_109 rfl rfl rfl ⟨rfl, ?_⟩
    refine wp_kn k_130 rfl rfl ?_
    refine wp_isub k_130 rfl ?_
    refine wp_is k_130 rfl (by decide) [.int a, .int (nI 0), .int ((nI E.1.length) - (nI 1))] rfl (r := []) (Nat.le_of_ble_eq_true rfl) (Nat.le_of_ble_eq_true rfl) rfl ?_
    refine m_in (fun z => absurd z z1) (fun _ => ⟨rfl, ?_⟩)
    refine wp_br k_130 rfl rfl rfl rfl (fun _ => ?_) (fun z => absurd (show (nI 0 : Int32) = 0 by decide) z)
    refine wp_kn k_130 rfl rfl ?_
    refine wp_pure k_130 rfl rfl ?_
    refine wp_pure k_130 rfl rfl ?_
    refine wp_br k_130 rfl rfl rfl rfl (fun _ => ?_) (fun z => absurd (show (nI 0 : Int32) = 0 by decide) z)
    refine wp_pure k_130 rfl rfl ?_
    refine wp_pure k_130 rfl rfl ?_
    refine wp_br k_130 rfl rfl rfl rfl (fun _ => ?_) (fun z => absurd (show (nI 0 : Int32) = 0 by decide) z)
    refine wp_kn k_130 rfl rfl ?_
    refine wm_pi 0 M k_130 rfl rfl rfl rfl rfl rfl (fun h2 M2 => ?_)
    have V2 := V.same (g' := uF g 0 (nI 1)) (ar' := ar) ⟨uF_ne (by decide), uF_ne (by decide), uF_ne (by decide)⟩ (fun _ _ => rfl)
    refine wp_pure k_130 rfl rfl ?_
    refine wp_br k_130 rfl rfl rfl rfl (fun _ => ?_) (fun z => absurd (show (nI 0 : Int32) = 0 by decide) z)
    refine wp_kn k_130 rfl rfl ?_
    exact wp_irt k_130 rfl rfl rfl (K0 (fun ⟨i9, j9, h1, h2, e1, e2, _⟩ => z1 (by rw [e1]; exact in_n (by omega) h1)) _ _ M2 ⟨fun k hk => uF_ne hk, uF_at, fun _ _ => rfl⟩)
