/-! THE LAW's ROADS -/
def RMk (h h' : sm_H) (σ σ' : Sg) : Prop := hT h' + 2 * sLen σ' + 400 * (sEd σ).length ≤ hT h + 2 * sLen σ + 400 * (sEd σ').length + 64 ∧ hU h' + 1200 * sLen σ' + 82000 * (sEd σ).length ≤ hU h + 1200 * sLen σ + 82000 * (sEd σ').length + 8400 ∧ sLen σ' ≤ sLen σ + 1
theorem RMk.z {h h' : sm_H} {σ σ' : Sg} (t : hT h' ≤ hT h + 1) (u : hU h' ≤ hU h + 6) (e1 : sLen σ' = sLen σ) (e2 : (sEd σ').length = (sEd σ).length) : RMk h h' σ σ' := by
  refine ⟨?_, ?_, by omega⟩ <;> rw [e1, e2] <;> omega
theorem RMk.d {h h' : sm_H} {σ σ' : Sg} (t : hT h' ≤ hT h + 60) (u : hU h' ≤ hU h + 8040) (e1 : sLen σ' = sLen σ) (e2 : (sEd σ').length = (sEd σ).length) : RMk h h' σ σ' := by
  refine ⟨?_, ?_, by omega⟩ <;> rw [e1, e2] <;> omega
theorem RMk.s {h h' : sm_H} {σ : Sg} {c : Int32} (t : hT h' ≤ hT h) (u : hU h' ≤ hU h) : RMk h h' σ (sgS σ c) := by
  refine ⟨?_, ?_, Nat.le_refl _⟩
  · show hT h' + 2 * (sLen σ + 1) + 400 * (sEd σ).length ≤ hT h + 2 * sLen σ + 400 * (sEd σ).length + 64
    omega
  · show hU h' + 1200 * (sLen σ + 1) + 82000 * (sEd σ).length ≤ hU h + 1200 * sLen σ + 82000 * (sEd σ).length + 8400
    omega
theorem RMk.c {h h' : sm_H} {σ : Sg} (t : hT h' ≤ hT h + (2 * sLen σ + 21)) (u : hU h' ≤ hU h + (1200 * sLen σ + 6106)) : RMk h h' σ (clS σ) := by
  refine ⟨?_, ?_, Nat.zero_le _⟩
  · show hT h' + 2 * 0 + 400 * (sEd σ).length ≤ hT h + 2 * sLen σ + 400 * (sEd σ).length + 64
    omega
  · show hU h' + 1200 * 0 + 82000 * (sEd σ).length ≤ hU h + 1200 * sLen σ + 82000 * (sEd σ).length + 8400
    omega
theorem RMk.t {h h' : sm_H} {σ : Sg} {E : Ed} (t : hT h' ≤ hT h + (2 * sLen σ + 390)) (u : hU h' ≤ hU h + (1200 * sLen σ + 82000)) : RMk h h' σ (tkS σ E) := by
  have e : (sEd (tkS σ E)).length = (sEd σ).length + 1 := by
    show (sEd σ ++ [E.1]).length = _
    rw [List.length_append]; rfl
  refine ⟨?_, ?_, Nat.zero_le _⟩ <;> rw [e]
  · show hT h' + 2 * 0 + 400 * (sEd σ).length ≤ hT h + 2 * sLen σ + 400 * ((sEd σ).length + 1) + 64
    omega
  · show hU h' + 1200 * 0 + 82000 * (sEd σ).length ≤ hU h + 1200 * sLen σ + 82000 * ((sEd σ).length + 1) + 8400
    omega
set_option maxRecDepth 8000 in
theorem law_sign {h : sm_H} {Q : Nat → Option Value → sm_H → Prop} {x mr o b z L : Nat} {xs : Nat → Int32} {σ : Sg} {t : Int32} {i : Nat} {y5 y6 : Value} (G : GW h x mr o b z L xs σ σ t) (S : SI σ) (hl : sLen σ < 600) (hi : i + 4 ≤ L) (hL : L ≤ 2048) (T : ∀ h' σ' t' z5 z6, GW h' x mr o b z L xs σ' σ' t' → SI σ' → RMk h h' σ σ' → sm_wp 169 771 [.ref b, .ref x, .ref mr, .ref o, .int (nI i), z5, z6] [] h' Q) : sm_wp 169 108 [.ref b, .ref x, .ref mr, .ref o, .int (nI i), y5, y6] [] h Q := by
  by_cases hok : okS (xs (i + 1))
  · skip
    refine wp_pure k_169 rfl rfl ?_
    refine wp_pure k_169 rfl rfl ?_
    refine wp_pure k_169 rfl rfl ?_
    refine wp_kn k_169 rfl rfl ?_
    refine wp_addN k_169 rfl ?_
    refine wp_iald k_169 rfl (cTy G.2.1.1 rfl) (nLt G.2.1.2.1 (show i + 1 < L by omega)) (nLb G.2.1.2.1 (by omega)) (G.2.1.2.2.1 (i + 1) (by omega)) ?_
    refine wp_is k_169 rfl (by decide) [.ref x, .int (xs (i + 1))] rfl (r := []) (Nat.le_of_ble_eq_true rfl) (Nat.le_of_ble_eq_true rfl) rfl ?_
    refine l_sign_y G S hl hok (fun h1 G1 t1 u1 => ⟨rfl, ?_⟩)
    refine wp_pure k_169 rfl rfl ?_
    refine wp_pure k_169 rfl rfl ?_
    refine wp_pure k_169 rfl rfl ?_
    refine wp_pure k_169 rfl rfl ?_
    refine wp_kn k_169 rfl rfl ?_
    refine wp_addN k_169 rfl ?_
    refine wp_iald k_169 rfl (cTy G1.2.1.1 rfl) (nLt G1.2.1.2.1 (show i + 1 < L by omega)) (nLb G1.2.1.2.1 (by omega)) (G1.2.1.2.2.1 (i + 1) (by omega)) ?_
    refine wp_iv k_169 rfl [.int (xs (i + 1))] rfl G1.mk25 (r := []) (Nat.le_of_ble_eq_true rfl) (Nat.le_of_ble_eq_true rfl) rfl ?_
    refine r_sign_y G1 hl hok (fun h2 G2 t2 u2 o2 => ⟨rfl, ?_⟩)
    refine wp_pure k_169 rfl rfl ?_
    refine wp_iv k_169 rfl [] rfl G2.mk25 (r := []) (Nat.le_of_ble_eq_true rfl) (Nat.le_of_ble_eq_true rfl) rfl ?_
    refine r_thrown G2 ⟨rfl, ?_⟩
    refine wp_pure k_169 rfl rfl ?_
    refine wp_br k_169 rfl rfl rfl rfl (fun _ => ?_) (fun z => absurd (show nI 0 = nI 0 by decide) z)
    refine wp_br k_169 rfl rfl rfl rfl (fun _ => ?_) (fun z => absurd trivial z)
    exact T h2 _ _ _ _ G2 (S.sg (okS_d hok)) (RMk.s (by omega) (by omega))
  · skip
    refine wp_pure k_169 rfl rfl ?_
    refine wp_pure k_169 rfl rfl ?_
    refine wp_pure k_169 rfl rfl ?_
    refine wp_kn k_169 rfl rfl ?_
    refine wp_addN k_169 rfl ?_
    refine wp_iald k_169 rfl (cTy G.2.1.1 rfl) (nLt G.2.1.2.1 (show i + 1 < L by omega)) (nLb G.2.1.2.1 (by omega)) (G.2.1.2.2.1 (i + 1) (by omega)) ?_
    refine wp_is k_169 rfl (by decide) [.ref x, .int (xs (i + 1))] rfl (r := []) (Nat.le_of_ble_eq_true rfl) (Nat.le_of_ble_eq_true rfl) rfl ?_
    refine l_sign_n G S hl hok (fun h1 G1 t1 u1 => ⟨rfl, ?_⟩)
    refine wp_pure k_169 rfl rfl ?_
    refine wp_pure k_169 rfl rfl ?_
    refine wp_pure k_169 rfl rfl ?_
    refine wp_pure k_169 rfl rfl ?_
    refine wp_kn k_169 rfl rfl ?_
    refine wp_addN k_169 rfl ?_
    refine wp_iald k_169 rfl (cTy G1.2.1.1 rfl) (nLt G1.2.1.2.1 (show i + 1 < L by omega)) (nLb G1.2.1.2.1 (by omega)) (G1.2.1.2.2.1 (i + 1) (by omega)) ?_
    refine wp_iv k_169 rfl [.int (xs (i + 1))] rfl G1.mk25 (r := []) (Nat.le_of_ble_eq_true rfl) (Nat.le_of_ble_eq_true rfl) rfl ?_
    refine r_sign_n G1 hl hok (fun h2 G2 t2 u2 o2 => ⟨rfl, ?_⟩)
    refine wp_pure k_169 rfl rfl ?_
    refine wp_iv k_169 rfl [] rfl G2.mk25 (r := []) (Nat.le_of_ble_eq_true rfl) (Nat.le_of_ble_eq_true rfl) rfl ?_
    refine r_thrown G2 ⟨rfl, ?_⟩
    refine wp_pure k_169 rfl rfl ?_
    refine wp_br k_169 rfl rfl rfl rfl (fun _ => ?_) (fun z => absurd (show nI 1 = nI 1 by decide) z)
    refine wp_br k_169 rfl rfl rfl rfl (fun _ => ?_) (fun z => absurd trivial z)
    exact T h2 _ _ _ _ G2 S (RMk.z (by omega) (by omega) rfl rfl)
set_option maxRecDepth 8000 in
theorem law_read {h : sm_H} {Q : Nat → Option Value → sm_H → Prop} {x mr o b z L : Nat} {xs : Nat → Int32} {σ : Sg} {t : Int32} {i : Nat} {y5 y6 : Value} (G : GW h x mr o b z L xs σ σ t) (S : SI σ) (hl : sLen σ < 600) (hi : i + 4 ≤ L) (hL : L ≤ 2048) (T : ∀ h' σ' t' z5 z6, GW h' x mr o b z L xs σ' σ' t' → SI σ' → RMk h h' σ σ' → sm_wp 169 771 [.ref b, .ref x, .ref mr, .ref o, .int (nI i), z5, z6] [] h' Q) : sm_wp 169 144 [.ref b, .ref x, .ref mr, .ref o, .int (nI i), y5, y6] [] h Q := by
  have hl6 : sLen σ ≤ 600 := by omega
  cases hm : textM (sTx σ) (sLen σ) (sLen σ) ([], [], []) 0 with
  | error q =>
    refine wp_pure k_169 rfl rfl ?_
    refine wp_pure k_169 rfl rfl ?_
    refine wp_is k_169 rfl (by decide) [.ref x, .ref o] rfl (r := []) (Nat.le_of_ble_eq_true rfl) (Nat.le_of_ble_eq_true rfl) rfl ?_
    refine l_read_e G S hl6 hm (fun h1 G1 o1 g1 t1 u1 => ⟨rfl, ?_⟩)
    refine wp_pure k_169 rfl rfl ?_
    refine wp_pure k_169 rfl rfl ?_
    refine wp_iv k_169 rfl [] rfl G1.mk25 (r := []) (Nat.le_of_ble_eq_true rfl) (Nat.le_of_ble_eq_true rfl) rfl ?_
    refine r_read_e G1 hm (fun h2 G2 t2 u2 o2 => ⟨rfl, ?_⟩)
    refine wp_pure k_169 rfl rfl ?_
    refine wp_pure k_169 rfl rfl ?_
    refine wp_iv k_169 rfl [] rfl G2.mk25 (r := []) (Nat.le_of_ble_eq_true rfl) (Nat.le_of_ble_eq_true rfl) rfl ?_
    refine r_thrown G2 ⟨rfl, ?_⟩
    refine wp_pure k_169 rfl rfl ?_
    refine wp_br k_169 rfl rfl rfl rfl (fun _ => ?_) (fun z => absurd (show nI 0 = nI 0 by decide) z)
    refine wp_pure k_169 rfl rfl ?_
    refine wp_br k_169 rfl rfl rfl rfl (fun z => absurd z (show ¬ (¬ (nI 0 : Int32) = 0) by decide)) (fun _ => ?_)
    refine wp_pure k_169 rfl rfl ?_
    refine wp_kn k_169 rfl rfl ?_
    refine wp_lald k_169 rfl (cTy G2.2.1.2.2.2.1 rfl) (nLt G2.2.1.2.2.2.2.1 (show 0 < 1 by omega)) (nLb G2.2.1.2.2.2.2.1 (by omega)) (o2.trans o1) ?_
    refine wp_pure k_169 rfl rfl ?_
    refine wp_i2l k_169 rfl ?_
    refine wp_lcmp k_169 rfl ?_
    refine wp_br k_169 rfl rfl rfl rfl (fun _ => ?_) (fun z => absurd ((lg_cmp_eq _ _).mpr rfl) z)
    refine wp_br k_169 rfl rfl rfl rfl (fun _ => ?_) (fun z => absurd trivial z)
    exact T h2 _ _ _ _ G2 S.cl (RMk.c (by omega) (by omega))
  | ok E =>
    by_cases hb : tooB σ E
    · skip
      refine wp_pure k_169 rfl rfl ?_
      refine wp_pure k_169 rfl rfl ?_
      refine wp_is k_169 rfl (by decide) [.ref x, .ref o] rfl (r := []) (Nat.le_of_ble_eq_true rfl) (Nat.le_of_ble_eq_true rfl) rfl ?_
      refine l_read_f G S hl6 hm hb (fun h1 G1 g1 t1 u1 => ⟨rfl, ?_⟩)
      refine wp_pure k_169 rfl rfl ?_
      refine wp_pure k_169 rfl rfl ?_
      refine wp_iv k_169 rfl [] rfl G1.mk25 (r := []) (Nat.le_of_ble_eq_true rfl) (Nat.le_of_ble_eq_true rfl) rfl ?_
      refine r_read_f G1 hm hb (fun h2 G2 t2 u2 o2 => ⟨rfl, ?_⟩)
      refine wp_pure k_169 rfl rfl ?_
      refine wp_pure k_169 rfl rfl ?_
      refine wp_iv k_169 rfl [] rfl G2.mk25 (r := []) (Nat.le_of_ble_eq_true rfl) (Nat.le_of_ble_eq_true rfl) rfl ?_
      refine r_thrown G2 ⟨rfl, ?_⟩
      refine wp_pure k_169 rfl rfl ?_
      refine wp_br k_169 rfl rfl rfl rfl (fun _ => ?_) (fun z => absurd (show nI 1 = nI 1 by decide) z)
      refine wp_pure k_169 rfl rfl ?_
      refine wp_br k_169 rfl rfl rfl rfl (fun _ => ?_) (fun z => absurd (show ¬ (nI 1 : Int32) = 0 by decide) z)
      refine wp_br k_169 rfl rfl rfl rfl (fun _ => ?_) (fun z => absurd trivial z)
      exact T h2 _ _ _ _ G2 S.cl (RMk.c (by omega) (by omega))
    · have q8 := S.2.2.2.2.1
      have s8 : (sEd σ).length < 8 := by
        have : ¬ (sEd σ).length = 8 := fun z => hb (Or.inr (Or.inr z))
        omega
      have s6 : E.1.length ≤ 60 := Nat.not_lt.mp (fun z => hb (Or.inr (Or.inl z)))
      have sw : E.2.1.length + E.2.2.length ≤ 60 := Nat.not_lt.mp (fun z => hb (Or.inl z))
      refine wp_pure k_169 rfl rfl ?_
      refine wp_pure k_169 rfl rfl ?_
      refine wp_is k_169 rfl (by decide) [.ref x, .ref o] rfl (r := []) (Nat.le_of_ble_eq_true rfl) (Nat.le_of_ble_eq_true rfl) rfl ?_
      refine l_read_t G S hl6 hm hb (fun hW h1 G1 o1 g1 t1 u1 => ⟨rfl, ?_⟩)
      refine wp_pure k_169 rfl rfl ?_
      refine wp_pure k_169 rfl rfl ?_
      refine wp_iv k_169 rfl [] rfl G1.mk25 (r := []) (Nat.le_of_ble_eq_true rfl) (Nat.le_of_ble_eq_true rfl) rfl ?_
      refine r_read_t G1 hm hb (fun h2 G2 t2 u2 o2 => ⟨rfl, ?_⟩)
      refine wp_pure k_169 rfl rfl ?_
      refine wp_pure k_169 rfl rfl ?_
      refine wp_iv k_169 rfl [] rfl G2.mk25 (r := []) (Nat.le_of_ble_eq_true rfl) (Nat.le_of_ble_eq_true rfl) rfl ?_
      refine r_thrown G2 ⟨rfl, ?_⟩
      refine wp_pure k_169 rfl rfl ?_
      refine wp_br k_169 rfl rfl rfl rfl (fun _ => ?_) (fun z => absurd (show nI 0 = nI 0 by decide) z)
      refine wp_pure k_169 rfl rfl ?_
      refine wp_br k_169 rfl rfl rfl rfl (fun z => absurd z (show ¬ (¬ (nI 0 : Int32) = 0) by decide)) (fun _ => ?_)
      refine wp_pure k_169 rfl rfl ?_
      refine wp_kn k_169 rfl rfl ?_
      refine wp_lald k_169 rfl (cTy G2.2.1.2.2.2.1 rfl) (nLt G2.2.1.2.2.2.2.1 (show 0 < 1 by omega)) (nLb G2.2.1.2.2.2.2.1 (by omega)) (o2.trans o1) ?_
      refine wp_pure k_169 rfl rfl ?_
      refine wp_i2l k_169 rfl ?_
      refine wp_lcmp k_169 rfl ?_
      refine wp_br k_169 rfl rfl rfl rfl (fun _ => ?_) (fun z => absurd ((lg_cmp_eq _ _).mpr rfl) z)
      refine wp_br k_169 rfl rfl rfl rfl (fun _ => ?_) (fun z => absurd trivial z)
      exact T h2 _ _ _ _ G2 (S.tk hW s8 s6 sw) (RMk.t (by omega) (by omega))
set_option maxRecDepth 8000 in
theorem law_place {h : sm_H} {Q : Nat → Option Value → sm_H → Prop} {x mr o b z L : Nat} {xs : Nat → Int32} {σ : Sg} {t : Int32} {i : Nat} {y5 y6 : Value} (G : GW h x mr o b z L xs σ σ t) (S : SI σ) (hl : sLen σ < 600) (hi : i + 4 ≤ L) (hL : L ≤ 2048) (T : ∀ h' σ' t' z5 z6, GW h' x mr o b z L xs σ' σ' t' → SI σ' → RMk h h' σ σ' → sm_wp 169 771 [.ref b, .ref x, .ref mr, .ref o, .int (nI i), z5, z6] [] h' Q) : sm_wp 169 188 [.ref b, .ref x, .ref mr, .ref o, .int (nI i), y5, y6] [] h Q := by
  by_cases hc : ∃ k w, k < (cE σ).1.length ∧ w ≤ 7 ∧ xs (i + 1) = nI k ∧ xs (i + 2) = nI w
  · obtain ⟨k, w, hk, hw, ei, ea⟩ := hc
    refine wp_pure k_169 rfl rfl ?_
    refine wp_pure k_169 rfl rfl ?_
    refine wp_pure k_169 rfl rfl ?_
    refine wp_kn k_169 rfl rfl ?_
    refine wp_addN k_169 rfl ?_
    refine wp_iald k_169 rfl (cTy G.2.1.1 rfl) (nLt G.2.1.2.1 (show i + 1 < L by omega)) (nLb G.2.1.2.1 (by omega)) (G.2.1.2.2.1 (i + 1) (by omega)) ?_
    refine wp_pure k_169 rfl rfl ?_
    refine wp_pure k_169 rfl rfl ?_
    refine wp_kn k_169 rfl rfl ?_
    refine wp_addN k_169 rfl ?_
    refine wp_iald k_169 rfl (cTy G.2.1.1 rfl) (nLt G.2.1.2.1 (show i + 2 < L by omega)) (nLb G.2.1.2.1 (by omega)) (G.2.1.2.2.1 (i + 2) (by omega)) ?_
    refine wp_pure k_169 rfl rfl ?_
    refine wp_is k_169 rfl (by decide) [.ref x, .int (xs (i + 1)), .int (xs (i + 2)), .ref o] rfl (r := []) (Nat.le_of_ble_eq_true rfl) (Nat.le_of_ble_eq_true rfl) rfl ?_
    refine l_place_y G S hk hw ei ea (fun h1 G1 o1 t1 u1 => ⟨rfl, ?_⟩)
    refine wp_pure k_169 rfl rfl ?_
    refine wp_pure k_169 rfl rfl ?_
    refine wp_pure k_169 rfl rfl ?_
    refine wp_pure k_169 rfl rfl ?_
    refine wp_kn k_169 rfl rfl ?_
    refine wp_addN k_169 rfl ?_
    refine wp_iald k_169 rfl (cTy G1.2.1.1 rfl) (nLt G1.2.1.2.1 (show i + 1 < L by omega)) (nLb G1.2.1.2.1 (by omega)) (G1.2.1.2.2.1 (i + 1) (by omega)) ?_
    refine wp_pure k_169 rfl rfl ?_
    refine wp_pure k_169 rfl rfl ?_
    refine wp_kn k_169 rfl rfl ?_
    refine wp_addN k_169 rfl ?_
    refine wp_iald k_169 rfl (cTy G1.2.1.1 rfl) (nLt G1.2.1.2.1 (show i + 2 < L by omega)) (nLb G1.2.1.2.1 (by omega)) (G1.2.1.2.2.1 (i + 2) (by omega)) ?_
    refine wp_iv k_169 rfl [.int (xs (i + 1)), .int (xs (i + 2))] rfl G1.mk25 (r := []) (Nat.le_of_ble_eq_true rfl) (Nat.le_of_ble_eq_true rfl) rfl ?_
    refine r_place_y G1 S hk hw ei ea (fun h2 G2 t2 u2 o2 => ⟨rfl, ?_⟩)
    refine wp_pure k_169 rfl rfl ?_
    refine wp_pure k_169 rfl rfl ?_
    refine wp_iv k_169 rfl [] rfl G2.mk25 (r := []) (Nat.le_of_ble_eq_true rfl) (Nat.le_of_ble_eq_true rfl) rfl ?_
    refine r_thrown G2 ⟨rfl, ?_⟩
    refine wp_pure k_169 rfl rfl ?_
    refine wp_br k_169 rfl rfl rfl rfl (fun _ => ?_) (fun z => absurd (show nI 0 = nI 0 by decide) z)
    refine wp_pure k_169 rfl rfl ?_
    refine wp_br k_169 rfl rfl rfl rfl (fun z => absurd z (show ¬ (¬ (nI 0 : Int32) = 0) by decide)) (fun _ => ?_)
    refine wp_pure k_169 rfl rfl ?_
    refine wp_kn k_169 rfl rfl ?_
    refine wp_lald k_169 rfl (cTy G2.2.1.2.2.2.1 rfl) (nLt G2.2.1.2.2.2.2.1 (show 0 < 1 by omega)) (nLb G2.2.1.2.2.2.2.1 (by omega)) (o2.trans o1) ?_
    refine wp_pure k_169 rfl rfl ?_
    refine wp_i2l k_169 rfl ?_
    refine wp_lcmp k_169 rfl ?_
    refine wp_br k_169 rfl rfl rfl rfl (fun _ => ?_) (fun z => absurd ((lg_cmp_eq _ _).mpr rfl) z)
    refine wp_br k_169 rfl rfl rfl rfl (fun _ => ?_) (fun z => absurd trivial z)
    exact T h2 _ _ _ _ G2 S (RMk.z (by omega) (by omega) rfl rfl)
  · skip
    refine wp_pure k_169 rfl rfl ?_
    refine wp_pure k_169 rfl rfl ?_
    refine wp_pure k_169 rfl rfl ?_
    refine wp_kn k_169 rfl rfl ?_
    refine wp_addN k_169 rfl ?_
    refine wp_iald k_169 rfl (cTy G.2.1.1 rfl) (nLt G.2.1.2.1 (show i + 1 < L by omega)) (nLb G.2.1.2.1 (by omega)) (G.2.1.2.2.1 (i + 1) (by omega)) ?_
    refine wp_pure k_169 rfl rfl ?_
    refine wp_pure k_169 rfl rfl ?_
    refine wp_kn k_169 rfl rfl ?_
    refine wp_addN k_169 rfl ?_
    refine wp_iald k_169 rfl (cTy G.2.1.1 rfl) (nLt G.2.1.2.1 (show i + 2 < L by omega)) (nLb G.2.1.2.1 (by omega)) (G.2.1.2.2.1 (i + 2) (by omega)) ?_
    refine wp_pure k_169 rfl rfl ?_
    refine wp_is k_169 rfl (by decide) [.ref x, .int (xs (i + 1)), .int (xs (i + 2)), .ref o] rfl (r := []) (Nat.le_of_ble_eq_true rfl) (Nat.le_of_ble_eq_true rfl) rfl ?_
    refine l_place_n G S hc (fun h1 G1 t1 u1 => ⟨rfl, ?_⟩)
    refine wp_pure k_169 rfl rfl ?_
    refine wp_pure k_169 rfl rfl ?_
    refine wp_pure k_169 rfl rfl ?_
    refine wp_pure k_169 rfl rfl ?_
    refine wp_kn k_169 rfl rfl ?_
    refine wp_addN k_169 rfl ?_
    refine wp_iald k_169 rfl (cTy G1.2.1.1 rfl) (nLt G1.2.1.2.1 (show i + 1 < L by omega)) (nLb G1.2.1.2.1 (by omega)) (G1.2.1.2.2.1 (i + 1) (by omega)) ?_
    refine wp_pure k_169 rfl rfl ?_
    refine wp_pure k_169 rfl rfl ?_
    refine wp_kn k_169 rfl rfl ?_
    refine wp_addN k_169 rfl ?_
    refine wp_iald k_169 rfl (cTy G1.2.1.1 rfl) (nLt G1.2.1.2.1 (show i + 2 < L by omega)) (nLb G1.2.1.2.1 (by omega)) (G1.2.1.2.2.1 (i + 2) (by omega)) ?_
    refine wp_iv k_169 rfl [.int (xs (i + 1)), .int (xs (i + 2))] rfl G1.mk25 (r := []) (Nat.le_of_ble_eq_true rfl) (Nat.le_of_ble_eq_true rfl) rfl ?_
    refine r_place_n G1 S hc (fun h2 G2 t2 u2 o2 => ⟨rfl, ?_⟩)
    refine wp_pure k_169 rfl rfl ?_
    refine wp_pure k_169 rfl rfl ?_
    refine wp_iv k_169 rfl [] rfl G2.mk25 (r := []) (Nat.le_of_ble_eq_true rfl) (Nat.le_of_ble_eq_true rfl) rfl ?_
    refine r_thrown G2 ⟨rfl, ?_⟩
    refine wp_pure k_169 rfl rfl ?_
    refine wp_br k_169 rfl rfl rfl rfl (fun _ => ?_) (fun z => absurd (show nI 1 = nI 1 by decide) z)
    refine wp_pure k_169 rfl rfl ?_
    refine wp_br k_169 rfl rfl rfl rfl (fun _ => ?_) (fun z => absurd (show ¬ (nI 1 : Int32) = 0 by decide) z)
    refine wp_br k_169 rfl rfl rfl rfl (fun _ => ?_) (fun z => absurd trivial z)
    exact T h2 _ _ _ _ G2 S (RMk.z (by omega) (by omega) rfl rfl)
set_option maxRecDepth 8000 in
theorem law_named {h : sm_H} {Q : Nat → Option Value → sm_H → Prop} {x mr o b z L : Nat} {xs : Nat → Int32} {σ : Sg} {t : Int32} {i : Nat} {y5 y6 : Value} (G : GW h x mr o b z L xs σ σ t) (S : SI σ) (hl : sLen σ < 600) (hi : i + 4 ≤ L) (hL : L ≤ 2048) (T : ∀ h' σ' t' z5 z6, GW h' x mr o b z L xs σ' σ' t' → SI σ' → RMk h h' σ σ' → sm_wp 169 771 [.ref b, .ref x, .ref mr, .ref o, .int (nI i), z5, z6] [] h' Q) : sm_wp 169 256 [.ref b, .ref x, .ref mr, .ref o, .int (nI i), y5, y6] [] h Q := by
  refine wp_pure k_169 rfl rfl ?_
  refine wp_pure k_169 rfl rfl ?_
  refine wp_pure k_169 rfl rfl ?_
  refine wp_kn k_169 rfl rfl ?_
  refine wp_addN k_169 rfl ?_
  refine wp_iald k_169 rfl (cTy G.2.1.1 rfl) (nLt G.2.1.2.1 (show i + 1 < L by omega)) (nLb G.2.1.2.1 (by omega)) (G.2.1.2.2.1 (i + 1) (by omega)) ?_
  refine wp_iv k_169 rfl [.int (xs (i + 1))] rfl G.1.xk (r := []) (Nat.le_of_ble_eq_true rfl) (Nat.le_of_ble_eq_true rfl) rfl ?_
  refine c_named G.1 S ⟨rfl, ?_⟩
  refine wp_pure k_169 rfl rfl ?_
  refine wp_pure k_169 rfl rfl ?_
  refine wp_pure k_169 rfl rfl ?_
  refine wp_kn k_169 rfl rfl ?_
  refine wp_addN k_169 rfl ?_
  refine wp_iald k_169 rfl (cTy G.2.1.1 rfl) (nLt G.2.1.2.1 (show i + 1 < L by omega)) (nLb G.2.1.2.1 (by omega)) (G.2.1.2.2.1 (i + 1) (by omega)) ?_
  refine wp_iv k_169 rfl [.int (xs (i + 1))] rfl G.mk25 (r := [.int (fIv (fI (atP (cE σ).1 0) (cE σ).1.length (xs (i + 1))))]) (Nat.le_of_ble_eq_true rfl) (Nat.le_of_ble_eq_true rfl) rfl ?_
  refine r_named G (fun h2 G2 t2 u2 o2 => ⟨rfl, ?_⟩)
  refine wp_br k_169 rfl rfl rfl rfl (fun _ => ?_) (fun z => absurd rfl z)
  exact T h2 _ _ _ _ G2 S (RMk.z (by omega) (by omega) rfl rfl)
set_option maxRecDepth 8000 in
theorem law_check {h : sm_H} {Q : Nat → Option Value → sm_H → Prop} {x mr o b z L : Nat} {xs : Nat → Int32} {σ : Sg} {t : Int32} {i : Nat} {y5 y6 : Value} (G : GW h x mr o b z L xs σ σ t) (S : SI σ) (hl : sLen σ < 600) (hi : i + 4 ≤ L) (hL : L ≤ 2048) (T : ∀ h' σ' t' z5 z6, GW h' x mr o b z L xs σ' σ' t' → SI σ' → RMk h h' σ σ' → sm_wp 169 771 [.ref b, .ref x, .ref mr, .ref o, .int (nI i), z5, z6] [] h' Q) : sm_wp 169 281 [.ref b, .ref x, .ref mr, .ref o, .int (nI i), y5, y6] [] h Q := by
  refine wp_pure k_169 rfl rfl ?_
  refine wp_iv k_169 rfl [] rfl G.1.xk (r := []) (Nat.le_of_ble_eq_true rfl) (Nat.le_of_ble_eq_true rfl) rfl ?_
  refine c_check G.1 S ⟨rfl, ?_⟩
  refine wp_pure k_169 rfl rfl ?_
  refine wp_iv k_169 rfl [] rfl G.mk25 (r := [.int (nI ((fltE (cE σ)).length))]) (Nat.le_of_ble_eq_true rfl) (Nat.le_of_ble_eq_true rfl) rfl ?_
  refine r_check G S (fun h2 G2 t2 u2 o2 => ⟨rfl, ?_⟩)
  refine wp_br k_169 rfl rfl rfl rfl (fun _ => ?_) (fun z => absurd rfl z)
  exact T h2 _ _ _ _ G2 S (RMk.z (by omega) (by omega) rfl rfl)
set_option maxRecDepth 8000 in
theorem law_count {h : sm_H} {Q : Nat → Option Value → sm_H → Prop} {x mr o b z L : Nat} {xs : Nat → Int32} {σ : Sg} {t : Int32} {i : Nat} {y5 y6 : Value} (G : GW h x mr o b z L xs σ σ t) (S : SI σ) (hl : sLen σ < 600) (hi : i + 4 ≤ L) (hL : L ≤ 2048) (T : ∀ h' σ' t' z5 z6, GW h' x mr o b z L xs σ' σ' t' → SI σ' → RMk h h' σ σ' → sm_wp 169 771 [.ref b, .ref x, .ref mr, .ref o, .int (nI i), z5, z6] [] h' Q) : sm_wp 169 746 [.ref b, .ref x, .ref mr, .ref o, .int (nI i), y5, y6] [] h Q := by
  refine wp_pure k_169 rfl rfl ?_
  refine wp_pure k_169 rfl rfl ?_
  refine wp_pure k_169 rfl rfl ?_
  refine wp_kn k_169 rfl rfl ?_
  refine wp_addN k_169 rfl ?_
  refine wp_iald k_169 rfl (cTy G.2.1.1 rfl) (nLt G.2.1.2.1 (show i + 1 < L by omega)) (nLb G.2.1.2.1 (by omega)) (G.2.1.2.2.1 (i + 1) (by omega)) ?_
  refine wp_iv k_169 rfl [.int (xs (i + 1))] rfl G.1.xk (r := []) (Nat.le_of_ble_eq_true rfl) (Nat.le_of_ble_eq_true rfl) rfl ?_
  refine c_count G.1 S ⟨rfl, ?_⟩
  refine wp_pure k_169 rfl rfl ?_
  refine wp_pure k_169 rfl rfl ?_
  refine wp_pure k_169 rfl rfl ?_
  refine wp_kn k_169 rfl rfl ?_
  refine wp_addN k_169 rfl ?_
  refine wp_iald k_169 rfl (cTy G.2.1.1 rfl) (nLt G.2.1.2.1 (show i + 1 < L by omega)) (nLb G.2.1.2.1 (by omega)) (G.2.1.2.2.1 (i + 1) (by omega)) ?_
  refine wp_iv k_169 rfl [.int (xs (i + 1))] rfl G.mk25 (r := [.int (cntV σ (xs (i + 1)))]) (Nat.le_of_ble_eq_true rfl) (Nat.le_of_ble_eq_true rfl) rfl ?_
  refine r_count G (fun h2 G2 t2 u2 o2 => ⟨rfl, ?_⟩)
  refine wp_br k_169 rfl rfl rfl rfl (fun _ => ?_) (fun z => absurd rfl z)
  exact T h2 _ _ _ _ G2 S (RMk.z (by omega) (by omega) rfl rfl)
set_option maxRecDepth 8000 in
theorem law_print {h : sm_H} {Q : Nat → Option Value → sm_H → Prop} {x mr o b z L : Nat} {xs : Nat → Int32} {σ : Sg} {t : Int32} {i : Nat} {y5 y6 : Value} (G : GW h x mr o b z L xs σ σ t) (S : SI σ) (hl : sLen σ < 600) (hi : i + 4 ≤ L) (hL : L ≤ 2048) (T : ∀ h' σ' t' z5 z6, GW h' x mr o b z L xs σ' σ' t' → SI σ' → RMk h h' σ σ' → sm_wp 169 771 [.ref b, .ref x, .ref mr, .ref o, .int (nI i), z5, z6] [] h' Q) : sm_wp 169 677 [.ref b, .ref x, .ref mr, .ref o, .int (nI i), y5, y6] [] h Q := by
  refine wp_pure k_169 rfl rfl ?_
  refine wp_iv k_169 rfl [] rfl G.1.xk (r := []) (Nat.le_of_ble_eq_true rfl) (Nat.le_of_ble_eq_true rfl) rfl ?_
  refine c_print G.1 S (fun h1 K1 s1 t1 u1 z1 => ⟨rfl, ?_⟩)
  have G1 := G.cls K1 s1 z1
  refine wp_pure k_169 rfl rfl ?_
  refine wp_iv k_169 rfl [] rfl G1.mk25 (r := [.int (nI ((plnE (sCur σ)).length))]) (Nat.le_of_ble_eq_true rfl) (Nat.le_of_ble_eq_true rfl) rfl ?_
  refine r_print G1 S (fun h2 G2 t2 u2 o2 => ⟨rfl, ?_⟩)
  refine wp_br k_169 rfl rfl rfl rfl (fun _ => ?_) (fun z => absurd rfl z)
  exact T h2 _ _ _ _ G2 S.prn (RMk.z (by omega) (by omega) rfl rfl)
set_option maxRecDepth 8000 in
theorem law_fault {h : sm_H} {Q : Nat → Option Value → sm_H → Prop} {x mr o b z L : Nat} {xs : Nat → Int32} {σ : Sg} {t : Int32} {i : Nat} {y5 y6 : Value} (G : GW h x mr o b z L xs σ σ t) (S : SI σ) (hl : sLen σ < 600) (hi : i + 4 ≤ L) (hL : L ≤ 2048) (T : ∀ h' σ' t' z5 z6, GW h' x mr o b z L xs σ' σ' t' → SI σ' → RMk h h' σ σ' → sm_wp 169 771 [.ref b, .ref x, .ref mr, .ref o, .int (nI i), z5, z6] [] h' Q) : sm_wp 169 294 [.ref b, .ref x, .ref mr, .ref o, .int (nI i), y5, y6] [] h Q := by
  by_cases hc : ∃ k, k < (fltE (cE σ)).length ∧ xs (i + 1) = nI k
  · obtain ⟨k, hk, ei⟩ := hc
    by_cases hd : ∃ w, w ≤ 2 ∧ xs (i + 2) = nI w
    · obtain ⟨w, hw, ea⟩ := hd
      refine wp_pure k_169 rfl rfl ?_
      refine wp_pure k_169 rfl rfl ?_
      refine wp_pure k_169 rfl rfl ?_
      refine wp_kn k_169 rfl rfl ?_
      refine wp_addN k_169 rfl ?_
      refine wp_iald k_169 rfl (cTy G.2.1.1 rfl) (nLt G.2.1.2.1 (show i + 1 < L by omega)) (nLb G.2.1.2.1 (by omega)) (G.2.1.2.2.1 (i + 1) (by omega)) ?_
      refine wp_pure k_169 rfl rfl ?_
      refine wp_pure k_169 rfl rfl ?_
      refine wp_kn k_169 rfl rfl ?_
      refine wp_addN k_169 rfl ?_
      refine wp_iald k_169 rfl (cTy G.2.1.1 rfl) (nLt G.2.1.2.1 (show i + 2 < L by omega)) (nLb G.2.1.2.1 (by omega)) (G.2.1.2.2.1 (i + 2) (by omega)) ?_
      refine wp_pure k_169 rfl rfl ?_
      refine wp_is k_169 rfl (by decide) [.ref x, .int (xs (i + 1)), .int (xs (i + 2)), .ref o] rfl (r := []) (Nat.le_of_ble_eq_true rfl) (Nat.le_of_ble_eq_true rfl) rfl ?_
      refine l_fault_y G S hk ei hw ea (fun h1 G1 o1 t1 u1 => ⟨rfl, ?_⟩)
      refine wp_pure k_169 rfl rfl ?_
      refine wp_pure k_169 rfl rfl ?_
      refine wp_pure k_169 rfl rfl ?_
      refine wp_pure k_169 rfl rfl ?_
      refine wp_kn k_169 rfl rfl ?_
      refine wp_addN k_169 rfl ?_
      refine wp_iald k_169 rfl (cTy G1.2.1.1 rfl) (nLt G1.2.1.2.1 (show i + 1 < L by omega)) (nLb G1.2.1.2.1 (by omega)) (G1.2.1.2.2.1 (i + 1) (by omega)) ?_
      refine wp_pure k_169 rfl rfl ?_
      refine wp_pure k_169 rfl rfl ?_
      refine wp_kn k_169 rfl rfl ?_
      refine wp_addN k_169 rfl ?_
      refine wp_iald k_169 rfl (cTy G1.2.1.1 rfl) (nLt G1.2.1.2.1 (show i + 2 < L by omega)) (nLb G1.2.1.2.1 (by omega)) (G1.2.1.2.2.1 (i + 2) (by omega)) ?_
      refine wp_iv k_169 rfl [.int (xs (i + 1)), .int (xs (i + 2))] rfl G1.mk25 (r := []) (Nat.le_of_ble_eq_true rfl) (Nat.le_of_ble_eq_true rfl) rfl ?_
      refine r_fault_y G1 S hk ei hw ea (fun h2 G2 t2 u2 o2 => ⟨rfl, ?_⟩)
      refine wp_pure k_169 rfl rfl ?_
      refine wp_pure k_169 rfl rfl ?_
      refine wp_iv k_169 rfl [] rfl G2.mk25 (r := []) (Nat.le_of_ble_eq_true rfl) (Nat.le_of_ble_eq_true rfl) rfl ?_
      refine r_thrown G2 ⟨rfl, ?_⟩
      refine wp_pure k_169 rfl rfl ?_
      refine wp_br k_169 rfl rfl rfl rfl (fun _ => ?_) (fun z => absurd (show nI 0 = nI 0 by decide) z)
      refine wp_pure k_169 rfl rfl ?_
      refine wp_br k_169 rfl rfl rfl rfl (fun z => absurd z (show ¬ (¬ (nI 0 : Int32) = 0) by decide)) (fun _ => ?_)
      refine wp_pure k_169 rfl rfl ?_
      refine wp_kn k_169 rfl rfl ?_
      refine wp_lald k_169 rfl (cTy G2.2.1.2.2.2.1 rfl) (nLt G2.2.1.2.2.2.2.1 (show 0 < 1 by omega)) (nLb G2.2.1.2.2.2.2.1 (by omega)) (o2.trans o1) ?_
      refine wp_pure k_169 rfl rfl ?_
      refine wp_i2l k_169 rfl ?_
      refine wp_lcmp k_169 rfl ?_
      refine wp_br k_169 rfl rfl rfl rfl (fun _ => ?_) (fun z => absurd ((lg_cmp_eq _ _).mpr rfl) z)
      refine wp_br k_169 rfl rfl rfl rfl (fun _ => ?_) (fun z => absurd trivial z)
      exact T h2 _ _ _ _ G2 S (RMk.z (by omega) (by omega) rfl rfl)
    · skip
      refine wp_pure k_169 rfl rfl ?_
      refine wp_pure k_169 rfl rfl ?_
      refine wp_pure k_169 rfl rfl ?_
      refine wp_kn k_169 rfl rfl ?_
      refine wp_addN k_169 rfl ?_
      refine wp_iald k_169 rfl (cTy G.2.1.1 rfl) (nLt G.2.1.2.1 (show i + 1 < L by omega)) (nLb G.2.1.2.1 (by omega)) (G.2.1.2.2.1 (i + 1) (by omega)) ?_
      refine wp_pure k_169 rfl rfl ?_
      refine wp_pure k_169 rfl rfl ?_
      refine wp_kn k_169 rfl rfl ?_
      refine wp_addN k_169 rfl ?_
      refine wp_iald k_169 rfl (cTy G.2.1.1 rfl) (nLt G.2.1.2.1 (show i + 2 < L by omega)) (nLb G.2.1.2.1 (by omega)) (G.2.1.2.2.1 (i + 2) (by omega)) ?_
      refine wp_pure k_169 rfl rfl ?_
      refine wp_is k_169 rfl (by decide) [.ref x, .int (xs (i + 1)), .int (xs (i + 2)), .ref o] rfl (r := []) (Nat.le_of_ble_eq_true rfl) (Nat.le_of_ble_eq_true rfl) rfl ?_
      refine l_fault_2 G S hk ei hd (fun h1 G1 t1 u1 => ⟨rfl, ?_⟩)
      refine wp_pure k_169 rfl rfl ?_
      refine wp_pure k_169 rfl rfl ?_
      refine wp_pure k_169 rfl rfl ?_
      refine wp_pure k_169 rfl rfl ?_
      refine wp_kn k_169 rfl rfl ?_
      refine wp_addN k_169 rfl ?_
      refine wp_iald k_169 rfl (cTy G1.2.1.1 rfl) (nLt G1.2.1.2.1 (show i + 1 < L by omega)) (nLb G1.2.1.2.1 (by omega)) (G1.2.1.2.2.1 (i + 1) (by omega)) ?_
      refine wp_pure k_169 rfl rfl ?_
      refine wp_pure k_169 rfl rfl ?_
      refine wp_kn k_169 rfl rfl ?_
      refine wp_addN k_169 rfl ?_
      refine wp_iald k_169 rfl (cTy G1.2.1.1 rfl) (nLt G1.2.1.2.1 (show i + 2 < L by omega)) (nLb G1.2.1.2.1 (by omega)) (G1.2.1.2.2.1 (i + 2) (by omega)) ?_
      refine wp_iv k_169 rfl [.int (xs (i + 1)), .int (xs (i + 2))] rfl G1.mk25 (r := []) (Nat.le_of_ble_eq_true rfl) (Nat.le_of_ble_eq_true rfl) rfl ?_
      refine r_fault_2 G1 S hk ei hd (fun h2 G2 t2 u2 o2 => ⟨rfl, ?_⟩)
      refine wp_pure k_169 rfl rfl ?_
      refine wp_pure k_169 rfl rfl ?_
      refine wp_iv k_169 rfl [] rfl G2.mk25 (r := []) (Nat.le_of_ble_eq_true rfl) (Nat.le_of_ble_eq_true rfl) rfl ?_
      refine r_thrown G2 ⟨rfl, ?_⟩
      refine wp_pure k_169 rfl rfl ?_
      refine wp_br k_169 rfl rfl rfl rfl (fun _ => ?_) (fun z => absurd (show nI 2 = nI 2 by decide) z)
      refine wp_pure k_169 rfl rfl ?_
      refine wp_br k_169 rfl rfl rfl rfl (fun _ => ?_) (fun z => absurd (show ¬ (nI 2 : Int32) = 0 by decide) z)
      refine wp_br k_169 rfl rfl rfl rfl (fun _ => ?_) (fun z => absurd trivial z)
      exact T h2 _ _ _ _ G2 S (RMk.z (by omega) (by omega) rfl rfl)
  · skip
    refine wp_pure k_169 rfl rfl ?_
    refine wp_pure k_169 rfl rfl ?_
    refine wp_pure k_169 rfl rfl ?_
    refine wp_kn k_169 rfl rfl ?_
    refine wp_addN k_169 rfl ?_
    refine wp_iald k_169 rfl (cTy G.2.1.1 rfl) (nLt G.2.1.2.1 (show i + 1 < L by omega)) (nLb G.2.1.2.1 (by omega)) (G.2.1.2.2.1 (i + 1) (by omega)) ?_
    refine wp_pure k_169 rfl rfl ?_
    refine wp_pure k_169 rfl rfl ?_
    refine wp_kn k_169 rfl rfl ?_
    refine wp_addN k_169 rfl ?_
    refine wp_iald k_169 rfl (cTy G.2.1.1 rfl) (nLt G.2.1.2.1 (show i + 2 < L by omega)) (nLb G.2.1.2.1 (by omega)) (G.2.1.2.2.1 (i + 2) (by omega)) ?_
    refine wp_pure k_169 rfl rfl ?_
    refine wp_is k_169 rfl (by decide) [.ref x, .int (xs (i + 1)), .int (xs (i + 2)), .ref o] rfl (r := []) (Nat.le_of_ble_eq_true rfl) (Nat.le_of_ble_eq_true rfl) rfl ?_
    refine l_fault_1 G S hc (fun h1 G1 t1 u1 => ⟨rfl, ?_⟩)
    refine wp_pure k_169 rfl rfl ?_
    refine wp_pure k_169 rfl rfl ?_
    refine wp_pure k_169 rfl rfl ?_
    refine wp_pure k_169 rfl rfl ?_
    refine wp_kn k_169 rfl rfl ?_
    refine wp_addN k_169 rfl ?_
    refine wp_iald k_169 rfl (cTy G1.2.1.1 rfl) (nLt G1.2.1.2.1 (show i + 1 < L by omega)) (nLb G1.2.1.2.1 (by omega)) (G1.2.1.2.2.1 (i + 1) (by omega)) ?_
    refine wp_pure k_169 rfl rfl ?_
    refine wp_pure k_169 rfl rfl ?_
    refine wp_kn k_169 rfl rfl ?_
    refine wp_addN k_169 rfl ?_
    refine wp_iald k_169 rfl (cTy G1.2.1.1 rfl) (nLt G1.2.1.2.1 (show i + 2 < L by omega)) (nLb G1.2.1.2.1 (by omega)) (G1.2.1.2.2.1 (i + 2) (by omega)) ?_
    refine wp_iv k_169 rfl [.int (xs (i + 1)), .int (xs (i + 2))] rfl G1.mk25 (r := []) (Nat.le_of_ble_eq_true rfl) (Nat.le_of_ble_eq_true rfl) rfl ?_
    refine r_fault_1 G1 S hc (fun h2 G2 t2 u2 o2 => ⟨rfl, ?_⟩)
    refine wp_pure k_169 rfl rfl ?_
    refine wp_pure k_169 rfl rfl ?_
    refine wp_iv k_169 rfl [] rfl G2.mk25 (r := []) (Nat.le_of_ble_eq_true rfl) (Nat.le_of_ble_eq_true rfl) rfl ?_
    refine r_thrown G2 ⟨rfl, ?_⟩
    refine wp_pure k_169 rfl rfl ?_
    refine wp_br k_169 rfl rfl rfl rfl (fun _ => ?_) (fun z => absurd (show nI 1 = nI 1 by decide) z)
    refine wp_pure k_169 rfl rfl ?_
    refine wp_br k_169 rfl rfl rfl rfl (fun _ => ?_) (fun z => absurd (show ¬ (nI 1 : Int32) = 0 by decide) z)
    refine wp_br k_169 rfl rfl rfl rfl (fun _ => ?_) (fun z => absurd trivial z)
    exact T h2 _ _ _ _ G2 S (RMk.z (by omega) (by omega) rfl rfl)
set_option maxRecDepth 8000 in
theorem law_piece {h : sm_H} {Q : Nat → Option Value → sm_H → Prop} {x mr o b z L : Nat} {xs : Nat → Int32} {σ : Sg} {t : Int32} {i : Nat} {y5 y6 : Value} (G : GW h x mr o b z L xs σ σ t) (S : SI σ) (hl : sLen σ < 600) (hi : i + 4 ≤ L) (hL : L ≤ 2048) (T : ∀ h' σ' t' z5 z6, GW h' x mr o b z L xs σ' σ' t' → SI σ' → RMk h h' σ σ' → sm_wp 169 771 [.ref b, .ref x, .ref mr, .ref o, .int (nI i), z5, z6] [] h' Q) : sm_wp 169 362 [.ref b, .ref x, .ref mr, .ref o, .int (nI i), y5, y6] [] h Q := by
  cases hp : pcX (cE σ).1 (xs (i + 1)) with
  | some p =>
    by_cases hd : ∃ w, w ≤ 4 ∧ xs (i + 2) = nI w
    · obtain ⟨w, hw, ea⟩ := hd
      refine wp_pure k_169 rfl rfl ?_
      refine wp_pure k_169 rfl rfl ?_
      refine wp_pure k_169 rfl rfl ?_
      refine wp_kn k_169 rfl rfl ?_
      refine wp_addN k_169 rfl ?_
      refine wp_iald k_169 rfl (cTy G.2.1.1 rfl) (nLt G.2.1.2.1 (show i + 1 < L by omega)) (nLb G.2.1.2.1 (by omega)) (G.2.1.2.2.1 (i + 1) (by omega)) ?_
      refine wp_pure k_169 rfl rfl ?_
      refine wp_pure k_169 rfl rfl ?_
      refine wp_kn k_169 rfl rfl ?_
      refine wp_addN k_169 rfl ?_
      refine wp_iald k_169 rfl (cTy G.2.1.1 rfl) (nLt G.2.1.2.1 (show i + 2 < L by omega)) (nLb G.2.1.2.1 (by omega)) (G.2.1.2.2.1 (i + 2) (by omega)) ?_
      refine wp_pure k_169 rfl rfl ?_
      refine wp_is k_169 rfl (by decide) [.ref x, .int (xs (i + 1)), .int (xs (i + 2)), .ref o] rfl (r := []) (Nat.le_of_ble_eq_true rfl) (Nat.le_of_ble_eq_true rfl) rfl ?_
      refine l_piece_y G S hp hw ea (fun h1 G1 o1 t1 u1 => ⟨rfl, ?_⟩)
      refine wp_pure k_169 rfl rfl ?_
      refine wp_pure k_169 rfl rfl ?_
      refine wp_pure k_169 rfl rfl ?_
      refine wp_pure k_169 rfl rfl ?_
      refine wp_kn k_169 rfl rfl ?_
      refine wp_addN k_169 rfl ?_
      refine wp_iald k_169 rfl (cTy G1.2.1.1 rfl) (nLt G1.2.1.2.1 (show i + 1 < L by omega)) (nLb G1.2.1.2.1 (by omega)) (G1.2.1.2.2.1 (i + 1) (by omega)) ?_
      refine wp_pure k_169 rfl rfl ?_
      refine wp_pure k_169 rfl rfl ?_
      refine wp_kn k_169 rfl rfl ?_
      refine wp_addN k_169 rfl ?_
      refine wp_iald k_169 rfl (cTy G1.2.1.1 rfl) (nLt G1.2.1.2.1 (show i + 2 < L by omega)) (nLb G1.2.1.2.1 (by omega)) (G1.2.1.2.2.1 (i + 2) (by omega)) ?_
      refine wp_iv k_169 rfl [.int (xs (i + 1)), .int (xs (i + 2))] rfl G1.mk25 (r := []) (Nat.le_of_ble_eq_true rfl) (Nat.le_of_ble_eq_true rfl) rfl ?_
      refine r_piece_y G1 S hp hw ea (fun h2 G2 t2 u2 o2 => ⟨rfl, ?_⟩)
      refine wp_pure k_169 rfl rfl ?_
      refine wp_pure k_169 rfl rfl ?_
      refine wp_iv k_169 rfl [] rfl G2.mk25 (r := []) (Nat.le_of_ble_eq_true rfl) (Nat.le_of_ble_eq_true rfl) rfl ?_
      refine r_thrown G2 ⟨rfl, ?_⟩
      refine wp_pure k_169 rfl rfl ?_
      refine wp_br k_169 rfl rfl rfl rfl (fun _ => ?_) (fun z => absurd (show nI 0 = nI 0 by decide) z)
      refine wp_pure k_169 rfl rfl ?_
      refine wp_br k_169 rfl rfl rfl rfl (fun z => absurd z (show ¬ (¬ (nI 0 : Int32) = 0) by decide)) (fun _ => ?_)
      refine wp_pure k_169 rfl rfl ?_
      refine wp_kn k_169 rfl rfl ?_
      refine wp_lald k_169 rfl (cTy G2.2.1.2.2.2.1 rfl) (nLt G2.2.1.2.2.2.2.1 (show 0 < 1 by omega)) (nLb G2.2.1.2.2.2.2.1 (by omega)) (o2.trans o1) ?_
      refine wp_pure k_169 rfl rfl ?_
      refine wp_i2l k_169 rfl ?_
      refine wp_lcmp k_169 rfl ?_
      refine wp_br k_169 rfl rfl rfl rfl (fun _ => ?_) (fun z => absurd ((lg_cmp_eq _ _).mpr rfl) z)
      refine wp_br k_169 rfl rfl rfl rfl (fun _ => ?_) (fun z => absurd trivial z)
      exact T h2 _ _ _ _ G2 S (RMk.z (by omega) (by omega) rfl rfl)
    · skip
      refine wp_pure k_169 rfl rfl ?_
      refine wp_pure k_169 rfl rfl ?_
      refine wp_pure k_169 rfl rfl ?_
      refine wp_kn k_169 rfl rfl ?_
      refine wp_addN k_169 rfl ?_
      refine wp_iald k_169 rfl (cTy G.2.1.1 rfl) (nLt G.2.1.2.1 (show i + 1 < L by omega)) (nLb G.2.1.2.1 (by omega)) (G.2.1.2.2.1 (i + 1) (by omega)) ?_
      refine wp_pure k_169 rfl rfl ?_
      refine wp_pure k_169 rfl rfl ?_
      refine wp_kn k_169 rfl rfl ?_
      refine wp_addN k_169 rfl ?_
      refine wp_iald k_169 rfl (cTy G.2.1.1 rfl) (nLt G.2.1.2.1 (show i + 2 < L by omega)) (nLb G.2.1.2.1 (by omega)) (G.2.1.2.2.1 (i + 2) (by omega)) ?_
      refine wp_pure k_169 rfl rfl ?_
      refine wp_is k_169 rfl (by decide) [.ref x, .int (xs (i + 1)), .int (xs (i + 2)), .ref o] rfl (r := []) (Nat.le_of_ble_eq_true rfl) (Nat.le_of_ble_eq_true rfl) rfl ?_
      refine l_piece_2 G S hp hd (fun h1 G1 t1 u1 => ⟨rfl, ?_⟩)
      refine wp_pure k_169 rfl rfl ?_
      refine wp_pure k_169 rfl rfl ?_
      refine wp_pure k_169 rfl rfl ?_
      refine wp_pure k_169 rfl rfl ?_
      refine wp_kn k_169 rfl rfl ?_
      refine wp_addN k_169 rfl ?_
      refine wp_iald k_169 rfl (cTy G1.2.1.1 rfl) (nLt G1.2.1.2.1 (show i + 1 < L by omega)) (nLb G1.2.1.2.1 (by omega)) (G1.2.1.2.2.1 (i + 1) (by omega)) ?_
      refine wp_pure k_169 rfl rfl ?_
      refine wp_pure k_169 rfl rfl ?_
      refine wp_kn k_169 rfl rfl ?_
      refine wp_addN k_169 rfl ?_
      refine wp_iald k_169 rfl (cTy G1.2.1.1 rfl) (nLt G1.2.1.2.1 (show i + 2 < L by omega)) (nLb G1.2.1.2.1 (by omega)) (G1.2.1.2.2.1 (i + 2) (by omega)) ?_
      refine wp_iv k_169 rfl [.int (xs (i + 1)), .int (xs (i + 2))] rfl G1.mk25 (r := []) (Nat.le_of_ble_eq_true rfl) (Nat.le_of_ble_eq_true rfl) rfl ?_
      refine r_piece_2 G1 S hp hd (fun h2 G2 t2 u2 o2 => ⟨rfl, ?_⟩)
      refine wp_pure k_169 rfl rfl ?_
      refine wp_pure k_169 rfl rfl ?_
      refine wp_iv k_169 rfl [] rfl G2.mk25 (r := []) (Nat.le_of_ble_eq_true rfl) (Nat.le_of_ble_eq_true rfl) rfl ?_
      refine r_thrown G2 ⟨rfl, ?_⟩
      refine wp_pure k_169 rfl rfl ?_
      refine wp_br k_169 rfl rfl rfl rfl (fun _ => ?_) (fun z => absurd (show nI 2 = nI 2 by decide) z)
      refine wp_pure k_169 rfl rfl ?_
      refine wp_br k_169 rfl rfl rfl rfl (fun _ => ?_) (fun z => absurd (show ¬ (nI 2 : Int32) = 0 by decide) z)
      refine wp_br k_169 rfl rfl rfl rfl (fun _ => ?_) (fun z => absurd trivial z)
      exact T h2 _ _ _ _ G2 S (RMk.z (by omega) (by omega) rfl rfl)
  | none =>
    refine wp_pure k_169 rfl rfl ?_
    refine wp_pure k_169 rfl rfl ?_
    refine wp_pure k_169 rfl rfl ?_
    refine wp_kn k_169 rfl rfl ?_
    refine wp_addN k_169 rfl ?_
    refine wp_iald k_169 rfl (cTy G.2.1.1 rfl) (nLt G.2.1.2.1 (show i + 1 < L by omega)) (nLb G.2.1.2.1 (by omega)) (G.2.1.2.2.1 (i + 1) (by omega)) ?_
    refine wp_pure k_169 rfl rfl ?_
    refine wp_pure k_169 rfl rfl ?_
    refine wp_kn k_169 rfl rfl ?_
    refine wp_addN k_169 rfl ?_
    refine wp_iald k_169 rfl (cTy G.2.1.1 rfl) (nLt G.2.1.2.1 (show i + 2 < L by omega)) (nLb G.2.1.2.1 (by omega)) (G.2.1.2.2.1 (i + 2) (by omega)) ?_
    refine wp_pure k_169 rfl rfl ?_
    refine wp_is k_169 rfl (by decide) [.ref x, .int (xs (i + 1)), .int (xs (i + 2)), .ref o] rfl (r := []) (Nat.le_of_ble_eq_true rfl) (Nat.le_of_ble_eq_true rfl) rfl ?_
    refine l_piece_1 G S hp (fun h1 G1 t1 u1 => ⟨rfl, ?_⟩)
    refine wp_pure k_169 rfl rfl ?_
    refine wp_pure k_169 rfl rfl ?_
    refine wp_pure k_169 rfl rfl ?_
    refine wp_pure k_169 rfl rfl ?_
    refine wp_kn k_169 rfl rfl ?_
    refine wp_addN k_169 rfl ?_
    refine wp_iald k_169 rfl (cTy G1.2.1.1 rfl) (nLt G1.2.1.2.1 (show i + 1 < L by omega)) (nLb G1.2.1.2.1 (by omega)) (G1.2.1.2.2.1 (i + 1) (by omega)) ?_
    refine wp_pure k_169 rfl rfl ?_
    refine wp_pure k_169 rfl rfl ?_
    refine wp_kn k_169 rfl rfl ?_
    refine wp_addN k_169 rfl ?_
    refine wp_iald k_169 rfl (cTy G1.2.1.1 rfl) (nLt G1.2.1.2.1 (show i + 2 < L by omega)) (nLb G1.2.1.2.1 (by omega)) (G1.2.1.2.2.1 (i + 2) (by omega)) ?_
    refine wp_iv k_169 rfl [.int (xs (i + 1)), .int (xs (i + 2))] rfl G1.mk25 (r := []) (Nat.le_of_ble_eq_true rfl) (Nat.le_of_ble_eq_true rfl) rfl ?_
    refine r_piece_1 G1 S hp (fun h2 G2 t2 u2 o2 => ⟨rfl, ?_⟩)
    refine wp_pure k_169 rfl rfl ?_
    refine wp_pure k_169 rfl rfl ?_
    refine wp_iv k_169 rfl [] rfl G2.mk25 (r := []) (Nat.le_of_ble_eq_true rfl) (Nat.le_of_ble_eq_true rfl) rfl ?_
    refine r_thrown G2 ⟨rfl, ?_⟩
    refine wp_pure k_169 rfl rfl ?_
    refine wp_br k_169 rfl rfl rfl rfl (fun _ => ?_) (fun z => absurd (show nI 1 = nI 1 by decide) z)
    refine wp_pure k_169 rfl rfl ?_
    refine wp_br k_169 rfl rfl rfl rfl (fun _ => ?_) (fun z => absurd (show ¬ (nI 1 : Int32) = 0 by decide) z)
    refine wp_br k_169 rfl rfl rfl rfl (fun _ => ?_) (fun z => absurd trivial z)
    exact T h2 _ _ _ _ G2 S (RMk.z (by omega) (by omega) rfl rfl)
set_option maxRecDepth 8000 in
theorem law_inside {h : sm_H} {Q : Nat → Option Value → sm_H → Prop} {x mr o b z L : Nat} {xs : Nat → Int32} {σ : Sg} {t : Int32} {i : Nat} {y5 y6 : Value} (G : GW h x mr o b z L xs σ σ t) (S : SI σ) (hl : sLen σ < 600) (hi : i + 4 ≤ L) (hL : L ≤ 2048) (T : ∀ h' σ' t' z5 z6, GW h' x mr o b z L xs σ' σ' t' → SI σ' → RMk h h' σ σ' → sm_wp 169 771 [.ref b, .ref x, .ref mr, .ref o, .int (nI i), z5, z6] [] h' Q) : sm_wp 169 430 [.ref b, .ref x, .ref mr, .ref o, .int (nI i), y5, y6] [] h Q := by
  by_cases hc : ∃ k w, k < (cE σ).1.length ∧ w < (cE σ).1.length ∧ xs (i + 1) = nI k ∧ xs (i + 2) = nI w ∧ atP (cE σ).1 1 k = nI 1 ∧ atP (cE σ).1 1 w = nI 0
  · obtain ⟨k, w, hk, hw, ei, ea, h1k, h0w⟩ := hc
    by_cases hin : insE (cE σ).1 k w
    · skip
      refine wp_pure k_169 rfl rfl ?_
      refine wp_pure k_169 rfl rfl ?_
      refine wp_pure k_169 rfl rfl ?_
      refine wp_kn k_169 rfl rfl ?_
      refine wp_addN k_169 rfl ?_
      refine wp_iald k_169 rfl (cTy G.2.1.1 rfl) (nLt G.2.1.2.1 (show i + 1 < L by omega)) (nLb G.2.1.2.1 (by omega)) (G.2.1.2.2.1 (i + 1) (by omega)) ?_
      refine wp_pure k_169 rfl rfl ?_
      refine wp_pure k_169 rfl rfl ?_
      refine wp_kn k_169 rfl rfl ?_
      refine wp_addN k_169 rfl ?_
      refine wp_iald k_169 rfl (cTy G.2.1.1 rfl) (nLt G.2.1.2.1 (show i + 2 < L by omega)) (nLb G.2.1.2.1 (by omega)) (G.2.1.2.2.1 (i + 2) (by omega)) ?_
      refine wp_pure k_169 rfl rfl ?_
      refine wp_is k_169 rfl (by decide) [.ref x, .int (xs (i + 1)), .int (xs (i + 2)), .ref o] rfl (r := []) (Nat.le_of_ble_eq_true rfl) (Nat.le_of_ble_eq_true rfl) rfl ?_
      refine l_inside_t G S hk hw ei ea h1k h0w hin (fun h1 G1 o1 t1 u1 => ⟨rfl, ?_⟩)
      refine wp_pure k_169 rfl rfl ?_
      refine wp_pure k_169 rfl rfl ?_
      refine wp_pure k_169 rfl rfl ?_
      refine wp_pure k_169 rfl rfl ?_
      refine wp_kn k_169 rfl rfl ?_
      refine wp_addN k_169 rfl ?_
      refine wp_iald k_169 rfl (cTy G1.2.1.1 rfl) (nLt G1.2.1.2.1 (show i + 1 < L by omega)) (nLb G1.2.1.2.1 (by omega)) (G1.2.1.2.2.1 (i + 1) (by omega)) ?_
      refine wp_pure k_169 rfl rfl ?_
      refine wp_pure k_169 rfl rfl ?_
      refine wp_kn k_169 rfl rfl ?_
      refine wp_addN k_169 rfl ?_
      refine wp_iald k_169 rfl (cTy G1.2.1.1 rfl) (nLt G1.2.1.2.1 (show i + 2 < L by omega)) (nLb G1.2.1.2.1 (by omega)) (G1.2.1.2.2.1 (i + 2) (by omega)) ?_
      refine wp_iv k_169 rfl [.int (xs (i + 1)), .int (xs (i + 2))] rfl G1.mk25 (r := []) (Nat.le_of_ble_eq_true rfl) (Nat.le_of_ble_eq_true rfl) rfl ?_
      refine r_inside_y G1 S hk hw ei ea h1k h0w (fun h2 G2 t2 u2 o2 => ⟨rfl, ?_⟩)
      rw [pit_y hin]
      refine wp_pure k_169 rfl rfl ?_
      refine wp_pure k_169 rfl rfl ?_
      refine wp_iv k_169 rfl [] rfl G2.mk25 (r := []) (Nat.le_of_ble_eq_true rfl) (Nat.le_of_ble_eq_true rfl) rfl ?_
      refine r_thrown G2 ⟨rfl, ?_⟩
      refine wp_pure k_169 rfl rfl ?_
      refine wp_br k_169 rfl rfl rfl rfl (fun _ => ?_) (fun z => absurd (show nI 0 = nI 0 by decide) z)
      refine wp_pure k_169 rfl rfl ?_
      refine wp_br k_169 rfl rfl rfl rfl (fun z => absurd z (show ¬ (¬ (nI 0 : Int32) = 0) by decide)) (fun _ => ?_)
      refine wp_pure k_169 rfl rfl ?_
      refine wp_kn k_169 rfl rfl ?_
      refine wp_lald k_169 rfl (cTy G2.2.1.2.2.2.1 rfl) (nLt G2.2.1.2.2.2.2.1 (show 0 < 1 by omega)) (nLb G2.2.1.2.2.2.2.1 (by omega)) (o2.trans o1) ?_
      refine wp_pure k_169 rfl rfl ?_
      refine wp_br k_169 rfl rfl rfl rfl (fun z => absurd z (show ¬ ((nI 1 : Int32) = 0) by decide)) (fun _ => ?_)
      refine wp_pure k_169 rfl rfl ?_
      refine wp_br k_169 rfl rfl rfl rfl (fun _ => ?_) (fun z => absurd trivial z)
      refine wp_lcmp k_169 rfl ?_
      refine wp_br k_169 rfl rfl rfl rfl (fun _ => ?_) (fun z => absurd ((lg_cmp_eq _ _).mpr rfl) z)
      refine wp_br k_169 rfl rfl rfl rfl (fun _ => ?_) (fun z => absurd trivial z)
      exact T h2 _ _ _ _ G2 S (RMk.z (by omega) (by omega) rfl rfl)
    · skip
      refine wp_pure k_169 rfl rfl ?_
      refine wp_pure k_169 rfl rfl ?_
      refine wp_pure k_169 rfl rfl ?_
      refine wp_kn k_169 rfl rfl ?_
      refine wp_addN k_169 rfl ?_
      refine wp_iald k_169 rfl (cTy G.2.1.1 rfl) (nLt G.2.1.2.1 (show i + 1 < L by omega)) (nLb G.2.1.2.1 (by omega)) (G.2.1.2.2.1 (i + 1) (by omega)) ?_
      refine wp_pure k_169 rfl rfl ?_
      refine wp_pure k_169 rfl rfl ?_
      refine wp_kn k_169 rfl rfl ?_
      refine wp_addN k_169 rfl ?_
      refine wp_iald k_169 rfl (cTy G.2.1.1 rfl) (nLt G.2.1.2.1 (show i + 2 < L by omega)) (nLb G.2.1.2.1 (by omega)) (G.2.1.2.2.1 (i + 2) (by omega)) ?_
      refine wp_pure k_169 rfl rfl ?_
      refine wp_is k_169 rfl (by decide) [.ref x, .int (xs (i + 1)), .int (xs (i + 2)), .ref o] rfl (r := []) (Nat.le_of_ble_eq_true rfl) (Nat.le_of_ble_eq_true rfl) rfl ?_
      refine l_inside_f G S hk hw ei ea h1k h0w hin (fun h1 G1 o1 t1 u1 => ⟨rfl, ?_⟩)
      refine wp_pure k_169 rfl rfl ?_
      refine wp_pure k_169 rfl rfl ?_
      refine wp_pure k_169 rfl rfl ?_
      refine wp_pure k_169 rfl rfl ?_
      refine wp_kn k_169 rfl rfl ?_
      refine wp_addN k_169 rfl ?_
      refine wp_iald k_169 rfl (cTy G1.2.1.1 rfl) (nLt G1.2.1.2.1 (show i + 1 < L by omega)) (nLb G1.2.1.2.1 (by omega)) (G1.2.1.2.2.1 (i + 1) (by omega)) ?_
      refine wp_pure k_169 rfl rfl ?_
      refine wp_pure k_169 rfl rfl ?_
      refine wp_kn k_169 rfl rfl ?_
      refine wp_addN k_169 rfl ?_
      refine wp_iald k_169 rfl (cTy G1.2.1.1 rfl) (nLt G1.2.1.2.1 (show i + 2 < L by omega)) (nLb G1.2.1.2.1 (by omega)) (G1.2.1.2.2.1 (i + 2) (by omega)) ?_
      refine wp_iv k_169 rfl [.int (xs (i + 1)), .int (xs (i + 2))] rfl G1.mk25 (r := []) (Nat.le_of_ble_eq_true rfl) (Nat.le_of_ble_eq_true rfl) rfl ?_
      refine r_inside_y G1 S hk hw ei ea h1k h0w (fun h2 G2 t2 u2 o2 => ⟨rfl, ?_⟩)
      rw [pit_n hin]
      refine wp_pure k_169 rfl rfl ?_
      refine wp_pure k_169 rfl rfl ?_
      refine wp_iv k_169 rfl [] rfl G2.mk25 (r := []) (Nat.le_of_ble_eq_true rfl) (Nat.le_of_ble_eq_true rfl) rfl ?_
      refine r_thrown G2 ⟨rfl, ?_⟩
      refine wp_pure k_169 rfl rfl ?_
      refine wp_br k_169 rfl rfl rfl rfl (fun _ => ?_) (fun z => absurd (show nI 0 = nI 0 by decide) z)
      refine wp_pure k_169 rfl rfl ?_
      refine wp_br k_169 rfl rfl rfl rfl (fun z => absurd z (show ¬ (¬ (nI 0 : Int32) = 0) by decide)) (fun _ => ?_)
      refine wp_pure k_169 rfl rfl ?_
      refine wp_kn k_169 rfl rfl ?_
      refine wp_lald k_169 rfl (cTy G2.2.1.2.2.2.1 rfl) (nLt G2.2.1.2.2.2.2.1 (show 0 < 1 by omega)) (nLb G2.2.1.2.2.2.2.1 (by omega)) (o2.trans o1) ?_
      refine wp_pure k_169 rfl rfl ?_
      refine wp_br k_169 rfl rfl rfl rfl (fun _ => ?_) (fun z => absurd (show (nI 0 : Int32) = 0 by decide) z)
      refine wp_pure k_169 rfl rfl ?_
      refine wp_lcmp k_169 rfl ?_
      refine wp_br k_169 rfl rfl rfl rfl (fun _ => ?_) (fun z => absurd ((lg_cmp_eq _ _).mpr rfl) z)
      refine wp_br k_169 rfl rfl rfl rfl (fun _ => ?_) (fun z => absurd trivial z)
      exact T h2 _ _ _ _ G2 S (RMk.z (by omega) (by omega) rfl rfl)
  · skip
    refine wp_pure k_169 rfl rfl ?_
    refine wp_pure k_169 rfl rfl ?_
    refine wp_pure k_169 rfl rfl ?_
    refine wp_kn k_169 rfl rfl ?_
    refine wp_addN k_169 rfl ?_
    refine wp_iald k_169 rfl (cTy G.2.1.1 rfl) (nLt G.2.1.2.1 (show i + 1 < L by omega)) (nLb G.2.1.2.1 (by omega)) (G.2.1.2.2.1 (i + 1) (by omega)) ?_
    refine wp_pure k_169 rfl rfl ?_
    refine wp_pure k_169 rfl rfl ?_
    refine wp_kn k_169 rfl rfl ?_
    refine wp_addN k_169 rfl ?_
    refine wp_iald k_169 rfl (cTy G.2.1.1 rfl) (nLt G.2.1.2.1 (show i + 2 < L by omega)) (nLb G.2.1.2.1 (by omega)) (G.2.1.2.2.1 (i + 2) (by omega)) ?_
    refine wp_pure k_169 rfl rfl ?_
    refine wp_is k_169 rfl (by decide) [.ref x, .int (xs (i + 1)), .int (xs (i + 2)), .ref o] rfl (r := []) (Nat.le_of_ble_eq_true rfl) (Nat.le_of_ble_eq_true rfl) rfl ?_
    refine l_inside_n G S hc (fun h1 G1 t1 u1 => ⟨rfl, ?_⟩)
    refine wp_pure k_169 rfl rfl ?_
    refine wp_pure k_169 rfl rfl ?_
    refine wp_pure k_169 rfl rfl ?_
    refine wp_pure k_169 rfl rfl ?_
    refine wp_kn k_169 rfl rfl ?_
    refine wp_addN k_169 rfl ?_
    refine wp_iald k_169 rfl (cTy G1.2.1.1 rfl) (nLt G1.2.1.2.1 (show i + 1 < L by omega)) (nLb G1.2.1.2.1 (by omega)) (G1.2.1.2.2.1 (i + 1) (by omega)) ?_
    refine wp_pure k_169 rfl rfl ?_
    refine wp_pure k_169 rfl rfl ?_
    refine wp_kn k_169 rfl rfl ?_
    refine wp_addN k_169 rfl ?_
    refine wp_iald k_169 rfl (cTy G1.2.1.1 rfl) (nLt G1.2.1.2.1 (show i + 2 < L by omega)) (nLb G1.2.1.2.1 (by omega)) (G1.2.1.2.2.1 (i + 2) (by omega)) ?_
    refine wp_iv k_169 rfl [.int (xs (i + 1)), .int (xs (i + 2))] rfl G1.mk25 (r := []) (Nat.le_of_ble_eq_true rfl) (Nat.le_of_ble_eq_true rfl) rfl ?_
    refine r_inside_n G1 hc (fun h2 G2 t2 u2 o2 => ⟨rfl, ?_⟩)
    refine wp_pure k_169 rfl rfl ?_
    refine wp_pure k_169 rfl rfl ?_
    refine wp_iv k_169 rfl [] rfl G2.mk25 (r := []) (Nat.le_of_ble_eq_true rfl) (Nat.le_of_ble_eq_true rfl) rfl ?_
    refine r_thrown G2 ⟨rfl, ?_⟩
    refine wp_pure k_169 rfl rfl ?_
    refine wp_br k_169 rfl rfl rfl rfl (fun _ => ?_) (fun z => absurd (show nI 1 = nI 1 by decide) z)
    refine wp_pure k_169 rfl rfl ?_
    refine wp_br k_169 rfl rfl rfl rfl (fun _ => ?_) (fun z => absurd (show ¬ (nI 1 : Int32) = 0 by decide) z)
    refine wp_br k_169 rfl rfl rfl rfl (fun _ => ?_) (fun z => absurd trivial z)
    exact T h2 _ _ _ _ G2 S (RMk.z (by omega) (by omega) rfl rfl)
set_option maxRecDepth 8000 in
theorem law_fill {h : sm_H} {Q : Nat → Option Value → sm_H → Prop} {x mr o b z L : Nat} {xs : Nat → Int32} {σ : Sg} {t : Int32} {i : Nat} {y5 y6 : Value} (G : GW h x mr o b z L xs σ σ t) (S : SI σ) (hl : sLen σ < 600) (hi : i + 4 ≤ L) (hL : L ≤ 2048) (T : ∀ h' σ' t' z5 z6, GW h' x mr o b z L xs σ' σ' t' → SI σ' → RMk h h' σ σ' → sm_wp 169 771 [.ref b, .ref x, .ref mr, .ref o, .int (nI i), z5, z6] [] h' Q) : sm_wp 169 505 [.ref b, .ref x, .ref mr, .ref o, .int (nI i), y5, y6] [] h Q := by
  by_cases hc : ∃ e k u, e ≤ sE σ ∧ k < (edP σ e).length ∧ u ≤ 99 ∧ xs (i + 1) = nI e ∧ xs (i + 2) = nI k ∧ xs (i + 3) = nI u ∧ atP (edP σ e) 1 k = nI 1
  · obtain ⟨e, k, u, he, hk, hu, ei, ea, ec, h1k⟩ := hc
    refine wp_pure k_169 rfl rfl ?_
    refine wp_pure k_169 rfl rfl ?_
    refine wp_pure k_169 rfl rfl ?_
    refine wp_kn k_169 rfl rfl ?_
    refine wp_addN k_169 rfl ?_
    refine wp_iald k_169 rfl (cTy G.2.1.1 rfl) (nLt G.2.1.2.1 (show i + 1 < L by omega)) (nLb G.2.1.2.1 (by omega)) (G.2.1.2.2.1 (i + 1) (by omega)) ?_
    refine wp_pure k_169 rfl rfl ?_
    refine wp_pure k_169 rfl rfl ?_
    refine wp_kn k_169 rfl rfl ?_
    refine wp_addN k_169 rfl ?_
    refine wp_iald k_169 rfl (cTy G.2.1.1 rfl) (nLt G.2.1.2.1 (show i + 2 < L by omega)) (nLb G.2.1.2.1 (by omega)) (G.2.1.2.2.1 (i + 2) (by omega)) ?_
    refine wp_pure k_169 rfl rfl ?_
    refine wp_pure k_169 rfl rfl ?_
    refine wp_kn k_169 rfl rfl ?_
    refine wp_addN k_169 rfl ?_
    refine wp_iald k_169 rfl (cTy G.2.1.1 rfl) (nLt G.2.1.2.1 (show i + 3 < L by omega)) (nLb G.2.1.2.1 (by omega)) (G.2.1.2.2.1 (i + 3) (by omega)) ?_
    refine wp_is k_169 rfl (by decide) [.ref x, .int (xs (i + 1)), .int (xs (i + 2)), .int (xs (i + 3))] rfl (r := []) (Nat.le_of_ble_eq_true rfl) (Nat.le_of_ble_eq_true rfl) rfl ?_
    refine l_fill_y G S he hk hu ei ea ec h1k (fun h1 G1 t1 u1 => ⟨rfl, ?_⟩)
    refine wp_pure k_169 rfl rfl ?_
    refine wp_pure k_169 rfl rfl ?_
    refine wp_pure k_169 rfl rfl ?_
    refine wp_pure k_169 rfl rfl ?_
    refine wp_kn k_169 rfl rfl ?_
    refine wp_addN k_169 rfl ?_
    refine wp_iald k_169 rfl (cTy G1.2.1.1 rfl) (nLt G1.2.1.2.1 (show i + 1 < L by omega)) (nLb G1.2.1.2.1 (by omega)) (G1.2.1.2.2.1 (i + 1) (by omega)) ?_
    refine wp_pure k_169 rfl rfl ?_
    refine wp_pure k_169 rfl rfl ?_
    refine wp_kn k_169 rfl rfl ?_
    refine wp_addN k_169 rfl ?_
    refine wp_iald k_169 rfl (cTy G1.2.1.1 rfl) (nLt G1.2.1.2.1 (show i + 2 < L by omega)) (nLb G1.2.1.2.1 (by omega)) (G1.2.1.2.2.1 (i + 2) (by omega)) ?_
    refine wp_pure k_169 rfl rfl ?_
    refine wp_pure k_169 rfl rfl ?_
    refine wp_kn k_169 rfl rfl ?_
    refine wp_addN k_169 rfl ?_
    refine wp_iald k_169 rfl (cTy G1.2.1.1 rfl) (nLt G1.2.1.2.1 (show i + 3 < L by omega)) (nLb G1.2.1.2.1 (by omega)) (G1.2.1.2.2.1 (i + 3) (by omega)) ?_
    refine wp_iv k_169 rfl [.int (xs (i + 1)), .int (xs (i + 2)), .int (xs (i + 3))] rfl G1.mk25 (r := []) (Nat.le_of_ble_eq_true rfl) (Nat.le_of_ble_eq_true rfl) rfl ?_
    refine r_fill_y G1 S he hk hu ei ea ec h1k (fun h2 G2 t2 u2 o2 => ⟨rfl, ?_⟩)
    refine wp_pure k_169 rfl rfl ?_
    refine wp_iv k_169 rfl [] rfl G2.mk25 (r := []) (Nat.le_of_ble_eq_true rfl) (Nat.le_of_ble_eq_true rfl) rfl ?_
    refine r_thrown G2 ⟨rfl, ?_⟩
    refine wp_pure k_169 rfl rfl ?_
    refine wp_br k_169 rfl rfl rfl rfl (fun _ => ?_) (fun z => absurd (show nI 0 = nI 0 by decide) z)
    refine wp_br k_169 rfl rfl rfl rfl (fun _ => ?_) (fun z => absurd trivial z)
    exact T h2 _ _ _ _ G2 (S.fl hu) (RMk.z (by omega) (by omega) rfl rfl)
  · skip
    refine wp_pure k_169 rfl rfl ?_
    refine wp_pure k_169 rfl rfl ?_
    refine wp_pure k_169 rfl rfl ?_
    refine wp_kn k_169 rfl rfl ?_
    refine wp_addN k_169 rfl ?_
    refine wp_iald k_169 rfl (cTy G.2.1.1 rfl) (nLt G.2.1.2.1 (show i + 1 < L by omega)) (nLb G.2.1.2.1 (by omega)) (G.2.1.2.2.1 (i + 1) (by omega)) ?_
    refine wp_pure k_169 rfl rfl ?_
    refine wp_pure k_169 rfl rfl ?_
    refine wp_kn k_169 rfl rfl ?_
    refine wp_addN k_169 rfl ?_
    refine wp_iald k_169 rfl (cTy G.2.1.1 rfl) (nLt G.2.1.2.1 (show i + 2 < L by omega)) (nLb G.2.1.2.1 (by omega)) (G.2.1.2.2.1 (i + 2) (by omega)) ?_
    refine wp_pure k_169 rfl rfl ?_
    refine wp_pure k_169 rfl rfl ?_
    refine wp_kn k_169 rfl rfl ?_
    refine wp_addN k_169 rfl ?_
    refine wp_iald k_169 rfl (cTy G.2.1.1 rfl) (nLt G.2.1.2.1 (show i + 3 < L by omega)) (nLb G.2.1.2.1 (by omega)) (G.2.1.2.2.1 (i + 3) (by omega)) ?_
    refine wp_is k_169 rfl (by decide) [.ref x, .int (xs (i + 1)), .int (xs (i + 2)), .int (xs (i + 3))] rfl (r := []) (Nat.le_of_ble_eq_true rfl) (Nat.le_of_ble_eq_true rfl) rfl ?_
    refine l_fill_n G S hc (fun h1 G1 t1 u1 => ⟨rfl, ?_⟩)
    refine wp_pure k_169 rfl rfl ?_
    refine wp_pure k_169 rfl rfl ?_
    refine wp_pure k_169 rfl rfl ?_
    refine wp_pure k_169 rfl rfl ?_
    refine wp_kn k_169 rfl rfl ?_
    refine wp_addN k_169 rfl ?_
    refine wp_iald k_169 rfl (cTy G1.2.1.1 rfl) (nLt G1.2.1.2.1 (show i + 1 < L by omega)) (nLb G1.2.1.2.1 (by omega)) (G1.2.1.2.2.1 (i + 1) (by omega)) ?_
    refine wp_pure k_169 rfl rfl ?_
    refine wp_pure k_169 rfl rfl ?_
    refine wp_kn k_169 rfl rfl ?_
    refine wp_addN k_169 rfl ?_
    refine wp_iald k_169 rfl (cTy G1.2.1.1 rfl) (nLt G1.2.1.2.1 (show i + 2 < L by omega)) (nLb G1.2.1.2.1 (by omega)) (G1.2.1.2.2.1 (i + 2) (by omega)) ?_
    refine wp_pure k_169 rfl rfl ?_
    refine wp_pure k_169 rfl rfl ?_
    refine wp_kn k_169 rfl rfl ?_
    refine wp_addN k_169 rfl ?_
    refine wp_iald k_169 rfl (cTy G1.2.1.1 rfl) (nLt G1.2.1.2.1 (show i + 3 < L by omega)) (nLb G1.2.1.2.1 (by omega)) (G1.2.1.2.2.1 (i + 3) (by omega)) ?_
    refine wp_iv k_169 rfl [.int (xs (i + 1)), .int (xs (i + 2)), .int (xs (i + 3))] rfl G1.mk25 (r := []) (Nat.le_of_ble_eq_true rfl) (Nat.le_of_ble_eq_true rfl) rfl ?_
    refine r_fill_n G1 hc (fun h2 G2 t2 u2 o2 => ⟨rfl, ?_⟩)
    refine wp_pure k_169 rfl rfl ?_
    refine wp_iv k_169 rfl [] rfl G2.mk25 (r := []) (Nat.le_of_ble_eq_true rfl) (Nat.le_of_ble_eq_true rfl) rfl ?_
    refine r_thrown G2 ⟨rfl, ?_⟩
    refine wp_pure k_169 rfl rfl ?_
    refine wp_br k_169 rfl rfl rfl rfl (fun _ => ?_) (fun z => absurd (show nI 1 = nI 1 by decide) z)
    refine wp_br k_169 rfl rfl rfl rfl (fun _ => ?_) (fun z => absurd trivial z)
    exact T h2 _ _ _ _ G2 S (RMk.z (by omega) (by omega) rfl rfl)
set_option maxRecDepth 8000 in
theorem law_differ {h : sm_H} {Q : Nat → Option Value → sm_H → Prop} {x mr o b z L : Nat} {xs : Nat → Int32} {σ : Sg} {t : Int32} {i : Nat} {y5 y6 : Value} (G : GW h x mr o b z L xs σ σ t) (S : SI σ) (hl : sLen σ < 600) (hi : i + 4 ≤ L) (hL : L ≤ 2048) (T : ∀ h' σ' t' z5 z6, GW h' x mr o b z L xs σ' σ' t' → SI σ' → RMk h h' σ σ' → sm_wp 169 771 [.ref b, .ref x, .ref mr, .ref o, .int (nI i), z5, z6] [] h' Q) : sm_wp 169 565 [.ref b, .ref x, .ref mr, .ref o, .int (nI i), y5, y6] [] h Q := by
  by_cases hc : ∃ e, e ≤ sE σ ∧ xs (i + 1) = nI e
  · obtain ⟨e, he, ea⟩ := hc
    refine wp_pure k_169 rfl rfl ?_
    refine wp_pure k_169 rfl rfl ?_
    refine wp_pure k_169 rfl rfl ?_
    refine wp_kn k_169 rfl rfl ?_
    refine wp_addN k_169 rfl ?_
    refine wp_iald k_169 rfl (cTy G.2.1.1 rfl) (nLt G.2.1.2.1 (show i + 1 < L by omega)) (nLb G.2.1.2.1 (by omega)) (G.2.1.2.2.1 (i + 1) (by omega)) ?_
    refine wp_pure k_169 rfl rfl ?_
    refine wp_is k_169 rfl (by decide) [.ref x, .int (xs (i + 1)), .ref o] rfl (r := []) (Nat.le_of_ble_eq_true rfl) (Nat.le_of_ble_eq_true rfl) rfl ?_
    refine l_differ_y G S he ea (fun h1 G1 o1 t1 t1' u1 u1' => ⟨rfl, ?_⟩)
    refine wp_pure k_169 rfl rfl ?_
    refine wp_pure k_169 rfl rfl ?_
    refine wp_pure k_169 rfl rfl ?_
    refine wp_pure k_169 rfl rfl ?_
    refine wp_kn k_169 rfl rfl ?_
    refine wp_addN k_169 rfl ?_
    refine wp_iald k_169 rfl (cTy G1.2.1.1 rfl) (nLt G1.2.1.2.1 (show i + 1 < L by omega)) (nLb G1.2.1.2.1 (by omega)) (G1.2.1.2.2.1 (i + 1) (by omega)) ?_
    refine wp_iv k_169 rfl [.int (xs (i + 1))] rfl G1.mk25 (r := []) (Nat.le_of_ble_eq_true rfl) (Nat.le_of_ble_eq_true rfl) rfl ?_
    refine r_differ_y G1 S he ea (fun h2 G2 t2 u2 o2 => ⟨rfl, ?_⟩)
    refine wp_pure k_169 rfl rfl ?_
    refine wp_pure k_169 rfl rfl ?_
    refine wp_iv k_169 rfl [] rfl G2.mk25 (r := []) (Nat.le_of_ble_eq_true rfl) (Nat.le_of_ble_eq_true rfl) rfl ?_
    refine r_thrown G2 ⟨rfl, ?_⟩
    refine wp_pure k_169 rfl rfl ?_
    refine wp_br k_169 rfl rfl rfl rfl (fun _ => ?_) (fun z => absurd (show nI 0 = nI 0 by decide) z)
    refine wp_pure k_169 rfl rfl ?_
    refine wp_br k_169 rfl rfl rfl rfl (fun z => absurd z (show ¬ (¬ (nI 0 : Int32) = 0) by decide)) (fun _ => ?_)
    refine wp_pure k_169 rfl rfl ?_
    refine wp_kn k_169 rfl rfl ?_
    refine wp_lald k_169 rfl (cTy G2.2.1.2.2.2.1 rfl) (nLt G2.2.1.2.2.2.2.1 (show 0 < 1 by omega)) (nLb G2.2.1.2.2.2.2.1 (by omega)) (o2.trans o1) ?_
    refine wp_pure k_169 rfl rfl ?_
    refine wp_i2l k_169 rfl ?_
    refine wp_lcmp k_169 rfl ?_
    refine wp_br k_169 rfl rfl rfl rfl (fun _ => ?_) (fun z => absurd ((lg_cmp_eq _ _).mpr rfl) z)
    refine wp_br k_169 rfl rfl rfl rfl (fun _ => ?_) (fun z => absurd trivial z)
    exact T h2 _ _ _ _ G2 S.dff (RMk.d (by omega) (by omega) rfl rfl)
  · skip
    refine wp_pure k_169 rfl rfl ?_
    refine wp_pure k_169 rfl rfl ?_
    refine wp_pure k_169 rfl rfl ?_
    refine wp_kn k_169 rfl rfl ?_
    refine wp_addN k_169 rfl ?_
    refine wp_iald k_169 rfl (cTy G.2.1.1 rfl) (nLt G.2.1.2.1 (show i + 1 < L by omega)) (nLb G.2.1.2.1 (by omega)) (G.2.1.2.2.1 (i + 1) (by omega)) ?_
    refine wp_pure k_169 rfl rfl ?_
    refine wp_is k_169 rfl (by decide) [.ref x, .int (xs (i + 1)), .ref o] rfl (r := []) (Nat.le_of_ble_eq_true rfl) (Nat.le_of_ble_eq_true rfl) rfl ?_
    refine l_differ_n G S hc (fun h1 G1 t1 u1 => ⟨rfl, ?_⟩)
    refine wp_pure k_169 rfl rfl ?_
    refine wp_pure k_169 rfl rfl ?_
    refine wp_pure k_169 rfl rfl ?_
    refine wp_pure k_169 rfl rfl ?_
    refine wp_kn k_169 rfl rfl ?_
    refine wp_addN k_169 rfl ?_
    refine wp_iald k_169 rfl (cTy G1.2.1.1 rfl) (nLt G1.2.1.2.1 (show i + 1 < L by omega)) (nLb G1.2.1.2.1 (by omega)) (G1.2.1.2.2.1 (i + 1) (by omega)) ?_
    refine wp_iv k_169 rfl [.int (xs (i + 1))] rfl G1.mk25 (r := []) (Nat.le_of_ble_eq_true rfl) (Nat.le_of_ble_eq_true rfl) rfl ?_
    refine r_differ_n G1 S hc (fun h2 G2 t2 u2 o2 => ⟨rfl, ?_⟩)
    refine wp_pure k_169 rfl rfl ?_
    refine wp_pure k_169 rfl rfl ?_
    refine wp_iv k_169 rfl [] rfl G2.mk25 (r := []) (Nat.le_of_ble_eq_true rfl) (Nat.le_of_ble_eq_true rfl) rfl ?_
    refine r_thrown G2 ⟨rfl, ?_⟩
    refine wp_pure k_169 rfl rfl ?_
    refine wp_br k_169 rfl rfl rfl rfl (fun _ => ?_) (fun z => absurd (show nI 1 = nI 1 by decide) z)
    refine wp_pure k_169 rfl rfl ?_
    refine wp_br k_169 rfl rfl rfl rfl (fun _ => ?_) (fun z => absurd (show ¬ (nI 1 : Int32) = 0 by decide) z)
    refine wp_br k_169 rfl rfl rfl rfl (fun _ => ?_) (fun z => absurd trivial z)
    exact T h2 _ _ _ _ G2 S (RMk.z (by omega) (by omega) rfl rfl)
set_option maxRecDepth 8000 in
theorem law_moved {h : sm_H} {Q : Nat → Option Value → sm_H → Prop} {x mr o b z L : Nat} {xs : Nat → Int32} {σ : Sg} {t : Int32} {i : Nat} {y5 y6 : Value} (G : GW h x mr o b z L xs σ σ t) (S : SI σ) (hl : sLen σ < 600) (hi : i + 4 ≤ L) (hL : L ≤ 2048) (T : ∀ h' σ' t' z5 z6, GW h' x mr o b z L xs σ' σ' t' → SI σ' → RMk h h' σ σ' → sm_wp 169 771 [.ref b, .ref x, .ref mr, .ref o, .int (nI i), z5, z6] [] h' Q) : sm_wp 169 621 [.ref b, .ref x, .ref mr, .ref o, .int (nI i), y5, y6] [] h Q := by
  by_cases hc : ∃ k, k < (sMv σ).length ∧ xs (i + 1) = nI k
  · obtain ⟨k, hk, ea⟩ := hc
    obtain ⟨y, hy⟩ : ∃ y, (sMv σ)[k]? = some y := ⟨_, List.getElem?_eq_getElem hk⟩
    refine wp_pure k_169 rfl rfl ?_
    refine wp_pure k_169 rfl rfl ?_
    refine wp_pure k_169 rfl rfl ?_
    refine wp_kn k_169 rfl rfl ?_
    refine wp_addN k_169 rfl ?_
    refine wp_iald k_169 rfl (cTy G.2.1.1 rfl) (nLt G.2.1.2.1 (show i + 1 < L by omega)) (nLb G.2.1.2.1 (by omega)) (G.2.1.2.2.1 (i + 1) (by omega)) ?_
    refine wp_pure k_169 rfl rfl ?_
    refine wp_is k_169 rfl (by decide) [.ref x, .int (xs (i + 1)), .ref o] rfl (r := []) (Nat.le_of_ble_eq_true rfl) (Nat.le_of_ble_eq_true rfl) rfl ?_
    refine l_moved_y G S hy ea (fun h1 G1 o1 t1 u1 => ⟨rfl, ?_⟩)
    refine wp_pure k_169 rfl rfl ?_
    refine wp_pure k_169 rfl rfl ?_
    refine wp_pure k_169 rfl rfl ?_
    refine wp_pure k_169 rfl rfl ?_
    refine wp_kn k_169 rfl rfl ?_
    refine wp_addN k_169 rfl ?_
    refine wp_iald k_169 rfl (cTy G1.2.1.1 rfl) (nLt G1.2.1.2.1 (show i + 1 < L by omega)) (nLb G1.2.1.2.1 (by omega)) (G1.2.1.2.2.1 (i + 1) (by omega)) ?_
    refine wp_iv k_169 rfl [.int (xs (i + 1))] rfl G1.mk25 (r := []) (Nat.le_of_ble_eq_true rfl) (Nat.le_of_ble_eq_true rfl) rfl ?_
    refine r_moved_y G1 S hy ea (fun h2 G2 t2 u2 o2 => ⟨rfl, ?_⟩)
    refine wp_pure k_169 rfl rfl ?_
    refine wp_pure k_169 rfl rfl ?_
    refine wp_iv k_169 rfl [] rfl G2.mk25 (r := []) (Nat.le_of_ble_eq_true rfl) (Nat.le_of_ble_eq_true rfl) rfl ?_
    refine r_thrown G2 ⟨rfl, ?_⟩
    refine wp_pure k_169 rfl rfl ?_
    refine wp_br k_169 rfl rfl rfl rfl (fun _ => ?_) (fun z => absurd (show nI 0 = nI 0 by decide) z)
    refine wp_pure k_169 rfl rfl ?_
    refine wp_br k_169 rfl rfl rfl rfl (fun z => absurd z (show ¬ (¬ (nI 0 : Int32) = 0) by decide)) (fun _ => ?_)
    refine wp_pure k_169 rfl rfl ?_
    refine wp_kn k_169 rfl rfl ?_
    refine wp_lald k_169 rfl (cTy G2.2.1.2.2.2.1 rfl) (nLt G2.2.1.2.2.2.2.1 (show 0 < 1 by omega)) (nLb G2.2.1.2.2.2.2.1 (by omega)) (o2.trans o1) ?_
    refine wp_pure k_169 rfl rfl ?_
    refine wp_i2l k_169 rfl ?_
    refine wp_lcmp k_169 rfl ?_
    refine wp_br k_169 rfl rfl rfl rfl (fun _ => ?_) (fun z => absurd ((lg_cmp_eq _ _).mpr rfl) z)
    refine wp_br k_169 rfl rfl rfl rfl (fun _ => ?_) (fun z => absurd trivial z)
    exact T h2 _ _ _ _ G2 S (RMk.z (by omega) (by omega) rfl rfl)
  · skip
    refine wp_pure k_169 rfl rfl ?_
    refine wp_pure k_169 rfl rfl ?_
    refine wp_pure k_169 rfl rfl ?_
    refine wp_kn k_169 rfl rfl ?_
    refine wp_addN k_169 rfl ?_
    refine wp_iald k_169 rfl (cTy G.2.1.1 rfl) (nLt G.2.1.2.1 (show i + 1 < L by omega)) (nLb G.2.1.2.1 (by omega)) (G.2.1.2.2.1 (i + 1) (by omega)) ?_
    refine wp_pure k_169 rfl rfl ?_
    refine wp_is k_169 rfl (by decide) [.ref x, .int (xs (i + 1)), .ref o] rfl (r := []) (Nat.le_of_ble_eq_true rfl) (Nat.le_of_ble_eq_true rfl) rfl ?_
    refine l_moved_n G S hc (fun h1 G1 t1 u1 => ⟨rfl, ?_⟩)
    refine wp_pure k_169 rfl rfl ?_
    refine wp_pure k_169 rfl rfl ?_
    refine wp_pure k_169 rfl rfl ?_
    refine wp_pure k_169 rfl rfl ?_
    refine wp_kn k_169 rfl rfl ?_
    refine wp_addN k_169 rfl ?_
    refine wp_iald k_169 rfl (cTy G1.2.1.1 rfl) (nLt G1.2.1.2.1 (show i + 1 < L by omega)) (nLb G1.2.1.2.1 (by omega)) (G1.2.1.2.2.1 (i + 1) (by omega)) ?_
    refine wp_iv k_169 rfl [.int (xs (i + 1))] rfl G1.mk25 (r := []) (Nat.le_of_ble_eq_true rfl) (Nat.le_of_ble_eq_true rfl) rfl ?_
    refine r_moved_n G1 hc (fun h2 G2 t2 u2 o2 => ⟨rfl, ?_⟩)
    refine wp_pure k_169 rfl rfl ?_
    refine wp_pure k_169 rfl rfl ?_
    refine wp_iv k_169 rfl [] rfl G2.mk25 (r := []) (Nat.le_of_ble_eq_true rfl) (Nat.le_of_ble_eq_true rfl) rfl ?_
    refine r_thrown G2 ⟨rfl, ?_⟩
    refine wp_pure k_169 rfl rfl ?_
    refine wp_br k_169 rfl rfl rfl rfl (fun _ => ?_) (fun z => absurd (show nI 1 = nI 1 by decide) z)
    refine wp_pure k_169 rfl rfl ?_
    refine wp_br k_169 rfl rfl rfl rfl (fun _ => ?_) (fun z => absurd (show ¬ (nI 1 : Int32) = 0 by decide) z)
    refine wp_br k_169 rfl rfl rfl rfl (fun _ => ?_) (fun z => absurd trivial z)
    exact T h2 _ _ _ _ G2 S (RMk.z (by omega) (by omega) rfl rfl)
set_option maxRecDepth 8000 in
theorem law_at {h : sm_H} {Q : Nat → Option Value → sm_H → Prop} {x mr o b z L : Nat} {xs : Nat → Int32} {σ : Sg} {t : Int32} {i : Nat} {y5 y6 : Value} (G : GW h x mr o b z L xs σ σ t) (S : SI σ) (hl : sLen σ < 600) (hi : i + 4 ≤ L) (hL : L ≤ 2048) (T : ∀ h' σ' t' z5 z6, GW h' x mr o b z L xs σ' σ' t' → SI σ' → RMk h h' σ σ' → sm_wp 169 771 [.ref b, .ref x, .ref mr, .ref o, .int (nI i), z5, z6] [] h' Q) : sm_wp 169 690 [.ref b, .ref x, .ref mr, .ref o, .int (nI i), y5, y6] [] h Q := by
  by_cases hc : ∃ k, k < (sPn σ).length ∧ xs (i + 1) = nI k
  · obtain ⟨k, hk, ea⟩ := hc
    obtain ⟨y, hy⟩ : ∃ y, (sPn σ)[k]? = some y := ⟨_, List.getElem?_eq_getElem hk⟩
    refine wp_pure k_169 rfl rfl ?_
    refine wp_pure k_169 rfl rfl ?_
    refine wp_pure k_169 rfl rfl ?_
    refine wp_kn k_169 rfl rfl ?_
    refine wp_addN k_169 rfl ?_
    refine wp_iald k_169 rfl (cTy G.2.1.1 rfl) (nLt G.2.1.2.1 (show i + 1 < L by omega)) (nLb G.2.1.2.1 (by omega)) (G.2.1.2.2.1 (i + 1) (by omega)) ?_
    refine wp_pure k_169 rfl rfl ?_
    refine wp_is k_169 rfl (by decide) [.ref x, .int (xs (i + 1)), .ref o] rfl (r := []) (Nat.le_of_ble_eq_true rfl) (Nat.le_of_ble_eq_true rfl) rfl ?_
    refine l_at_y G S hy ea (fun h1 G1 o1 t1 u1 => ⟨rfl, ?_⟩)
    refine wp_pure k_169 rfl rfl ?_
    refine wp_pure k_169 rfl rfl ?_
    refine wp_pure k_169 rfl rfl ?_
    refine wp_pure k_169 rfl rfl ?_
    refine wp_kn k_169 rfl rfl ?_
    refine wp_addN k_169 rfl ?_
    refine wp_iald k_169 rfl (cTy G1.2.1.1 rfl) (nLt G1.2.1.2.1 (show i + 1 < L by omega)) (nLb G1.2.1.2.1 (by omega)) (G1.2.1.2.2.1 (i + 1) (by omega)) ?_
    refine wp_iv k_169 rfl [.int (xs (i + 1))] rfl G1.mk25 (r := []) (Nat.le_of_ble_eq_true rfl) (Nat.le_of_ble_eq_true rfl) rfl ?_
    refine r_at_y G1 S hy ea (fun h2 G2 t2 u2 o2 => ⟨rfl, ?_⟩)
    refine wp_pure k_169 rfl rfl ?_
    refine wp_pure k_169 rfl rfl ?_
    refine wp_iv k_169 rfl [] rfl G2.mk25 (r := []) (Nat.le_of_ble_eq_true rfl) (Nat.le_of_ble_eq_true rfl) rfl ?_
    refine r_thrown G2 ⟨rfl, ?_⟩
    refine wp_pure k_169 rfl rfl ?_
    refine wp_br k_169 rfl rfl rfl rfl (fun _ => ?_) (fun z => absurd (show nI 0 = nI 0 by decide) z)
    refine wp_pure k_169 rfl rfl ?_
    refine wp_br k_169 rfl rfl rfl rfl (fun z => absurd z (show ¬ (¬ (nI 0 : Int32) = 0) by decide)) (fun _ => ?_)
    refine wp_pure k_169 rfl rfl ?_
    refine wp_kn k_169 rfl rfl ?_
    refine wp_lald k_169 rfl (cTy G2.2.1.2.2.2.1 rfl) (nLt G2.2.1.2.2.2.2.1 (show 0 < 1 by omega)) (nLb G2.2.1.2.2.2.2.1 (by omega)) (o2.trans o1) ?_
    refine wp_pure k_169 rfl rfl ?_
    refine wp_i2l k_169 rfl ?_
    refine wp_lcmp k_169 rfl ?_
    refine wp_br k_169 rfl rfl rfl rfl (fun _ => ?_) (fun z => absurd ((lg_cmp_eq _ _).mpr rfl) z)
    refine wp_br k_169 rfl rfl rfl rfl (fun _ => ?_) (fun z => absurd trivial z)
    exact T h2 _ _ _ _ G2 S (RMk.z (by omega) (by omega) rfl rfl)
  · skip
    refine wp_pure k_169 rfl rfl ?_
    refine wp_pure k_169 rfl rfl ?_
    refine wp_pure k_169 rfl rfl ?_
    refine wp_kn k_169 rfl rfl ?_
    refine wp_addN k_169 rfl ?_
    refine wp_iald k_169 rfl (cTy G.2.1.1 rfl) (nLt G.2.1.2.1 (show i + 1 < L by omega)) (nLb G.2.1.2.1 (by omega)) (G.2.1.2.2.1 (i + 1) (by omega)) ?_
    refine wp_pure k_169 rfl rfl ?_
    refine wp_is k_169 rfl (by decide) [.ref x, .int (xs (i + 1)), .ref o] rfl (r := []) (Nat.le_of_ble_eq_true rfl) (Nat.le_of_ble_eq_true rfl) rfl ?_
    refine l_at_n G S hc (fun h1 G1 t1 u1 => ⟨rfl, ?_⟩)
    refine wp_pure k_169 rfl rfl ?_
    refine wp_pure k_169 rfl rfl ?_
    refine wp_pure k_169 rfl rfl ?_
    refine wp_pure k_169 rfl rfl ?_
    refine wp_kn k_169 rfl rfl ?_
    refine wp_addN k_169 rfl ?_
    refine wp_iald k_169 rfl (cTy G1.2.1.1 rfl) (nLt G1.2.1.2.1 (show i + 1 < L by omega)) (nLb G1.2.1.2.1 (by omega)) (G1.2.1.2.2.1 (i + 1) (by omega)) ?_
    refine wp_iv k_169 rfl [.int (xs (i + 1))] rfl G1.mk25 (r := []) (Nat.le_of_ble_eq_true rfl) (Nat.le_of_ble_eq_true rfl) rfl ?_
    refine r_at_n G1 hc (fun h2 G2 t2 u2 o2 => ⟨rfl, ?_⟩)
    refine wp_pure k_169 rfl rfl ?_
    refine wp_pure k_169 rfl rfl ?_
    refine wp_iv k_169 rfl [] rfl G2.mk25 (r := []) (Nat.le_of_ble_eq_true rfl) (Nat.le_of_ble_eq_true rfl) rfl ?_
    refine r_thrown G2 ⟨rfl, ?_⟩
    refine wp_pure k_169 rfl rfl ?_
    refine wp_br k_169 rfl rfl rfl rfl (fun _ => ?_) (fun z => absurd (show nI 1 = nI 1 by decide) z)
    refine wp_pure k_169 rfl rfl ?_
    refine wp_br k_169 rfl rfl rfl rfl (fun _ => ?_) (fun z => absurd (show ¬ (nI 1 : Int32) = 0 by decide) z)
    refine wp_br k_169 rfl rfl rfl rfl (fun _ => ?_) (fun z => absurd trivial z)
    exact T h2 _ _ _ _ G2 S (RMk.z (by omega) (by omega) rfl rfl)
