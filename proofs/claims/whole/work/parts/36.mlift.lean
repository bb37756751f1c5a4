theorem m_liftL {h0 : sm_H} {m : Nat} {Q : Nat → Option Value → sm_H → Prop} {len n : Nat} {tx nm kd : Nat → Int32} (hl : len ≤ 3000) (h5 : n ≤ 501) : ∀ (k : Nat) {h : sm_H} {g : Nat → Int32} {ar : Nat → Nat → Int32} (M : MS h0 h m g ar) (t1 : ar 1 = tx) (t36 : ar 36 = kd) (t37 : ar 37 = nm) (hn : g 2 = nI len) (h26 : g 26 = nI n) {p : Nat} (hp : g 23 = nI p) (hpl : p ≤ len) {acc : List Nat} (hc : g 58 = nI acc.length) (ha4 : acc.length ≤ 4) (hk : 5 ≤ acc.length + k) (hs : ∀ i, i < acc.length → ar 57 i = nI (acc.getD i 0))
    (K1 : ∀ h' g' ar' l q, MS h0 h' m g' ar' → eqx [23, 48, 49, 56, 58] g g' → (∀ k, k ≠ 57 → ar' k = ar k) → stpM tx len nm kd n k acc p = .ok (l, q) → g' 23 = nI q → g' 58 = nI l.length → g' 56 = nI (l.getD 0 0) → (∀ i, i < l.length → ar' 57 i = nI (l.getD i 0)) → Q 0 (some (.int (nI 1))) h')
    (K0 : ∀ h' g' ar' q, MS h0 h' m g' ar' → eqx [23, 24, 48, 49, 56, 58] g g' → (∀ k, k ≠ 57 → ar' k = ar k) → stpM tx len nm kd n k acc p = .error q → g' 24 = nI q → Q 0 (some (.int (nI 0))) h'), sm_wp 102 22 [.ref m] [] h Q := by
  intro k
  induction k with
  | zero =>
    intro h g ar M t1 t36 t37 hn h26 p hp hpl acc hc ha4 hk hs K1 K0
    omega
  | succ k ih =>
    intro h g ar M t1 t36 t37 hn h26 p hp hpl acc hc ha4 hk hs K1 K0
    subst t1
    subst t36
    subst t37
    refine wp_pure k_102 rfl rfl ?_
    refine wm_gi 58 M k_102 rfl rfl rfl rfl hc ?_
    refine wp_br k_102 rfl rfl rfl rfl (fun (z26 : nI acc.length = 0) => ?_) (fun (z26 : ¬ (nI acc.length = 0)) => ?_)
    · have y26 : acc.length = 0 := yE (by omega) (by omega) (show nI acc.length = nI 0 from z26)
      refine wp_pure k_102 rfl rfl ?_
      refine wm_gi 58 M k_102 rfl rfl rfl rfl hc ?_
      refine wp_kn k_102 rfl rfl ?_
      refine wp_br k_102 rfl rfl rfl rfl (fun (z43 : ¬ nI acc.length = nI 4) => ?_) (fun (z43 : ¬ (¬ nI acc.length = nI 4)) => ?_)
      · have y43 : ¬ acc.length = 4 := yNE (by omega) (by omega) z43
        refine wp_pure k_102 rfl rfl ?_
        refine wp_kn k_102 rfl rfl ?_
        refine wm_iv k_102 rfl rfl M [.int (nI 2)] rfl (r := []) (Nat.le_of_ble_eq_true rfl) (Nat.le_of_ble_eq_true rfl) rfl ?_
        refine m_old M hn hl hp (by omega) h26 h5 (fun h1 g1 k1 f1 q1 M1 e1 z1 a1 b1 c1 d1 => ⟨rfl, ?_⟩) (fun h2 g2 q2 M2 e2 z2 a2 => ⟨rfl, ?_⟩)
        · have o1 := oldM_ok z1
          refine wp_br k_102 rfl rfl rfl rfl (fun _ => ?_) (fun z => absurd (show ¬ (nI 1 : Int32) = 0 by decide) z)
          refine wp_pure k_102 rfl rfl ?_
          refine wm_ga 57 M1 k_102 rfl rfl rfl (by decide) ?_
          refine wp_pure k_102 rfl rfl ?_
          refine wm_gi 58 M1 k_102 rfl rfl rfl rfl ((e1 58 (by decide)).trans hc) ?_
          refine wp_pure k_102 rfl rfl ?_
          refine wm_gi 48 M1 k_102 rfl rfl rfl rfl b1 ?_
          refine wm_as 57 M1 k_102 rfl rfl (by decide) rfl (show acc.length < 4 by omega) (fun h3 M3 => ?_)
          refine wp_pure k_102 rfl rfl ?_
          refine wp_pure k_102 rfl rfl ?_
          refine wm_gi 58 M3 k_102 rfl rfl rfl rfl ((e1 58 (by decide)).trans hc) ?_
          refine wp_kn k_102 rfl rfl ?_
          refine wp_addN k_102 rfl ?_
          refine wm_pi 58 M3 k_102 rfl rfl rfl rfl rfl rfl (fun h4 M4 => ?_)
          refine wp_br k_102 rfl rfl rfl rfl (fun _ => ?_) (fun z => absurd trivial z)
          refine ih M4 (uA_ne (by decide)) (uA_ne (by decide)) (uA_ne (by decide)) ((uF_ne (by decide)).trans ((e1 2 (by decide)).trans hn)) ((uF_ne (by decide)).trans ((e1 26 (by decide)).trans h26)) ((uF_ne (by decide)).trans a1) (by omega) (acc := acc ++ [k1]) (by rw [List.length_append]; exact uF_at) (by rw [List.length_append]; show acc.length + 1 ≤ 4; omega) (by rw [List.length_append]; show 5 ≤ acc.length + 1 + k; omega) (fun i hi => ?_) (fun hX gX arX lX qX MX eX fX zX aX bX cX dX => K1 hX gX arX lX qX MX ((((eqx.refl _ _).t e1 (by decide)).u (by decide)).t eX (by decide)) (fun k hk => (fX k hk).trans (uA_ne hk)) ?_ aX bX cX dX) (fun hX gX arX qX MX eX fX zX aX => K0 hX gX arX qX MX ((((eqx.refl _ _).t e1 (by decide)).u (by decide)).t eX (by decide)) (fun k hk => (fX k hk).trans (uA_ne hk)) ?_ aX)
          · rw [List.length_append] at hi
            replace hi : i < acc.length + 1 := hi
            by_cases ei : i = acc.length
            · rw [ei, uA_at, List.getD_eq_getElem?_getD, List.getElem?_append_right (Nat.le_refl _), Nat.sub_self]; rfl
            · rw [uA_nn ei, hs i (by omega), List.getD_eq_getElem?_getD, List.getD_eq_getElem?_getD, List.getElem?_append_left (by omega)]
          · unfold stpM; rw [if_neg (fun q => q.1 (List.eq_nil_of_length_eq_zero y26)), if_neg y43, z1]; exact zX
          · unfold stpM; rw [if_neg (fun q => q.1 (List.eq_nil_of_length_eq_zero y26)), if_neg y43, z1]; exact zX
        · refine wp_br k_102 rfl rfl rfl rfl (fun z => absurd z (show ¬ (¬ (nI 0 : Int32) = 0) by decide)) (fun _ => ?_)
          refine wp_kn k_102 rfl rfl ?_
          exact wp_irt k_102 rfl rfl rfl (K0 _ _ _ _ M2 ((eqx.refl _ _).t e2 (by decide)) (fun _ _ => rfl) (by unfold stpM; rw [if_neg (fun q => q.1 (List.eq_nil_of_length_eq_zero y26)), if_neg y43, z2]) a2)
      · have y43 : acc.length = 4 := yNNE (by omega) (by omega) z43
        refine wp_pure k_102 rfl rfl ?_
        refine wp_pure k_102 rfl rfl ?_
        refine wm_gi 23 M k_102 rfl rfl rfl rfl hp ?_
        refine wm_iv k_102 rfl rfl M [.int (nI p)] rfl (r := []) (Nat.le_of_ble_eq_true rfl) (Nat.le_of_ble_eq_true rfl) rfl ?_
        refine m_wrong M (fun h5 M5 => ⟨rfl, ?_⟩)
        omega
    · have y26 : ¬ acc.length = 0 := yNE (by omega) (by omega) (show ¬ (nI acc.length = nI 0) from z26)
      refine wp_pure k_102 rfl rfl ?_
      refine wm_iv k_102 rfl rfl M [] rfl (r := []) (Nat.le_of_ble_eq_true rfl) (Nat.le_of_ble_eq_true rfl) rfl ?_
      refine m_next M hn hl hp (by omega) ⟨rfl, ?_⟩
      refine wp_kn k_102 rfl rfl ?_
      refine wp_br k_102 rfl rfl rfl rfl (fun (z35 : tk (ar 1) len p = nI 10) => ?_) (fun (z35 : ¬ (tk (ar 1) len p = nI 10)) => ?_)
      · have o35 : p + 1 ≤ len := tkc z35 (by decide)
        refine wp_pure k_102 rfl rfl ?_
        refine wp_pure k_102 rfl rfl ?_
        refine wm_ga 57 M k_102 rfl rfl rfl (by decide) ?_
        refine wp_kn k_102 rfl rfl ?_
        refine wm_al 57 M k_102 rfl rfl (by decide) rfl (show 0 < 4 by omega) rfl ?_
        refine wm_pi 56 M k_102 rfl rfl rfl rfl rfl rfl (fun h6 M6 => ?_)
        refine wp_pure k_102 rfl rfl ?_
        refine wp_kn k_102 rfl rfl ?_
        refine wm_iv k_102 rfl rfl M6 [.int (nI 10)] rfl (r := []) (Nat.le_of_ble_eq_true rfl) (Nat.le_of_ble_eq_true rfl) rfl ?_
        refine m_takes M6 ((uF_ne (by decide)).trans hn) hl ((uF_ne (by decide)).trans hp) (by omega) (fun z7 h7 M7 => ⟨rfl, ?_⟩) (fun z8 h8 M8 => ⟨rfl, ?_⟩)
        · have o7 : p + 1 ≤ len := tkc z7 (by decide)
          exact wp_irt k_102 rfl rfl rfl (K1 _ _ _ acc _ M7 (((eqx.refl _ _).u (by decide)).u (by decide)) (fun _ _ => rfl) (by unfold stpM; rw [if_pos ⟨fun q => y26 (by rw [q]; rfl), z35⟩]) uF_at ((uF_ne (by decide)).trans ((uF_ne (by decide)).trans hc)) (((uF_ne (by decide)).trans uF_at).trans (hs 0 (by omega))) hs)
        · exact absurd z35 z8
      · refine wp_pure k_102 rfl rfl ?_
        refine wm_gi 58 M k_102 rfl rfl rfl rfl hc ?_
        refine wp_kn k_102 rfl rfl ?_
        refine wp_br k_102 rfl rfl rfl rfl (fun (z43 : ¬ nI acc.length = nI 4) => ?_) (fun (z43 : ¬ (¬ nI acc.length = nI 4)) => ?_)
        · have y43 : ¬ acc.length = 4 := yNE (by omega) (by omega) z43
          refine wp_pure k_102 rfl rfl ?_
          refine wp_kn k_102 rfl rfl ?_
          refine wm_iv k_102 rfl rfl M [.int (nI 2)] rfl (r := []) (Nat.le_of_ble_eq_true rfl) (Nat.le_of_ble_eq_true rfl) rfl ?_
          refine m_old M hn hl hp (by omega) h26 h5 (fun h9 g9 k9 f9 q9 M9 e9 z9 a9 b9 c9 d9 => ⟨rfl, ?_⟩) (fun h10 g10 q10 M10 e10 z10 a10 => ⟨rfl, ?_⟩)
          · have o9 := oldM_ok z9
            refine wp_br k_102 rfl rfl rfl rfl (fun _ => ?_) (fun z => absurd (show ¬ (nI 1 : Int32) = 0 by decide) z)
            refine wp_pure k_102 rfl rfl ?_
            refine wm_ga 57 M9 k_102 rfl rfl rfl (by decide) ?_
            refine wp_pure k_102 rfl rfl ?_
            refine wm_gi 58 M9 k_102 rfl rfl rfl rfl ((e9 58 (by decide)).trans hc) ?_
            refine wp_pure k_102 rfl rfl ?_
            refine wm_gi 48 M9 k_102 rfl rfl rfl rfl b9 ?_
            refine wm_as 57 M9 k_102 rfl rfl (by decide) rfl (show acc.length < 4 by omega) (fun h11 M11 => ?_)
            refine wp_pure k_102 rfl rfl ?_
            refine wp_pure k_102 rfl rfl ?_
            refine wm_gi 58 M11 k_102 rfl rfl rfl rfl ((e9 58 (by decide)).trans hc) ?_
            refine wp_kn k_102 rfl rfl ?_
            refine wp_addN k_102 rfl ?_
            refine wm_pi 58 M11 k_102 rfl rfl rfl rfl rfl rfl (fun h12 M12 => ?_)
            refine wp_br k_102 rfl rfl rfl rfl (fun _ => ?_) (fun z => absurd trivial z)
            refine ih M12 (uA_ne (by decide)) (uA_ne (by decide)) (uA_ne (by decide)) ((uF_ne (by decide)).trans ((e9 2 (by decide)).trans hn)) ((uF_ne (by decide)).trans ((e9 26 (by decide)).trans h26)) ((uF_ne (by decide)).trans a9) (by omega) (acc := acc ++ [k9]) (by rw [List.length_append]; exact uF_at) (by rw [List.length_append]; show acc.length + 1 ≤ 4; omega) (by rw [List.length_append]; show 5 ≤ acc.length + 1 + k; omega) (fun i hi => ?_) (fun hX gX arX lX qX MX eX fX zX aX bX cX dX => K1 hX gX arX lX qX MX ((((eqx.refl _ _).t e9 (by decide)).u (by decide)).t eX (by decide)) (fun k hk => (fX k hk).trans (uA_ne hk)) ?_ aX bX cX dX) (fun hX gX arX qX MX eX fX zX aX => K0 hX gX arX qX MX ((((eqx.refl _ _).t e9 (by decide)).u (by decide)).t eX (by decide)) (fun k hk => (fX k hk).trans (uA_ne hk)) ?_ aX)
            · rw [List.length_append] at hi
              replace hi : i < acc.length + 1 := hi
              by_cases ei : i = acc.length
              · rw [ei, uA_at, List.getD_eq_getElem?_getD, List.getElem?_append_right (Nat.le_refl _), Nat.sub_self]; rfl
              · rw [uA_nn ei, hs i (by omega), List.getD_eq_getElem?_getD, List.getD_eq_getElem?_getD, List.getElem?_append_left (by omega)]
            · unfold stpM; rw [if_neg (fun q => z35 q.2), if_neg y43, z9]; exact zX
            · unfold stpM; rw [if_neg (fun q => z35 q.2), if_neg y43, z9]; exact zX
          · refine wp_br k_102 rfl rfl rfl rfl (fun z => absurd z (show ¬ (¬ (nI 0 : Int32) = 0) by decide)) (fun _ => ?_)
            refine wp_kn k_102 rfl rfl ?_
            exact wp_irt k_102 rfl rfl rfl (K0 _ _ _ _ M10 ((eqx.refl _ _).t e10 (by decide)) (fun _ _ => rfl) (by unfold stpM; rw [if_neg (fun q => z35 q.2), if_neg y43, z10]) a10)
        · have y43 : acc.length = 4 := yNNE (by omega) (by omega) z43
          refine wp_pure k_102 rfl rfl ?_
          refine wp_pure k_102 rfl rfl ?_
          refine wm_gi 23 M k_102 rfl rfl rfl rfl hp ?_
          refine wm_iv k_102 rfl rfl M [.int (nI p)] rfl (r := []) (Nat.le_of_ble_eq_true rfl) (Nat.le_of_ble_eq_true rfl) rfl ?_
          refine m_wrong M (fun h13 M13 => ⟨rfl, ?_⟩)
          exact wp_irt k_102 rfl rfl rfl (K0 _ _ _ _ M13 ((eqx.refl _ _).u (by decide)) (fun _ _ => rfl) (by unfold stpM; rw [if_neg (fun q => z35 q.2), if_pos y43]) uF_at)
theorem m_lift {h0 h : sm_H} {m : Nat} {g : Nat → Int32} {ar : Nat → Nat → Int32} {Q : Nat → Option Value → sm_H → Prop} (M : MS h0 h m g ar) {len p : Nat} (hn : g 2 = nI len) (hl : len ≤ 3000) (hp : g 23 = nI p) (hpl : p ≤ len) {n : Nat} (h26 : g 26 = nI n) (h5 : n ≤ 501) (K1 : ∀ h' g' ar' v l q, MS h0 h' m g' ar' → eqx [23, 48, 49, 50, 56, 58] g g' → (∀ k, k ≠ 57 → ar' k = ar k) → lftM (ar 1) len (ar 37) (ar 36) n p = .ok (v, l, q) → g' 23 = nI q → g' 50 = v → g' 58 = nI l.length → g' 56 = nI (l.getD 0 0) → (∀ i, i < l.length → ar' 57 i = nI (l.getD i 0)) → Q 0 (some (.int (nI 1))) h') (K0 : ∀ h' g' ar' q, MS h0 h' m g' ar' → eqx [23, 24, 48, 49, 50, 56, 58] g g' → (∀ k, k ≠ 57 → ar' k = ar k) → lftM (ar 1) len (ar 37) (ar 36) n p = .error q → g' 24 = nI q → Q 0 (some (.int (nI 0))) h') : sm_wp 102 0 [.ref m] [] h Q := by
  refine wp_pure k_102 rfl rfl ?_
  refine wm_iv k_102 rfl rfl M [] rfl (r := []) (Nat.le_of_ble_eq_true rfl) (Nat.le_of_ble_eq_true rfl) rfl ?_
  refine m_new M hn hl hp (by omega) h26 h5 (fun h1 g1 v1 q1 M1 e1 z1 a1 b1 => ⟨rfl, ?_⟩) (fun h2 g2 q2 M2 e2 z2 a2 => ⟨rfl, ?_⟩)
  · have o1 := newM_ok z1
    refine wp_br k_102 rfl rfl rfl rfl (fun _ => ?_) (fun z => absurd (show ¬ (nI 1 : Int32) = 0 by decide) z)
    refine wp_pure k_102 rfl rfl ?_
    refine wp_pure k_102 rfl rfl ?_
    refine wm_gi 48 M1 k_102 rfl rfl rfl rfl b1 ?_
    refine wm_pi 50 M1 k_102 rfl rfl rfl rfl rfl rfl (fun h3 M3 => ?_)
    refine wp_pure k_102 rfl rfl ?_
    refine wp_kn k_102 rfl rfl ?_
    refine wm_pi 58 M3 k_102 rfl rfl rfl rfl rfl rfl (fun h4 M4 => ?_)
    refine m_liftL hl h5 6 M4 rfl rfl rfl ((uF_ne (by decide)).trans ((uF_ne (by decide)).trans ((e1 2 (by decide)).trans hn))) ((uF_ne (by decide)).trans ((uF_ne (by decide)).trans ((e1 26 (by decide)).trans h26))) ((uF_ne (by decide)).trans ((uF_ne (by decide)).trans a1)) (by omega) (acc := []) uF_at (by decide) (by decide) (fun i hi => absurd hi (Nat.not_lt_zero i)) (fun hX gX arX lX qX MX eX fX zX aX bX cX dX => K1 hX gX arX _ lX qX MX (((((eqx.refl _ _).t e1 (by decide)).u (by decide)).u (by decide)).t eX (by decide)) fX (by simp only [lftM, z1, zX]) aX ((eX 50 (by decide)).trans ((uF_ne (by decide)).trans uF_at)) bX cX dX) (fun hX gX arX qX MX eX fX zX aX => K0 hX gX arX qX MX (((((eqx.refl _ _).t e1 (by decide)).u (by decide)).u (by decide)).t eX (by decide)) fX (by simp only [lftM, z1, zX]) aX)
  · refine wp_br k_102 rfl rfl rfl rfl (fun z => absurd z (show ¬ (¬ (nI 0 : Int32) = 0) by decide)) (fun _ => ?_)
    refine wp_kn k_102 rfl rfl ?_
    exact wp_irt k_102 rfl rfl rfl (K0 _ _ _ _ M2 ((eqx.refl _ _).t e2 (by decide)) (fun _ _ => rfl) (by simp only [lftM, z2]) a2)
