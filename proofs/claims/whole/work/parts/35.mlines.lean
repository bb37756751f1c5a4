theorem m_area {h0 h : sm_H} {m : Nat} {g : Nat → Int32} {ar : Nat → Nat → Int32} {Q : Nat → Option Value → sm_H → Prop} (M : MS h0 h m g ar) {len p : Nat} (hn : g 2 = nI len) (hl : len ≤ 3000) (hp : g 23 = nI p) (hpl : p ≤ len) (K1 : ∀ h' g' x y w hh q, MS h0 h' m g' ar → eqx [23, 48, 49, 51, 52, 53, 54] g g' → areaM (ar 1) len p = .ok (x, y, w, hh, q) → g' 23 = nI q → g' 51 = nI x → g' 52 = nI y → g' 53 = nI w → g' 54 = nI hh → Q 0 (some (.int (nI 1))) h') (K0 : ∀ h' g' q, MS h0 h' m g' ar → eqx [23, 24, 48, 49, 51, 52, 53, 54] g g' → areaM (ar 1) len p = .error q → g' 24 = nI q → Q 0 (some (.int (nI 0))) h') : sm_wp 97 0 [.ref m] [] h Q := by
  refine wp_pure k_97 rfl rfl ?_
  refine wp_kn k_97 rfl rfl ?_
  refine wp_kn k_97 rfl rfl ?_
  refine wm_iv k_97 rfl rfl M [.int (nI 0), .int (nI 39)] rfl (r := []) (Nat.le_of_ble_eq_true rfl) (Nat.le_of_ble_eq_true rfl) rfl ?_
  refine m_number M hn hl hp (by omega) (low := 0) (high := 39) (by omega) (by omega) (fun h1 g1 v1 q1 M1 e1 z1 a1 b1 => ⟨rfl, ?_⟩) (fun h2 g2 q2 M2 e2 z2 a2 => ⟨rfl, ?_⟩)
  · have o1 := numM_ok z1
    refine wp_br k_97 rfl rfl rfl rfl (fun _ => ?_) (fun z => absurd (show ¬ (nI 1 : Int32) = 0 by decide) z)
    refine wp_pure k_97 rfl rfl ?_
    refine wp_pure k_97 rfl rfl ?_
    refine wm_gi 48 M1 k_97 rfl rfl rfl rfl b1 ?_
    refine wm_pi 51 M1 k_97 rfl rfl rfl rfl rfl rfl (fun h3 M3 => ?_)
    refine wp_pure k_97 rfl rfl ?_
    refine wp_kn k_97 rfl rfl ?_
    refine wp_kn k_97 rfl rfl ?_
    refine wm_iv k_97 rfl rfl M3 [.int (nI 0), .int (nI 19)] rfl (r := []) (Nat.le_of_ble_eq_true rfl) (Nat.le_of_ble_eq_true rfl) rfl ?_
    refine m_number M3 ((uF_ne (by decide)).trans ((e1 2 (by decide)).trans hn)) hl ((uF_ne (by decide)).trans a1) (by omega) (low := 0) (high := 19) (by omega) (by omega) (fun h4 g4 v4 q4 M4 e4 z4 a4 b4 => ⟨rfl, ?_⟩) (fun h5 g5 q5 M5 e5 z5 a5 => ⟨rfl, ?_⟩)
    · have o4 := numM_ok z4
      refine wp_br k_97 rfl rfl rfl rfl (fun _ => ?_) (fun z => absurd (show ¬ (nI 1 : Int32) = 0 by decide) z)
      refine wp_pure k_97 rfl rfl ?_
      refine wp_pure k_97 rfl rfl ?_
      refine wm_gi 48 M4 k_97 rfl rfl rfl rfl b4 ?_
      refine wm_pi 52 M4 k_97 rfl rfl rfl rfl rfl rfl (fun h6 M6 => ?_)
      refine wp_pure k_97 rfl rfl ?_
      refine wp_kn k_97 rfl rfl ?_
      refine wp_kn k_97 rfl rfl ?_
      refine wp_pure k_97 rfl rfl ?_
      refine wm_gi 51 M6 k_97 rfl rfl rfl rfl ((uF_ne (by decide)).trans ((e4 51 (by decide)).trans uF_at)) ?_
      refine wp_subN k_97 rfl (show v1 ≤ 40 by omega) ?_
      refine wm_iv k_97 rfl rfl M6 [.int (nI 1), .int (nI (40 - v1))] rfl (r := []) (Nat.le_of_ble_eq_true rfl) (Nat.le_of_ble_eq_true rfl) rfl ?_
      refine m_number M6 ((uF_ne (by decide)).trans ((e4 2 (by decide)).trans ((uF_ne (by decide)).trans ((e1 2 (by decide)).trans hn)))) hl ((uF_ne (by decide)).trans a4) (by omega) (low := 1) (high := 40 - v1) (by omega) (by omega) (fun h7 g7 v7 q7 M7 e7 z7 a7 b7 => ⟨rfl, ?_⟩) (fun h8 g8 q8 M8 e8 z8 a8 => ⟨rfl, ?_⟩)
      · have o7 := numM_ok z7
        refine wp_br k_97 rfl rfl rfl rfl (fun _ => ?_) (fun z => absurd (show ¬ (nI 1 : Int32) = 0 by decide) z)
        refine wp_pure k_97 rfl rfl ?_
        refine wp_pure k_97 rfl rfl ?_
        refine wm_gi 48 M7 k_97 rfl rfl rfl rfl b7 ?_
        refine wm_pi 53 M7 k_97 rfl rfl rfl rfl rfl rfl (fun h9 M9 => ?_)
        refine wp_pure k_97 rfl rfl ?_
        refine wp_kn k_97 rfl rfl ?_
        refine wp_kn k_97 rfl rfl ?_
        refine wp_pure k_97 rfl rfl ?_
        refine wm_gi 52 M9 k_97 rfl rfl rfl rfl ((uF_ne (by decide)).trans ((e7 52 (by decide)).trans uF_at)) ?_
        refine wp_subN k_97 rfl (show v4 ≤ 20 by omega) ?_
        refine wm_iv k_97 rfl rfl M9 [.int (nI 1), .int (nI (20 - v4))] rfl (r := []) (Nat.le_of_ble_eq_true rfl) (Nat.le_of_ble_eq_true rfl) rfl ?_
        refine m_number M9 ((uF_ne (by decide)).trans ((e7 2 (by decide)).trans ((uF_ne (by decide)).trans ((e4 2 (by decide)).trans ((uF_ne (by decide)).trans ((e1 2 (by decide)).trans hn)))))) hl ((uF_ne (by decide)).trans a7) (by omega) (low := 1) (high := 20 - v4) (by omega) (by omega) (fun h10 g10 v10 q10 M10 e10 z10 a10 b10 => ⟨rfl, ?_⟩) (fun h11 g11 q11 M11 e11 z11 a11 => ⟨rfl, ?_⟩)
        · have o10 := numM_ok z10
          refine wp_br k_97 rfl rfl rfl rfl (fun _ => ?_) (fun z => absurd (show ¬ (nI 1 : Int32) = 0 by decide) z)
          refine wp_pure k_97 rfl rfl ?_
          refine wp_pure k_97 rfl rfl ?_
          refine wm_gi 48 M10 k_97 rfl rfl rfl rfl b10 ?_
          refine wm_pi 54 M10 k_97 rfl rfl rfl rfl rfl rfl (fun h12 M12 => ?_)
          refine wp_pure k_97 rfl rfl ?_
          refine wp_kn k_97 rfl rfl ?_
          refine wm_iv k_97 rfl rfl M12 [.int (nI 10)] rfl (r := []) (Nat.le_of_ble_eq_true rfl) (Nat.le_of_ble_eq_true rfl) rfl ?_
          refine m_takes M12 ((uF_ne (by decide)).trans ((e10 2 (by decide)).trans ((uF_ne (by decide)).trans ((e7 2 (by decide)).trans ((uF_ne (by decide)).trans ((e4 2 (by decide)).trans ((uF_ne (by decide)).trans ((e1 2 (by decide)).trans hn)))))))) hl ((uF_ne (by decide)).trans a10) (by omega) (fun z13 h13 M13 => ⟨rfl, ?_⟩) (fun z14 h14 M14 => ⟨rfl, ?_⟩)
          · have o13 : q10 + 1 ≤ len := tkc z13 (by decide)
            exact wp_irt k_97 rfl rfl rfl (K1 _ _ _ _ _ _ _ M13 ((((((((((eqx.refl _ _).t e1 (by decide)).u (by decide)).t e4 (by decide)).u (by decide)).t e7 (by decide)).u (by decide)).t e10 (by decide)).u (by decide)).u (by decide)) (by simp only [areaM, z1, z4, z7, z10, skM_ok z13]) uF_at ((uF_ne (by decide)).trans ((uF_ne (by decide)).trans ((e10 51 (by decide)).trans ((uF_ne (by decide)).trans ((e7 51 (by decide)).trans ((uF_ne (by decide)).trans ((e4 51 (by decide)).trans uF_at))))))) ((uF_ne (by decide)).trans ((uF_ne (by decide)).trans ((e10 52 (by decide)).trans ((uF_ne (by decide)).trans ((e7 52 (by decide)).trans uF_at))))) ((uF_ne (by decide)).trans ((uF_ne (by decide)).trans ((e10 53 (by decide)).trans uF_at))) ((uF_ne (by decide)).trans uF_at))
          · exact wp_irt k_97 rfl rfl rfl (K0 _ _ _ M14 ((((((((((eqx.refl _ _).t e1 (by decide)).u (by decide)).t e4 (by decide)).u (by decide)).t e7 (by decide)).u (by decide)).t e10 (by decide)).u (by decide)).u (by decide)) (by simp only [areaM, z1, z4, z7, z10, skM_er z14]) uF_at)
        · refine wp_br k_97 rfl rfl rfl rfl (fun z => absurd z (show ¬ (¬ (nI 0 : Int32) = 0) by decide)) (fun _ => ?_)
          refine wp_kn k_97 rfl rfl ?_
          exact wp_irt k_97 rfl rfl rfl (K0 _ _ _ M11 ((((((((eqx.refl _ _).t e1 (by decide)).u (by decide)).t e4 (by decide)).u (by decide)).t e7 (by decide)).u (by decide)).t e11 (by decide)) (by simp only [areaM, z1, z4, z7, z11]) a11)
      · refine wp_br k_97 rfl rfl rfl rfl (fun z => absurd z (show ¬ (¬ (nI 0 : Int32) = 0) by decide)) (fun _ => ?_)
        refine wp_kn k_97 rfl rfl ?_
        exact wp_irt k_97 rfl rfl rfl (K0 _ _ _ M8 ((((((eqx.refl _ _).t e1 (by decide)).u (by decide)).t e4 (by decide)).u (by decide)).t e8 (by decide)) (by simp only [areaM, z1, z4, z8]) a8)
    · refine wp_br k_97 rfl rfl rfl rfl (fun z => absurd z (show ¬ (¬ (nI 0 : Int32) = 0) by decide)) (fun _ => ?_)
      refine wp_kn k_97 rfl rfl ?_
      exact wp_irt k_97 rfl rfl rfl (K0 _ _ _ M5 ((((eqx.refl _ _).t e1 (by decide)).u (by decide)).t e5 (by decide)) (by simp only [areaM, z1, z5]) a5)
  · refine wp_br k_97 rfl rfl rfl rfl (fun z => absurd z (show ¬ (¬ (nI 0 : Int32) = 0) by decide)) (fun _ => ?_)
    refine wp_kn k_97 rfl rfl ?_
    exact wp_irt k_97 rfl rfl rfl (K0 _ _ _ M2 ((eqx.refl _ _).t e2 (by decide)) (by simp only [areaM, z2]) a2)
theorem m_rack {h0 h : sm_H} {m : Nat} {g : Nat → Int32} {ar : Nat → Nat → Int32} {Q : Nat → Option Value → sm_H → Prop} (M : MS h0 h m g ar) {len p : Nat} (hn : g 2 = nI len) (hl : len ≤ 3000) (hp : g 23 = nI p) (hpl : p ≤ len) {n : Nat} (h26 : g 26 = nI n) (h5 : n ≤ 501) (K1 : ∀ h' g' v x y w hh q, MS h0 h' m g' ar → eqx [23, 48, 49, 50, 51, 52, 53, 54] g g' → rackM (ar 1) len (ar 37) n p = .ok (v, x, y, w, hh, q) → g' 23 = nI q → g' 50 = v → g' 51 = nI x → g' 52 = nI y → g' 53 = nI w → g' 54 = nI hh → Q 0 (some (.int (nI 1))) h') (K0 : ∀ h' g' q, MS h0 h' m g' ar → eqx [23, 24, 48, 49, 50, 51, 52, 53, 54] g g' → rackM (ar 1) len (ar 37) n p = .error q → g' 24 = nI q → Q 0 (some (.int (nI 0))) h') : sm_wp 90 0 [.ref m] [] h Q := by
  refine wp_pure k_90 rfl rfl ?_
  refine wm_iv k_90 rfl rfl M [] rfl (r := []) (Nat.le_of_ble_eq_true rfl) (Nat.le_of_ble_eq_true rfl) rfl ?_
  refine m_new M hn hl hp (by omega) h26 h5 (fun h1 g1 v1 q1 M1 e1 z1 a1 b1 => ⟨rfl, ?_⟩) (fun h2 g2 q2 M2 e2 z2 a2 => ⟨rfl, ?_⟩)
  · have o1 := newM_ok z1
    refine wp_br k_90 rfl rfl rfl rfl (fun _ => ?_) (fun z => absurd (show ¬ (nI 1 : Int32) = 0 by decide) z)
    refine wp_pure k_90 rfl rfl ?_
    refine wp_pure k_90 rfl rfl ?_
    refine wm_gi 48 M1 k_90 rfl rfl rfl rfl b1 ?_
    refine wm_pi 50 M1 k_90 rfl rfl rfl rfl rfl rfl (fun h3 M3 => ?_)
    refine wp_pure k_90 rfl rfl ?_
    refine wm_iv k_90 rfl rfl M3 [] rfl (r := []) (Nat.le_of_ble_eq_true rfl) (Nat.le_of_ble_eq_true rfl) rfl ?_
    refine m_area M3 ((uF_ne (by decide)).trans ((e1 2 (by decide)).trans hn)) hl ((uF_ne (by decide)).trans a1) (by omega) (fun h4 g4 x4 y4 w4 hh4 q4 M4 e4 z4 a4 b4 c4 d4 f4 => ⟨rfl, ?_⟩) (fun h5 g5 q5 M5 e5 z5 a5 => ⟨rfl, ?_⟩)
    · have o4 := areaM_ok z4
      exact wp_irt k_90 rfl rfl rfl (K1 _ _ _ _ _ _ _ _ M4 ((((eqx.refl _ _).t e1 (by decide)).u (by decide)).t e4 (by decide)) (by simp only [rackM, z1, z4]) a4 ((e4 50 (by decide)).trans uF_at) b4 c4 d4 f4)
    · exact wp_irt k_90 rfl rfl rfl (K0 _ _ _ M5 ((((eqx.refl _ _).t e1 (by decide)).u (by decide)).t e5 (by decide)) (by simp only [rackM, z1, z5]) a5)
  · refine wp_br k_90 rfl rfl rfl rfl (fun z => absurd z (show ¬ (¬ (nI 0 : Int32) = 0) by decide)) (fun _ => ?_)
    refine wp_kn k_90 rfl rfl ?_
    exact wp_irt k_90 rfl rfl rfl (K0 _ _ _ M2 ((eqx.refl _ _).t e2 (by decide)) (by simp only [rackM, z2]) a2)
theorem m_bin {h0 h : sm_H} {m : Nat} {g : Nat → Int32} {ar : Nat → Nat → Int32} {Q : Nat → Option Value → sm_H → Prop} (M : MS h0 h m g ar) {len p : Nat} (hn : g 2 = nI len) (hl : len ≤ 3000) (hp : g 23 = nI p) (hpl : p ≤ len) {n : Nat} (h26 : g 26 = nI n) (h5 : n ≤ 501) (K1 : ∀ h' g' v r l x y w hh q, MS h0 h' m g' ar → eqx [23, 48, 49, 50, 51, 52, 53, 54, 55, 56] g g' → binM (ar 1) len (ar 37) (ar 36) n p = .ok (v, r, l, x, y, w, hh, q) → g' 23 = nI q → g' 50 = v → g' 56 = nI r → g' 55 = nI l → g' 51 = nI x → g' 52 = nI y → g' 53 = nI w → g' 54 = nI hh → Q 0 (some (.int (nI 1))) h') (K0 : ∀ h' g' q, MS h0 h' m g' ar → eqx [23, 24, 48, 49, 50, 51, 52, 53, 54, 55, 56] g g' → binM (ar 1) len (ar 37) (ar 36) n p = .error q → g' 24 = nI q → Q 0 (some (.int (nI 0))) h') : sm_wp 99 0 [.ref m] [] h Q := by
  refine wp_pure k_99 rfl rfl ?_
  refine wm_iv k_99 rfl rfl M [] rfl (r := []) (Nat.le_of_ble_eq_true rfl) (Nat.le_of_ble_eq_true rfl) rfl ?_
  refine m_new M hn hl hp (by omega) h26 h5 (fun h1 g1 v1 q1 M1 e1 z1 a1 b1 => ⟨rfl, ?_⟩) (fun h2 g2 q2 M2 e2 z2 a2 => ⟨rfl, ?_⟩)
  · have o1 := newM_ok z1
    refine wp_br k_99 rfl rfl rfl rfl (fun _ => ?_) (fun z => absurd (show ¬ (nI 1 : Int32) = 0 by decide) z)
    refine wp_pure k_99 rfl rfl ?_
    refine wp_pure k_99 rfl rfl ?_
    refine wm_gi 48 M1 k_99 rfl rfl rfl rfl b1 ?_
    refine wm_pi 50 M1 k_99 rfl rfl rfl rfl rfl rfl (fun h3 M3 => ?_)
    refine wp_pure k_99 rfl rfl ?_
    refine wp_kn k_99 rfl rfl ?_
    refine wm_iv k_99 rfl rfl M3 [.int (nI 0)] rfl (r := []) (Nat.le_of_ble_eq_true rfl) (Nat.le_of_ble_eq_true rfl) rfl ?_
    refine m_old M3 ((uF_ne (by decide)).trans ((e1 2 (by decide)).trans hn)) hl ((uF_ne (by decide)).trans a1) (by omega) ((uF_ne (by decide)).trans ((e1 26 (by decide)).trans h26)) h5 (fun h4 g4 k4 f4 q4 M4 e4 z4 a4 b4 c4 d4 => ⟨rfl, ?_⟩) (fun h5 g5 q5 M5 e5 z5 a5 => ⟨rfl, ?_⟩)
    · have o4 := oldM_ok z4
      refine wp_br k_99 rfl rfl rfl rfl (fun _ => ?_) (fun z => absurd (show ¬ (nI 1 : Int32) = 0 by decide) z)
      refine wp_pure k_99 rfl rfl ?_
      refine wp_pure k_99 rfl rfl ?_
      refine wm_gi 48 M4 k_99 rfl rfl rfl rfl b4 ?_
      refine wm_pi 56 M4 k_99 rfl rfl rfl rfl rfl rfl (fun h6 M6 => ?_)
      refine wp_pure k_99 rfl rfl ?_
      refine wp_kn k_99 rfl rfl ?_
      refine wp_kn k_99 rfl rfl ?_
      refine wm_iv k_99 rfl rfl M6 [.int (nI 1), .int (nI 9)] rfl (r := []) (Nat.le_of_ble_eq_true rfl) (Nat.le_of_ble_eq_true rfl) rfl ?_
      refine m_number M6 ((uF_ne (by decide)).trans ((e4 2 (by decide)).trans ((uF_ne (by decide)).trans ((e1 2 (by decide)).trans hn)))) hl ((uF_ne (by decide)).trans a4) (by omega) (low := 1) (high := 9) (by omega) (by omega) (fun h7 g7 v7 q7 M7 e7 z7 a7 b7 => ⟨rfl, ?_⟩) (fun h8 g8 q8 M8 e8 z8 a8 => ⟨rfl, ?_⟩)
      · have o7 := numM_ok z7
        refine wp_br k_99 rfl rfl rfl rfl (fun _ => ?_) (fun z => absurd (show ¬ (nI 1 : Int32) = 0 by decide) z)
        refine wp_pure k_99 rfl rfl ?_
        refine wp_pure k_99 rfl rfl ?_
        refine wm_gi 48 M7 k_99 rfl rfl rfl rfl b7 ?_
        refine wm_pi 55 M7 k_99 rfl rfl rfl rfl rfl rfl (fun h9 M9 => ?_)
        refine wp_pure k_99 rfl rfl ?_
        refine wm_iv k_99 rfl rfl M9 [] rfl (r := []) (Nat.le_of_ble_eq_true rfl) (Nat.le_of_ble_eq_true rfl) rfl ?_
        refine m_area M9 ((uF_ne (by decide)).trans ((e7 2 (by decide)).trans ((uF_ne (by decide)).trans ((e4 2 (by decide)).trans ((uF_ne (by decide)).trans ((e1 2 (by decide)).trans hn)))))) hl ((uF_ne (by decide)).trans a7) (by omega) (fun h10 g10 x10 y10 w10 hh10 q10 M10 e10 z10 a10 b10 c10 d10 f10 => ⟨rfl, ?_⟩) (fun h11 g11 q11 M11 e11 z11 a11 => ⟨rfl, ?_⟩)
        · have o10 := areaM_ok z10
          exact wp_irt k_99 rfl rfl rfl (K1 _ _ _ _ _ _ _ _ _ _ M10 ((((((((eqx.refl _ _).t e1 (by decide)).u (by decide)).t e4 (by decide)).u (by decide)).t e7 (by decide)).u (by decide)).t e10 (by decide)) (by simp only [binM, z1, z4, z7, z10]) a10 ((e10 50 (by decide)).trans ((uF_ne (by decide)).trans ((e7 50 (by decide)).trans ((uF_ne (by decide)).trans ((e4 50 (by decide)).trans uF_at))))) ((e10 56 (by decide)).trans ((uF_ne (by decide)).trans ((e7 56 (by decide)).trans uF_at))) ((e10 55 (by decide)).trans uF_at) b10 c10 d10 f10)
        · exact wp_irt k_99 rfl rfl rfl (K0 _ _ _ M11 ((((((((eqx.refl _ _).t e1 (by decide)).u (by decide)).t e4 (by decide)).u (by decide)).t e7 (by decide)).u (by decide)).t e11 (by decide)) (by simp only [binM, z1, z4, z7, z11]) a11)
      · refine wp_br k_99 rfl rfl rfl rfl (fun z => absurd z (show ¬ (¬ (nI 0 : Int32) = 0) by decide)) (fun _ => ?_)
        refine wp_kn k_99 rfl rfl ?_
        exact wp_irt k_99 rfl rfl rfl (K0 _ _ _ M8 ((((((eqx.refl _ _).t e1 (by decide)).u (by decide)).t e4 (by decide)).u (by decide)).t e8 (by decide)) (by simp only [binM, z1, z4, z8]) a8)
    · refine wp_br k_99 rfl rfl rfl rfl (fun z => absurd z (show ¬ (¬ (nI 0 : Int32) = 0) by decide)) (fun _ => ?_)
      refine wp_kn k_99 rfl rfl ?_
      exact wp_irt k_99 rfl rfl rfl (K0 _ _ _ M5 ((((eqx.refl _ _).t e1 (by decide)).u (by decide)).t e5 (by decide)) (by simp only [binM, z1, z5]) a5)
  · refine wp_br k_99 rfl rfl rfl rfl (fun z => absurd z (show ¬ (¬ (nI 0 : Int32) = 0) by decide)) (fun _ => ?_)
    refine wp_kn k_99 rfl rfl ?_
    exact wp_irt k_99 rfl rfl rfl (K0 _ _ _ M2 ((eqx.refl _ _).t e2 (by decide)) (by simp only [binM, z2]) a2)
theorem m_piece {h0 h : sm_H} {m : Nat} {g : Nat → Int32} {ar : Nat → Nat → Int32} {Q : Nat → Option Value → sm_H → Prop} (M : MS h0 h m g ar) {len p : Nat} (hn : g 2 = nI len) (hl : len ≤ 3000) (hp : g 23 = nI p) (hpl : p ≤ len) {n : Nat} (h26 : g 26 = nI n) (h5 : n ≤ 501) (K1 : ∀ h' g' v x y q, MS h0 h' m g' ar → eqx [23, 48, 49, 50, 51, 52] g g' → pieceM (ar 1) len (ar 37) n p = .ok (v, x, y, q) → g' 23 = nI q → g' 50 = v → g' 51 = nI x → g' 52 = nI y → Q 0 (some (.int (nI 1))) h') (K0 : ∀ h' g' q, MS h0 h' m g' ar → eqx [23, 24, 48, 49, 50, 51, 52] g g' → pieceM (ar 1) len (ar 37) n p = .error q → g' 24 = nI q → Q 0 (some (.int (nI 0))) h') : sm_wp 101 0 [.ref m] [] h Q := by
  refine wp_pure k_101 rfl rfl ?_
  refine wm_iv k_101 rfl rfl M [] rfl (r := []) (Nat.le_of_ble_eq_true rfl) (Nat.le_of_ble_eq_true rfl) rfl ?_
  refine m_new M hn hl hp (by omega) h26 h5 (fun h1 g1 v1 q1 M1 e1 z1 a1 b1 => ⟨rfl, ?_⟩) (fun h2 g2 q2 M2 e2 z2 a2 => ⟨rfl, ?_⟩)
  · have o1 := newM_ok z1
    refine wp_br k_101 rfl rfl rfl rfl (fun _ => ?_) (fun z => absurd (show ¬ (nI 1 : Int32) = 0 by decide) z)
    refine wp_pure k_101 rfl rfl ?_
    refine wp_pure k_101 rfl rfl ?_
    refine wm_gi 48 M1 k_101 rfl rfl rfl rfl b1 ?_
    refine wm_pi 50 M1 k_101 rfl rfl rfl rfl rfl rfl (fun h3 M3 => ?_)
    refine wp_pure k_101 rfl rfl ?_
    refine wp_kn k_101 rfl rfl ?_
    refine wp_kn k_101 rfl rfl ?_
    refine wm_iv k_101 rfl rfl M3 [.int (nI 0), .int (nI 39)] rfl (r := []) (Nat.le_of_ble_eq_true rfl) (Nat.le_of_ble_eq_true rfl) rfl ?_
    refine m_number M3 ((uF_ne (by decide)).trans ((e1 2 (by decide)).trans hn)) hl ((uF_ne (by decide)).trans a1) (by omega) (low := 0) (high := 39) (by omega) (by omega) (fun h4 g4 v4 q4 M4 e4 z4 a4 b4 => ⟨rfl, ?_⟩) (fun h5 g5 q5 M5 e5 z5 a5 => ⟨rfl, ?_⟩)
    · have o4 := numM_ok z4
      refine wp_br k_101 rfl rfl rfl rfl (fun _ => ?_) (fun z => absurd (show ¬ (nI 1 : Int32) = 0 by decide) z)
      refine wp_pure k_101 rfl rfl ?_
      refine wp_pure k_101 rfl rfl ?_
      refine wm_gi 48 M4 k_101 rfl rfl rfl rfl b4 ?_
      refine wm_pi 51 M4 k_101 rfl rfl rfl rfl rfl rfl (fun h6 M6 => ?_)
      refine wp_pure k_101 rfl rfl ?_
      refine wp_kn k_101 rfl rfl ?_
      refine wp_kn k_101 rfl rfl ?_
      refine wm_iv k_101 rfl rfl M6 [.int (nI 0), .int (nI 19)] rfl (r := []) (Nat.le_of_ble_eq_true rfl) (Nat.le_of_ble_eq_true rfl) rfl ?_
      refine m_number M6 ((uF_ne (by decide)).trans ((e4 2 (by decide)).trans ((uF_ne (by decide)).trans ((e1 2 (by decide)).trans hn)))) hl ((uF_ne (by decide)).trans a4) (by omega) (low := 0) (high := 19) (by omega) (by omega) (fun h7 g7 v7 q7 M7 e7 z7 a7 b7 => ⟨rfl, ?_⟩) (fun h8 g8 q8 M8 e8 z8 a8 => ⟨rfl, ?_⟩)
      · have o7 := numM_ok z7
        refine wp_br k_101 rfl rfl rfl rfl (fun _ => ?_) (fun z => absurd (show ¬ (nI 1 : Int32) = 0 by decide) z)
        refine wp_pure k_101 rfl rfl ?_
        refine wp_pure k_101 rfl rfl ?_
        refine wm_gi 48 M7 k_101 rfl rfl rfl rfl b7 ?_
        refine wm_pi 52 M7 k_101 rfl rfl rfl rfl rfl rfl (fun h9 M9 => ?_)
        refine wp_pure k_101 rfl rfl ?_
        refine wp_kn k_101 rfl rfl ?_
        refine wm_iv k_101 rfl rfl M9 [.int (nI 10)] rfl (r := []) (Nat.le_of_ble_eq_true rfl) (Nat.le_of_ble_eq_true rfl) rfl ?_
        refine m_takes M9 ((uF_ne (by decide)).trans ((e7 2 (by decide)).trans ((uF_ne (by decide)).trans ((e4 2 (by decide)).trans ((uF_ne (by decide)).trans ((e1 2 (by decide)).trans hn)))))) hl ((uF_ne (by decide)).trans a7) (by omega) (fun z10 h10 M10 => ⟨rfl, ?_⟩) (fun z11 h11 M11 => ⟨rfl, ?_⟩)
        · have o10 : q7 + 1 ≤ len := tkc z10 (by decide)
          exact wp_irt k_101 rfl rfl rfl (K1 _ _ _ _ _ _ M10 ((((((((eqx.refl _ _).t e1 (by decide)).u (by decide)).t e4 (by decide)).u (by decide)).t e7 (by decide)).u (by decide)).u (by decide)) (by simp only [pieceM, z1, z4, z7, skM_ok z10]) uF_at ((uF_ne (by decide)).trans ((uF_ne (by decide)).trans ((e7 50 (by decide)).trans ((uF_ne (by decide)).trans ((e4 50 (by decide)).trans uF_at))))) ((uF_ne (by decide)).trans ((uF_ne (by decide)).trans ((e7 51 (by decide)).trans uF_at))) ((uF_ne (by decide)).trans uF_at))
        · exact wp_irt k_101 rfl rfl rfl (K0 _ _ _ M11 ((((((((eqx.refl _ _).t e1 (by decide)).u (by decide)).t e4 (by decide)).u (by decide)).t e7 (by decide)).u (by decide)).u (by decide)) (by simp only [pieceM, z1, z4, z7, skM_er z11]) uF_at)
      · refine wp_br k_101 rfl rfl rfl rfl (fun z => absurd z (show ¬ (¬ (nI 0 : Int32) = 0) by decide)) (fun _ => ?_)
        refine wp_kn k_101 rfl rfl ?_
        exact wp_irt k_101 rfl rfl rfl (K0 _ _ _ M8 ((((((eqx.refl _ _).t e1 (by decide)).u (by decide)).t e4 (by decide)).u (by decide)).t e8 (by decide)) (by simp only [pieceM, z1, z4, z8]) a8)
    · refine wp_br k_101 rfl rfl rfl rfl (fun z => absurd z (show ¬ (¬ (nI 0 : Int32) = 0) by decide)) (fun _ => ?_)
      refine wp_kn k_101 rfl rfl ?_
      exact wp_irt k_101 rfl rfl rfl (K0 _ _ _ M5 ((((eqx.refl _ _).t e1 (by decide)).u (by decide)).t e5 (by decide)) (by simp only [pieceM, z1, z5]) a5)
  · refine wp_br k_101 rfl rfl rfl rfl (fun z => absurd z (show ¬ (¬ (nI 0 : Int32) = 0) by decide)) (fun _ => ?_)
    refine wp_kn k_101 rfl rfl ?_
    exact wp_irt k_101 rfl rfl rfl (K0 _ _ _ M2 ((eqx.refl _ _).t e2 (by decide)) (by simp only [pieceM, z2]) a2)
theorem m_atp {h0 h : sm_H} {m : Nat} {g : Nat → Int32} {ar : Nat → Nat → Int32} {Q : Nat → Option Value → sm_H → Prop} (M : MS h0 h m g ar) {len p : Nat} (hn : g 2 = nI len) (hl : len ≤ 3000) (hp : g 23 = nI p) (hpl : p ≤ len) {n : Nat} (h26 : g 26 = nI n) (h5 : n ≤ 501) (K1 : ∀ h' g' v r q, MS h0 h' m g' ar → eqx [23, 48, 49, 50, 56] g g' → atpM (ar 1) len (ar 37) (ar 36) n p = .ok (v, r, q) → g' 23 = nI q → g' 50 = v → g' 56 = nI r → Q 0 (some (.int (nI 1))) h') (K0 : ∀ h' g' q, MS h0 h' m g' ar → eqx [23, 24, 48, 49, 50, 56] g g' → atpM (ar 1) len (ar 37) (ar 36) n p = .error q → g' 24 = nI q → Q 0 (some (.int (nI 0))) h') : sm_wp 103 0 [.ref m] [] h Q := by
  refine wp_pure k_103 rfl rfl ?_
  refine wm_iv k_103 rfl rfl M [] rfl (r := []) (Nat.le_of_ble_eq_true rfl) (Nat.le_of_ble_eq_true rfl) rfl ?_
  refine m_new M hn hl hp (by omega) h26 h5 (fun h1 g1 v1 q1 M1 e1 z1 a1 b1 => ⟨rfl, ?_⟩) (fun h2 g2 q2 M2 e2 z2 a2 => ⟨rfl, ?_⟩)
  · have o1 := newM_ok z1
    refine wp_br k_103 rfl rfl rfl rfl (fun _ => ?_) (fun z => absurd (show ¬ (nI 1 : Int32) = 0 by decide) z)
    refine wp_pure k_103 rfl rfl ?_
    refine wp_pure k_103 rfl rfl ?_
    refine wm_gi 48 M1 k_103 rfl rfl rfl rfl b1 ?_
    refine wm_pi 50 M1 k_103 rfl rfl rfl rfl rfl rfl (fun h3 M3 => ?_)
    refine wp_pure k_103 rfl rfl ?_
    refine wp_kn k_103 rfl rfl ?_
    refine wm_iv k_103 rfl rfl M3 [.int (nI 2)] rfl (r := []) (Nat.le_of_ble_eq_true rfl) (Nat.le_of_ble_eq_true rfl) rfl ?_
    refine m_old M3 ((uF_ne (by decide)).trans ((e1 2 (by decide)).trans hn)) hl ((uF_ne (by decide)).trans a1) (by omega) ((uF_ne (by decide)).trans ((e1 26 (by decide)).trans h26)) h5 (fun h4 g4 k4 f4 q4 M4 e4 z4 a4 b4 c4 d4 => ⟨rfl, ?_⟩) (fun h5 g5 q5 M5 e5 z5 a5 => ⟨rfl, ?_⟩)
    · have o4 := oldM_ok z4
      refine wp_br k_103 rfl rfl rfl rfl (fun _ => ?_) (fun z => absurd (show ¬ (nI 1 : Int32) = 0 by decide) z)
      refine wp_pure k_103 rfl rfl ?_
      refine wp_pure k_103 rfl rfl ?_
      refine wm_gi 48 M4 k_103 rfl rfl rfl rfl b4 ?_
      refine wm_pi 56 M4 k_103 rfl rfl rfl rfl rfl rfl (fun h6 M6 => ?_)
      refine wp_pure k_103 rfl rfl ?_
      refine wp_kn k_103 rfl rfl ?_
      refine wm_iv k_103 rfl rfl M6 [.int (nI 10)] rfl (r := []) (Nat.le_of_ble_eq_true rfl) (Nat.le_of_ble_eq_true rfl) rfl ?_
      refine m_takes M6 ((uF_ne (by decide)).trans ((e4 2 (by decide)).trans ((uF_ne (by decide)).trans ((e1 2 (by decide)).trans hn)))) hl ((uF_ne (by decide)).trans a4) (by omega) (fun z7 h7 M7 => ⟨rfl, ?_⟩) (fun z8 h8 M8 => ⟨rfl, ?_⟩)
      · have o7 : q4 + 1 ≤ len := tkc z7 (by decide)
        exact wp_irt k_103 rfl rfl rfl (K1 _ _ _ _ _ M7 ((((((eqx.refl _ _).t e1 (by decide)).u (by decide)).t e4 (by decide)).u (by decide)).u (by decide)) (by simp only [atpM, z1, z4, skM_ok z7]) uF_at ((uF_ne (by decide)).trans ((uF_ne (by decide)).trans ((e4 50 (by decide)).trans uF_at))) ((uF_ne (by decide)).trans uF_at))
      · exact wp_irt k_103 rfl rfl rfl (K0 _ _ _ M8 ((((((eqx.refl _ _).t e1 (by decide)).u (by decide)).t e4 (by decide)).u (by decide)).u (by decide)) (by simp only [atpM, z1, z4, skM_er z8]) uF_at)
    · refine wp_br k_103 rfl rfl rfl rfl (fun z => absurd z (show ¬ (¬ (nI 0 : Int32) = 0) by decide)) (fun _ => ?_)
      refine wp_kn k_103 rfl rfl ?_
      exact wp_irt k_103 rfl rfl rfl (K0 _ _ _ M5 ((((eqx.refl _ _).t e1 (by decide)).u (by decide)).t e5 (by decide)) (by simp only [atpM, z1, z5]) a5)
  · refine wp_br k_103 rfl rfl rfl rfl (fun z => absurd z (show ¬ (¬ (nI 0 : Int32) = 0) by decide)) (fun _ => ?_)
    refine wp_kn k_103 rfl rfl ?_
    exact wp_irt k_103 rfl rfl rfl (K0 _ _ _ M2 ((eqx.refl _ _).t e2 (by decide)) (by simp only [atpM, z2]) a2)
theorem m_srv {h0 h : sm_H} {m : Nat} {g : Nat → Int32} {ar : Nat → Nat → Int32} {Q : Nat → Option Value → sm_H → Prop} (M : MS h0 h m g ar) {len p : Nat} (hn : g 2 = nI len) (hl : len ≤ 3000) (hp : g 23 = nI p) (hpl : p ≤ len) {n : Nat} (h26 : g 26 = nI n) (h5 : n ≤ 501) (K1 : ∀ h' g' a b q, MS h0 h' m g' ar → eqx [23, 48, 49, 59, 60] g g' → srvM (ar 1) len (ar 37) (ar 36) n p = .ok (a, b, q) → g' 23 = nI q → g' 59 = nI a → g' 60 = nI b → Q 0 (some (.int (nI 1))) h') (K0 : ∀ h' g' q, MS h0 h' m g' ar → eqx [23, 24, 48, 49, 59, 60] g g' → srvM (ar 1) len (ar 37) (ar 36) n p = .error q → g' 24 = nI q → Q 0 (some (.int (nI 0))) h') : sm_wp 106 0 [.ref m] [] h Q := by
  refine wp_pure k_106 rfl rfl ?_
  refine wp_kn k_106 rfl rfl ?_
  refine wm_iv k_106 rfl rfl M [.int (nI 1)] rfl (r := []) (Nat.le_of_ble_eq_true rfl) (Nat.le_of_ble_eq_true rfl) rfl ?_
  refine m_old M hn hl hp (by omega) h26 h5 (fun h1 g1 k1 f1 q1 M1 e1 z1 a1 b1 c1 d1 => ⟨rfl, ?_⟩) (fun h2 g2 q2 M2 e2 z2 a2 => ⟨rfl, ?_⟩)
  · have o1 := oldM_ok z1
    refine wp_br k_106 rfl rfl rfl rfl (fun _ => ?_) (fun z => absurd (show ¬ (nI 1 : Int32) = 0 by decide) z)
    refine wp_pure k_106 rfl rfl ?_
    refine wp_pure k_106 rfl rfl ?_
    refine wm_gi 48 M1 k_106 rfl rfl rfl rfl b1 ?_
    refine wm_pi 59 M1 k_106 rfl rfl rfl rfl rfl rfl (fun h3 M3 => ?_)
    refine wp_pure k_106 rfl rfl ?_
    refine wp_kn k_106 rfl rfl ?_
    refine wm_iv k_106 rfl rfl M3 [.int (nI 2)] rfl (r := []) (Nat.le_of_ble_eq_true rfl) (Nat.le_of_ble_eq_true rfl) rfl ?_
    refine m_old M3 ((uF_ne (by decide)).trans ((e1 2 (by decide)).trans hn)) hl ((uF_ne (by decide)).trans a1) (by omega) ((uF_ne (by decide)).trans ((e1 26 (by decide)).trans h26)) h5 (fun h4 g4 k4 f4 q4 M4 e4 z4 a4 b4 c4 d4 => ⟨rfl, ?_⟩) (fun h5 g5 q5 M5 e5 z5 a5 => ⟨rfl, ?_⟩)
    · have o4 := oldM_ok z4
      refine wp_br k_106 rfl rfl rfl rfl (fun _ => ?_) (fun z => absurd (show ¬ (nI 1 : Int32) = 0 by decide) z)
      refine wp_pure k_106 rfl rfl ?_
      refine wp_pure k_106 rfl rfl ?_
      refine wm_gi 48 M4 k_106 rfl rfl rfl rfl b4 ?_
      refine wm_pi 60 M4 k_106 rfl rfl rfl rfl rfl rfl (fun h6 M6 => ?_)
      refine wp_pure k_106 rfl rfl ?_
      refine wp_kn k_106 rfl rfl ?_
      refine wm_iv k_106 rfl rfl M6 [.int (nI 10)] rfl (r := []) (Nat.le_of_ble_eq_true rfl) (Nat.le_of_ble_eq_true rfl) rfl ?_
      refine m_takes M6 ((uF_ne (by decide)).trans ((e4 2 (by decide)).trans ((uF_ne (by decide)).trans ((e1 2 (by decide)).trans hn)))) hl ((uF_ne (by decide)).trans a4) (by omega) (fun z7 h7 M7 => ⟨rfl, ?_⟩) (fun z8 h8 M8 => ⟨rfl, ?_⟩)
      · have o7 : q4 + 1 ≤ len := tkc z7 (by decide)
        exact wp_irt k_106 rfl rfl rfl (K1 _ _ _ _ _ M7 ((((((eqx.refl _ _).t e1 (by decide)).u (by decide)).t e4 (by decide)).u (by decide)).u (by decide)) (by simp only [srvM, z1, z4, skM_ok z7]) uF_at ((uF_ne (by decide)).trans ((uF_ne (by decide)).trans ((e4 59 (by decide)).trans uF_at))) ((uF_ne (by decide)).trans uF_at))
      · exact wp_irt k_106 rfl rfl rfl (K0 _ _ _ M8 ((((((eqx.refl _ _).t e1 (by decide)).u (by decide)).t e4 (by decide)).u (by decide)).u (by decide)) (by simp only [srvM, z1, z4, skM_er z8]) uF_at)
    · refine wp_br k_106 rfl rfl rfl rfl (fun z => absurd z (show ¬ (¬ (nI 0 : Int32) = 0) by decide)) (fun _ => ?_)
      refine wp_kn k_106 rfl rfl ?_
      exact wp_irt k_106 rfl rfl rfl (K0 _ _ _ M5 ((((eqx.refl _ _).t e1 (by decide)).u (by decide)).t e5 (by decide)) (by simp only [srvM, z1, z5]) a5)
  · refine wp_br k_106 rfl rfl rfl rfl (fun z => absurd z (show ¬ (¬ (nI 0 : Int32) = 0) by decide)) (fun _ => ?_)
    refine wp_kn k_106 rfl rfl ?_
    exact wp_irt k_106 rfl rfl rfl (K0 _ _ _ M2 ((eqx.refl _ _).t e2 (by decide)) (by simp only [srvM, z2]) a2)
theorem m_way {h0 h : sm_H} {m : Nat} {g : Nat → Int32} {ar : Nat → Nat → Int32} {Q : Nat → Option Value → sm_H → Prop} (M : MS h0 h m g ar) {len p : Nat} (hn : g 2 = nI len) (hl : len ≤ 3000) (hp : g 23 = nI p) (hpl : p ≤ len) {n : Nat} (h26 : g 26 = nI n) (h5 : n ≤ 501) (K1 : ∀ h' g' a b bt q, MS h0 h' m g' ar → eqx [23, 48, 49, 59, 60, 61] g g' → wayM (ar 1) len (ar 37) (ar 36) n p = .ok (a, b, bt, q) → g' 23 = nI q → g' 59 = nI a → g' 60 = nI b → g' 61 = nI bt.toNat → Q 0 (some (.int (nI 1))) h') (K0 : ∀ h' g' q, MS h0 h' m g' ar → eqx [23, 24, 48, 49, 59, 60, 61] g g' → wayM (ar 1) len (ar 37) (ar 36) n p = .error q → g' 24 = nI q → Q 0 (some (.int (nI 0))) h') : sm_wp 105 0 [.ref m] [] h Q := by
  refine wp_pure k_105 rfl rfl ?_
  refine wp_kn k_105 rfl rfl ?_
  refine wm_iv k_105 rfl rfl M [.int (nI 2)] rfl (r := []) (Nat.le_of_ble_eq_true rfl) (Nat.le_of_ble_eq_true rfl) rfl ?_
  refine m_old M hn hl hp (by omega) h26 h5 (fun h1 g1 k1 f1 q1 M1 e1 z1 a1 b1 c1 d1 => ⟨rfl, ?_⟩) (fun h2 g2 q2 M2 e2 z2 a2 => ⟨rfl, ?_⟩)
  · have o1 := oldM_ok z1
    refine wp_br k_105 rfl rfl rfl rfl (fun _ => ?_) (fun z => absurd (show ¬ (nI 1 : Int32) = 0 by decide) z)
    refine wp_pure k_105 rfl rfl ?_
    refine wp_pure k_105 rfl rfl ?_
    refine wm_gi 48 M1 k_105 rfl rfl rfl rfl b1 ?_
    refine wm_pi 59 M1 k_105 rfl rfl rfl rfl rfl rfl (fun h3 M3 => ?_)
    refine wp_pure k_105 rfl rfl ?_
    refine wp_kn k_105 rfl rfl ?_
    refine wm_iv k_105 rfl rfl M3 [.int (nI 2)] rfl (r := []) (Nat.le_of_ble_eq_true rfl) (Nat.le_of_ble_eq_true rfl) rfl ?_
    refine m_old M3 ((uF_ne (by decide)).trans ((e1 2 (by decide)).trans hn)) hl ((uF_ne (by decide)).trans a1) (by omega) ((uF_ne (by decide)).trans ((e1 26 (by decide)).trans h26)) h5 (fun h4 g4 k4 f4 q4 M4 e4 z4 a4 b4 c4 d4 => ⟨rfl, ?_⟩) (fun h5 g5 q5 M5 e5 z5 a5 => ⟨rfl, ?_⟩)
    · have o4 := oldM_ok z4
      refine wp_br k_105 rfl rfl rfl rfl (fun _ => ?_) (fun z => absurd (show ¬ (nI 1 : Int32) = 0 by decide) z)
      refine wp_pure k_105 rfl rfl ?_
      refine wp_pure k_105 rfl rfl ?_
      refine wm_gi 48 M4 k_105 rfl rfl rfl rfl b4 ?_
      refine wm_pi 60 M4 k_105 rfl rfl rfl rfl rfl rfl (fun h6 M6 => ?_)
      refine wp_pure k_105 rfl rfl ?_
      refine wm_gi 60 M6 k_105 rfl rfl rfl rfl uF_at ?_
      refine wp_pure k_105 rfl rfl ?_
      refine wm_gi 59 M6 k_105 rfl rfl rfl rfl ((uF_ne (by decide)).trans ((e4 59 (by decide)).trans uF_at)) ?_
      refine wp_br k_105 rfl rfl rfl rfl (fun (z44 : ¬ nI k4 = nI k1) => ?_) (fun (z44 : ¬ (¬ nI k4 = nI k1)) => ?_)
      · have y44 : ¬ k4 = k1 := yNE (by omega) (by omega) z44
        refine wp_pure k_105 rfl rfl ?_
        refine wp_kn k_105 rfl rfl ?_
        refine wm_iv k_105 rfl rfl M6 [.int (nI 32)] rfl (r := []) (Nat.le_of_ble_eq_true rfl) (Nat.le_of_ble_eq_true rfl) rfl ?_
        refine m_takes M6 ((uF_ne (by decide)).trans ((e4 2 (by decide)).trans ((uF_ne (by decide)).trans ((e1 2 (by decide)).trans hn)))) hl ((uF_ne (by decide)).trans a4) (by omega) (fun z7 h7 M7 => ⟨rfl, ?_⟩) (fun z8 h8 M8 => ⟨rfl, ?_⟩)
        · have o7 : q4 + 1 ≤ len := tkc z7 (by decide)
          refine wp_br k_105 rfl rfl rfl rfl (fun _ => ?_) (fun z => absurd (show ¬ (nI 1 : Int32) = 0 by decide) z)
          refine wp_pure k_105 rfl rfl ?_
          refine wm_iv k_105 rfl rfl M7 [] rfl (r := []) (Nat.le_of_ble_eq_true rfl) (Nat.le_of_ble_eq_true rfl) rfl ?_
          refine m_next M7 ((uF_ne (by decide)).trans ((uF_ne (by decide)).trans ((e4 2 (by decide)).trans ((uF_ne (by decide)).trans ((e1 2 (by decide)).trans hn))))) hl uF_at (by omega) ⟨rfl, ?_⟩
          refine wp_kn k_105 rfl rfl ?_
          refine wp_br k_105 rfl rfl rfl rfl (fun (z73 : tk (ar 1) len (q4 + 1) = nI 62) => ?_) (fun (z73 : ¬ (tk (ar 1) len (q4 + 1) = nI 62)) => ?_)
          · have o73 : (q4 + 1) + 1 ≤ len := tkc z73 (by decide)
            refine wp_pure k_105 rfl rfl ?_
            refine wp_pure k_105 rfl rfl ?_
            refine wm_iv k_105 rfl rfl M7 [] rfl (r := [.ref m]) (Nat.le_of_ble_eq_true rfl) (Nat.le_of_ble_eq_true rfl) rfl ?_
            refine m_next M7 ((uF_ne (by decide)).trans ((uF_ne (by decide)).trans ((e4 2 (by decide)).trans ((uF_ne (by decide)).trans ((e1 2 (by decide)).trans hn))))) hl uF_at (by omega) ⟨rfl, ?_⟩
            refine wp_kn k_105 rfl rfl ?_
            refine wp_br k_105 rfl rfl rfl rfl (fun (z101 : ¬ tk (ar 1) len (q4 + 1) = nI 61) => ?_) (fun (z101 : ¬ (¬ tk (ar 1) len (q4 + 1) = nI 61)) => ?_)
            · refine wp_kn k_105 rfl rfl ?_
              refine wm_pi 61 M7 k_105 rfl rfl rfl rfl rfl rfl (fun h9 M9 => ?_)
              refine wp_pure k_105 rfl rfl ?_
              refine wp_pure k_105 rfl rfl ?_
              refine wm_gi 23 M9 k_105 rfl rfl rfl rfl ((uF_ne (by decide)).trans uF_at) ?_
              refine wp_kn k_105 rfl rfl ?_
              refine wp_addN k_105 rfl ?_
              refine wm_pi 23 M9 k_105 rfl rfl rfl rfl rfl rfl (fun h10 M10 => ?_)
              refine wp_pure k_105 rfl rfl ?_
              refine wp_kn k_105 rfl rfl ?_
              refine wm_iv k_105 rfl rfl M10 [.int (nI 10)] rfl (r := []) (Nat.le_of_ble_eq_true rfl) (Nat.le_of_ble_eq_true rfl) rfl ?_
              refine m_takes M10 ((uF_ne (by decide)).trans ((uF_ne (by decide)).trans ((uF_ne (by decide)).trans ((uF_ne (by decide)).trans ((e4 2 (by decide)).trans ((uF_ne (by decide)).trans ((e1 2 (by decide)).trans hn))))))) hl uF_at (by omega) (fun z11 h11 M11 => ⟨rfl, ?_⟩) (fun z12 h12 M12 => ⟨rfl, ?_⟩)
              · have o11 : (q4 + 1) + 1 + 1 ≤ len := tkc z11 (by decide)
                exact wp_irt k_105 rfl rfl rfl (K1 _ _ k1 k4 false _ M11 (((((((((eqx.refl _ _).t e1 (by decide)).u (by decide)).t e4 (by decide)).u (by decide)).u (by decide)).u (by decide)).u (by decide)).u (by decide)) (by unfold wayM; rw [z1]; dsimp only; rw [z4]; dsimp only; rw [if_neg y44, skM_ok z7]; dsimp only; rw [if_pos (Or.inl z73), skM_ok z11]; dsimp only; rw [decide_eq_false z101]) uF_at ((uF_ne (by decide)).trans ((uF_ne (by decide)).trans ((uF_ne (by decide)).trans ((uF_ne (by decide)).trans ((uF_ne (by decide)).trans ((e4 59 (by decide)).trans uF_at)))))) ((uF_ne (by decide)).trans ((uF_ne (by decide)).trans ((uF_ne (by decide)).trans ((uF_ne (by decide)).trans uF_at)))) ((uF_ne (by decide)).trans ((uF_ne (by decide)).trans uF_at)))
              · exact wp_irt k_105 rfl rfl rfl (K0 _ _ _ M12 (((((((((eqx.refl _ _).t e1 (by decide)).u (by decide)).t e4 (by decide)).u (by decide)).u (by decide)).u (by decide)).u (by decide)).u (by decide)) (by unfold wayM; rw [z1]; dsimp only; rw [z4]; dsimp only; rw [if_neg y44, skM_ok z7]; dsimp only; rw [if_pos (Or.inl z73), skM_er z12]) uF_at)
            · have o101 : (q4 + 1) + 1 ≤ len := tkc (Classical.not_not.mp z101) (by decide)
              refine wp_kn k_105 rfl rfl ?_
              refine wp_br k_105 rfl rfl rfl rfl (fun _ => ?_) (fun z => absurd trivial z)
              refine wm_pi 61 M7 k_105 rfl rfl rfl rfl rfl rfl (fun h13 M13 => ?_)
              refine wp_pure k_105 rfl rfl ?_
              refine wp_pure k_105 rfl rfl ?_
              refine wm_gi 23 M13 k_105 rfl rfl rfl rfl ((uF_ne (by decide)).trans uF_at) ?_
              refine wp_kn k_105 rfl rfl ?_
              refine wp_addN k_105 rfl ?_
              refine wm_pi 23 M13 k_105 rfl rfl rfl rfl rfl rfl (fun h14 M14 => ?_)
              refine wp_pure k_105 rfl rfl ?_
              refine wp_kn k_105 rfl rfl ?_
              refine wm_iv k_105 rfl rfl M14 [.int (nI 10)] rfl (r := []) (Nat.le_of_ble_eq_true rfl) (Nat.le_of_ble_eq_true rfl) rfl ?_
              refine m_takes M14 ((uF_ne (by decide)).trans ((uF_ne (by decide)).trans ((uF_ne (by decide)).trans ((uF_ne (by decide)).trans ((e4 2 (by decide)).trans ((uF_ne (by decide)).trans ((e1 2 (by decide)).trans hn))))))) hl uF_at (by omega) (fun z15 h15 M15 => ⟨rfl, ?_⟩) (fun z16 h16 M16 => ⟨rfl, ?_⟩)
              · have o15 : (q4 + 1) + 1 + 1 ≤ len := tkc z15 (by decide)
                exact wp_irt k_105 rfl rfl rfl (K1 _ _ k1 k4 true _ M15 (((((((((eqx.refl _ _).t e1 (by decide)).u (by decide)).t e4 (by decide)).u (by decide)).u (by decide)).u (by decide)).u (by decide)).u (by decide)) (by unfold wayM; rw [z1]; dsimp only; rw [z4]; dsimp only; rw [if_neg y44, skM_ok z7]; dsimp only; rw [if_pos (Or.inl z73), skM_ok z15]; dsimp only; rw [decide_eq_true (Classical.not_not.mp z101)]) uF_at ((uF_ne (by decide)).trans ((uF_ne (by decide)).trans ((uF_ne (by decide)).trans ((uF_ne (by decide)).trans ((uF_ne (by decide)).trans ((e4 59 (by decide)).trans uF_at)))))) ((uF_ne (by decide)).trans ((uF_ne (by decide)).trans ((uF_ne (by decide)).trans ((uF_ne (by decide)).trans uF_at)))) ((uF_ne (by decide)).trans ((uF_ne (by decide)).trans uF_at)))
              · exact wp_irt k_105 rfl rfl rfl (K0 _ _ _ M16 (((((((((eqx.refl _ _).t e1 (by decide)).u (by decide)).t e4 (by decide)).u (by decide)).u (by decide)).u (by decide)).u (by decide)).u (by decide)) (by unfold wayM; rw [z1]; dsimp only; rw [z4]; dsimp only; rw [if_neg y44, skM_ok z7]; dsimp only; rw [if_pos (Or.inl z73), skM_er z16]) uF_at)
          · refine wp_pure k_105 rfl rfl ?_
            refine wm_iv k_105 rfl rfl M7 [] rfl (r := []) (Nat.le_of_ble_eq_true rfl) (Nat.le_of_ble_eq_true rfl) rfl ?_
            refine m_next M7 ((uF_ne (by decide)).trans ((uF_ne (by decide)).trans ((e4 2 (by decide)).trans ((uF_ne (by decide)).trans ((e1 2 (by decide)).trans hn))))) hl uF_at (by omega) ⟨rfl, ?_⟩
            refine wp_kn k_105 rfl rfl ?_
            refine wp_br k_105 rfl rfl rfl rfl (fun (z82 : tk (ar 1) len (q4 + 1) = nI 61) => ?_) (fun (z82 : ¬ (tk (ar 1) len (q4 + 1) = nI 61)) => ?_)
            · have o82 : (q4 + 1) + 1 ≤ len := tkc z82 (by decide)
              refine wp_pure k_105 rfl rfl ?_
              refine wp_pure k_105 rfl rfl ?_
              refine wm_iv k_105 rfl rfl M7 [] rfl (r := [.ref m]) (Nat.le_of_ble_eq_true rfl) (Nat.le_of_ble_eq_true rfl) rfl ?_
              refine m_next M7 ((uF_ne (by decide)).trans ((uF_ne (by decide)).trans ((e4 2 (by decide)).trans ((uF_ne (by decide)).trans ((e1 2 (by decide)).trans hn))))) hl uF_at (by omega) ⟨rfl, ?_⟩
              refine wp_kn k_105 rfl rfl ?_
              refine wp_br k_105 rfl rfl rfl rfl (fun (z101 : ¬ tk (ar 1) len (q4 + 1) = nI 61) => ?_) (fun (z101 : ¬ (¬ tk (ar 1) len (q4 + 1) = nI 61)) => ?_)
              · refine wp_kn k_105 rfl rfl ?_
                refine wm_pi 61 M7 k_105 rfl rfl rfl rfl rfl rfl (fun h17 M17 => ?_)
                refine wp_pure k_105 rfl rfl ?_
                refine wp_pure k_105 rfl rfl ?_
                refine wm_gi 23 M17 k_105 rfl rfl rfl rfl ((uF_ne (by decide)).trans uF_at) ?_
                refine wp_kn k_105 rfl rfl ?_
                refine wp_addN k_105 rfl ?_
                refine wm_pi 23 M17 k_105 rfl rfl rfl rfl rfl rfl (fun h18 M18 => ?_)
                refine wp_pure k_105 rfl rfl ?_
                refine wp_kn k_105 rfl rfl ?_
                refine wm_iv k_105 rfl rfl M18 [.int (nI 10)] rfl (r := []) (Nat.le_of_ble_eq_true rfl) (Nat.le_of_ble_eq_true rfl) rfl ?_
                refine m_takes M18 ((uF_ne (by decide)).trans ((uF_ne (by decide)).trans ((uF_ne (by decide)).trans ((uF_ne (by decide)).trans ((e4 2 (by decide)).trans ((uF_ne (by decide)).trans ((e1 2 (by decide)).trans hn))))))) hl uF_at (by omega) (fun z19 h19 M19 => ⟨rfl, ?_⟩) (fun z20 h20 M20 => ⟨rfl, ?_⟩)
                · have o19 : (q4 + 1) + 1 + 1 ≤ len := tkc z19 (by decide)
                  exact wp_irt k_105 rfl rfl rfl (K1 _ _ k1 k4 false _ M19 (((((((((eqx.refl _ _).t e1 (by decide)).u (by decide)).t e4 (by decide)).u (by decide)).u (by decide)).u (by decide)).u (by decide)).u (by decide)) (by unfold wayM; rw [z1]; dsimp only; rw [z4]; dsimp only; rw [if_neg y44, skM_ok z7]; dsimp only; rw [if_pos (Or.inr z82), skM_ok z19]; dsimp only; rw [decide_eq_false z101]) uF_at ((uF_ne (by decide)).trans ((uF_ne (by decide)).trans ((uF_ne (by decide)).trans ((uF_ne (by decide)).trans ((uF_ne (by decide)).trans ((e4 59 (by decide)).trans uF_at)))))) ((uF_ne (by decide)).trans ((uF_ne (by decide)).trans ((uF_ne (by decide)).trans ((uF_ne (by decide)).trans uF_at)))) ((uF_ne (by decide)).trans ((uF_ne (by decide)).trans uF_at)))
                · exact wp_irt k_105 rfl rfl rfl (K0 _ _ _ M20 (((((((((eqx.refl _ _).t e1 (by decide)).u (by decide)).t e4 (by decide)).u (by decide)).u (by decide)).u (by decide)).u (by decide)).u (by decide)) (by unfold wayM; rw [z1]; dsimp only; rw [z4]; dsimp only; rw [if_neg y44, skM_ok z7]; dsimp only; rw [if_pos (Or.inr z82), skM_er z20]) uF_at)
              · have o101 : (q4 + 1) + 1 ≤ len := tkc (Classical.not_not.mp z101) (by decide)
                refine wp_kn k_105 rfl rfl ?_
                refine wp_br k_105 rfl rfl rfl rfl (fun _ => ?_) (fun z => absurd trivial z)
                refine wm_pi 61 M7 k_105 rfl rfl rfl rfl rfl rfl (fun h21 M21 => ?_)
                refine wp_pure k_105 rfl rfl ?_
                refine wp_pure k_105 rfl rfl ?_
                refine wm_gi 23 M21 k_105 rfl rfl rfl rfl ((uF_ne (by decide)).trans uF_at) ?_
                refine wp_kn k_105 rfl rfl ?_
                refine wp_addN k_105 rfl ?_
                refine wm_pi 23 M21 k_105 rfl rfl rfl rfl rfl rfl (fun h22 M22 => ?_)
                refine wp_pure k_105 rfl rfl ?_
                refine wp_kn k_105 rfl rfl ?_
                refine wm_iv k_105 rfl rfl M22 [.int (nI 10)] rfl (r := []) (Nat.le_of_ble_eq_true rfl) (Nat.le_of_ble_eq_true rfl) rfl ?_
                refine m_takes M22 ((uF_ne (by decide)).trans ((uF_ne (by decide)).trans ((uF_ne (by decide)).trans ((uF_ne (by decide)).trans ((e4 2 (by decide)).trans ((uF_ne (by decide)).trans ((e1 2 (by decide)).trans hn))))))) hl uF_at (by omega) (fun z23 h23 M23 => ⟨rfl, ?_⟩) (fun z24 h24 M24 => ⟨rfl, ?_⟩)
                · have o23 : (q4 + 1) + 1 + 1 ≤ len := tkc z23 (by decide)
                  exact wp_irt k_105 rfl rfl rfl (K1 _ _ k1 k4 true _ M23 (((((((((eqx.refl _ _).t e1 (by decide)).u (by decide)).t e4 (by decide)).u (by decide)).u (by decide)).u (by decide)).u (by decide)).u (by decide)) (by unfold wayM; rw [z1]; dsimp only; rw [z4]; dsimp only; rw [if_neg y44, skM_ok z7]; dsimp only; rw [if_pos (Or.inr z82), skM_ok z23]; dsimp only; rw [decide_eq_true (Classical.not_not.mp z101)]) uF_at ((uF_ne (by decide)).trans ((uF_ne (by decide)).trans ((uF_ne (by decide)).trans ((uF_ne (by decide)).trans ((uF_ne (by decide)).trans ((e4 59 (by decide)).trans uF_at)))))) ((uF_ne (by decide)).trans ((uF_ne (by decide)).trans ((uF_ne (by decide)).trans ((uF_ne (by decide)).trans uF_at)))) ((uF_ne (by decide)).trans ((uF_ne (by decide)).trans uF_at)))
                · exact wp_irt k_105 rfl rfl rfl (K0 _ _ _ M24 (((((((((eqx.refl _ _).t e1 (by decide)).u (by decide)).t e4 (by decide)).u (by decide)).u (by decide)).u (by decide)).u (by decide)).u (by decide)) (by unfold wayM; rw [z1]; dsimp only; rw [z4]; dsimp only; rw [if_neg y44, skM_ok z7]; dsimp only; rw [if_pos (Or.inr z82), skM_er z24]) uF_at)
            · refine wp_pure k_105 rfl rfl ?_
              refine wp_pure k_105 rfl rfl ?_
              refine wm_gi 23 M7 k_105 rfl rfl rfl rfl uF_at ?_
              refine wm_iv k_105 rfl rfl M7 [.int (nI (q4 + 1))] rfl (r := []) (Nat.le_of_ble_eq_true rfl) (Nat.le_of_ble_eq_true rfl) rfl ?_
              refine m_wrong M7 (fun h25 M25 => ⟨rfl, ?_⟩)
              exact wp_irt k_105 rfl rfl rfl (K0 _ _ _ M25 (((((((eqx.refl _ _).t e1 (by decide)).u (by decide)).t e4 (by decide)).u (by decide)).u (by decide)).u (by decide)) (by unfold wayM; rw [z1]; dsimp only; rw [z4]; dsimp only; rw [if_neg y44, skM_ok z7]; dsimp only; rw [if_neg (fun q => q.elim z73 z82)]) uF_at)
        · refine wp_br k_105 rfl rfl rfl rfl (fun z => absurd z (show ¬ (¬ (nI 0 : Int32) = 0) by decide)) (fun _ => ?_)
          refine wp_kn k_105 rfl rfl ?_
          exact wp_irt k_105 rfl rfl rfl (K0 _ _ _ M8 ((((((eqx.refl _ _).t e1 (by decide)).u (by decide)).t e4 (by decide)).u (by decide)).u (by decide)) (by unfold wayM; rw [z1]; dsimp only; rw [z4]; dsimp only; rw [if_neg y44, skM_er z8]) uF_at)
      · have y44 : k4 = k1 := yNNE (by omega) (by omega) z44
        refine wp_pure k_105 rfl rfl ?_
        refine wp_pure k_105 rfl rfl ?_
        refine wm_gi 49 M6 k_105 rfl rfl rfl rfl ((uF_ne (by decide)).trans c4) ?_
        refine wm_iv k_105 rfl rfl M6 [.int (nI f4)] rfl (r := []) (Nat.le_of_ble_eq_true rfl) (Nat.le_of_ble_eq_true rfl) rfl ?_
        refine m_wrong M6 (fun h26 M26 => ⟨rfl, ?_⟩)
        exact wp_irt k_105 rfl rfl rfl (K0 _ _ _ M26 ((((((eqx.refl _ _).t e1 (by decide)).u (by decide)).t e4 (by decide)).u (by decide)).u (by decide)) (by unfold wayM; rw [z1]; dsimp only; rw [z4]; dsimp only; rw [if_pos y44]) uF_at)
    · refine wp_br k_105 rfl rfl rfl rfl (fun z => absurd z (show ¬ (¬ (nI 0 : Int32) = 0) by decide)) (fun _ => ?_)
      refine wp_kn k_105 rfl rfl ?_
      exact wp_irt k_105 rfl rfl rfl (K0 _ _ _ M5 ((((eqx.refl _ _).t e1 (by decide)).u (by decide)).t e5 (by decide)) (by simp only [wayM, z1, z5]) a5)
  · refine wp_br k_105 rfl rfl rfl rfl (fun z => absurd z (show ¬ (¬ (nI 0 : Int32) = 0) by decide)) (fun _ => ?_)
    refine wp_kn k_105 rfl rfl ?_
    exact wp_irt k_105 rfl rfl rfl (K0 _ _ _ M2 ((eqx.refl _ _).t e2 (by decide)) (by simp only [wayM, z2]) a2)
