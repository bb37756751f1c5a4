theorem m_name {h0 h : sm_H} {m : Nat} {g : Nat → Int32} {ar : Nat → Nat → Int32} {Q : Nat → Option Value → sm_H → Prop} (M : MS h0 h m g ar) {len p : Nat} (hn : g 2 = nI len) (hl : len ≤ 3000) (hp : g 23 = nI p) (hpl : p ≤ len) (K1 : ∀ h' g' v f q, MS h0 h' m g' ar → eqx [23, 48, 49] g g' → nameM (ar 1) len p = .ok (v, f, q) → g' 23 = nI q → g' 48 = v → g' 49 = nI f → Q 0 (some (.int (nI 1))) h') (K0 : ∀ h' g' q, MS h0 h' m g' ar → eqx [23, 24, 49] g g' → nameM (ar 1) len p = .error q → g' 24 = nI q → Q 0 (some (.int (nI 0))) h') : sm_wp 92 0 [.ref m, jk] [] h Q := by
  refine wp_pure k_92 rfl rfl ?_
  refine wp_kn k_92 rfl rfl ?_
  refine wm_iv k_92 rfl rfl M [.int (nI 32)] rfl (r := []) (Nat.le_of_ble_eq_true rfl) (Nat.le_of_ble_eq_true rfl) rfl ?_
  refine m_takes M hn hl hp hpl (fun zt1 h1 M1 => ⟨rfl, ?_⟩) (fun zt2 h2 M2 => ⟨rfl, ?_⟩)
  · have hp1 : p + 1 ≤ len := tkc zt1 (by decide)
    refine wp_br k_92 rfl rfl rfl rfl (fun _ => ?_) (fun z => absurd (show ¬ (nI 1 : Int32) = 0 by decide) z)
    refine wp_pure k_92 rfl rfl ?_
    refine wp_pure k_92 rfl rfl ?_
    refine wm_gi 23 M1 k_92 rfl rfl rfl rfl rfl ?_
    refine wm_pi 49 M1 k_92 rfl rfl rfl rfl rfl rfl (fun h3 M3 => ?_)
    refine wp_pure k_92 rfl rfl ?_
    refine wm_iv k_92 rfl rfl M3 [] rfl (r := []) (Nat.le_of_ble_eq_true rfl) (Nat.le_of_ble_eq_true rfl) rfl ?_
    refine m_isLt M3 (show _ = nI len from hn) hl (show _ = nI (p + 1) from rfl) hp1 (fun zl => ⟨rfl, ?_⟩) (fun zl => ⟨rfl, ?_⟩)
    · refine wp_br k_92 rfl rfl rfl rfl (fun _ => ?_) (fun z => absurd (show ¬ (nI 1 : Int32) = 0 by decide) z)
      refine wp_kn k_92 rfl rfl ?_
      refine wp_pure k_92 rfl rfl ?_
      refine m_nameL hl 4 M3 (show _ = nI len from hn) (show _ = nI (p + 1) from rfl) hp1 (show _ = nI (p + 1) from rfl) rfl (Nat.le_refl _) (fun h9 g9 M9 e9 r9 hr9 a9 b9 c9 => K1 h9 g9 r9.1 (p + 1) r9.2 M9 (((((eqx.refl _ _).u (by decide)).u (by decide)) : eqx [23, 49] g _).trans e9 (by decide)) ?_ a9 b9 ((e9 49 (by decide)).trans rfl))
      unfold nameM
      rw [skM_ok zt1]
      dsimp only
      rw [if_pos zl, hr9]
    · refine wp_br k_92 rfl rfl rfl rfl (fun z => absurd z (show ¬ (¬ (nI 0 : Int32) = 0) by decide)) (fun _ => ?_)
      refine wp_pure k_92 rfl rfl ?_
      refine wp_pure k_92 rfl rfl ?_
      refine wm_gi 23 M3 k_92 rfl rfl rfl rfl rfl ?_
      refine wm_iv k_92 rfl rfl M3 [.int (nI (p + 1))] rfl (r := []) (Nat.le_of_ble_eq_true rfl) (Nat.le_of_ble_eq_true rfl) rfl ?_
      refine m_wrong M3 (fun h4 M4 => ⟨rfl, ?_⟩)
      exact wp_irt k_92 rfl rfl rfl (K0 _ _ (p + 1) M4 ((((eqx.refl _ _).u (by decide)).u (by decide)).u (by decide)) (by unfold nameM; rw [skM_ok zt1]; exact if_neg zl) rfl)
  · refine wp_br k_92 rfl rfl rfl rfl (fun z => absurd z (show ¬ (¬ (nI 0 : Int32) = 0) by decide)) (fun _ => ?_)
    refine wp_kn k_92 rfl rfl ?_
    exact wp_irt k_92 rfl rfl rfl (K0 _ _ p M2 ((eqx.refl _ _).u (by decide)) (by unfold nameM; rw [skM_er zt2]) rfl)
theorem dgN {c : Int32} (hd : isDg c) : ∃ d, d ≤ 9 ∧ c = nI (48 + d) ∧ c.toNatClampNeg - 48 = d := by
  obtain ⟨d, h1, h2⟩ := isDg_nI hd
  exact ⟨d, h1, h2, by rw [h2, nI_clamp (by omega)]; omega⟩
theorem numStep {w d : Nat} (hd : d ≤ 9) (hw : w ≤ 1000000) : lN 10 * lN w + (nI (48 + d)).toInt64 - lN 48 = lN (10 * w + d) := by
  rw [lN_mul, nI_l (by omega), lN_add, lN_sub (by omega)]
  congr 1
  omega
theorem m_numL {h0 : sm_H} {m : Nat} {ar : Nat → Nat → Int32} {Q : Nat → Option Value → sm_H → Prop} {len f low high W E : Nat} (hl : len ≤ 3000) (hf1 : 1 ≤ f) (hfl : f ≤ len) (hlo : low < 2 ^ 31) (hhi : high < 2 ^ 31) : ∀ (k : Nat) {h : sm_H} {g : Nat → Int32} (M : MS h0 h m g ar) (hn : g 2 = nI len) {p w : Nat} (hp : g 23 = nI p) (hpl : p ≤ len) (hf : g 49 = nI f) (hfp : f ≤ p) (hk : k + (p - f) = len) (hz : p ≤ f + 1 ∨ ¬ tk (ar 1) len f = nI 48) (hw : w ≤ 10000009) (hr : numL (ar 1) len k p w = (W, E))
    (K1 : ∀ h' g', MS h0 h' m g' ar → eqx [23, 48] g g' → g' 23 = nI E → g' 48 = nI (numV W) → ¬ E = f → ¬ (f + 1 < E ∧ tk (ar 1) len f = nI 48) → (low ≤ numV W ∧ numV W ≤ high) → Q 0 (some (.int (nI 1))) h')
    (K0 : ∀ h' g' q, MS h0 h' m g' ar → eqx [23, 24, 48] g g' → g' 24 = nI q → (E = f ∧ q = f) ∨ (¬ E = f ∧ (f + 1 < E ∧ tk (ar 1) len f = nI 48) ∧ q = (if 0 < low then f else f + 1)) ∨ (¬ E = f ∧ ¬ (f + 1 < E ∧ tk (ar 1) len f = nI 48) ∧ ¬ (low ≤ numV W ∧ numV W ≤ high) ∧ q = f) → Q 0 (some (.int (nI 0))) h'), sm_wp 98 21 [.ref m, .int (nI low), .int (nI high), .long (lN w), jk] [] h Q := by
  intro k
  induction k with
  | zero =>
    intro h g M hn p w hp hpl hf hfp hk hz hw hr K1 K0
    omega
  | succ k ih =>
    intro h g M hn p w hp hpl hf hfp hk hz hw hr K1 K0
    refine wp_pure k_98 rfl rfl ?_
    refine wm_iv k_98 rfl rfl M [] rfl (r := []) (Nat.le_of_ble_eq_true rfl) (Nat.le_of_ble_eq_true rfl) rfl ?_
    refine m_isDg M hn hl hp hpl (fun zd => ⟨rfl, ?_⟩) (fun zd => ⟨rfl, ?_⟩)
    · refine wp_br k_98 rfl rfl rfl rfl (fun z => absurd z (show ¬ ((nI 1 : Int32) = 0) by decide)) (fun _ => ?_)
      refine wp_pure k_98 rfl rfl ?_
      refine wm_gi 23 M k_98 rfl rfl rfl rfl hp ?_
      refine wp_pure k_98 rfl rfl ?_
      refine wm_gi 49 M k_98 rfl rfl rfl rfl hf ?_
      refine wp_br k_98 rfl rfl rfl rfl (fun z36 => ?_) (fun z36 => ?_)
      · have y36 : p ≤ f := yLe (by omega) (by omega) z36
        refine wp_pure k_98 rfl rfl ?_
        refine wp_ldc2 k_98 rfl ?_
        refine wp_lcmp k_98 rfl ?_
        refine wp_br k_98 rfl rfl rfl rfl (fun z78 => ?_) (fun z78 => ?_)
        · refine wp_ldc2 k_98 rfl ?_
          refine wp_pure k_98 rfl rfl ?_
          refine wp_lmul k_98 rfl ?_
          refine wp_pure k_98 rfl rfl ?_
          refine wm_iv k_98 rfl rfl M [] rfl (r := [.long ((lN 10) * (lN w))]) (Nat.le_of_ble_eq_true rfl) (Nat.le_of_ble_eq_true rfl) rfl ?_
          refine m_next M hn hl hp hpl ⟨rfl, ?_⟩
          refine wp_i2l k_98 rfl ?_
          refine wp_ladd k_98 rfl ?_
          refine wp_ldc2 k_98 rfl ?_
          refine wp_lsub k_98 rfl ?_
          refine wp_pure k_98 rfl rfl ?_
          refine wp_pure k_98 rfl rfl ?_
          refine wp_pure k_98 rfl rfl ?_
          refine wm_gi 23 M k_98 rfl rfl rfl rfl hp ?_
          refine wp_kn k_98 rfl rfl ?_
          refine wp_addN k_98 rfl ?_
          refine wm_pi 23 M k_98 rfl rfl rfl rfl rfl rfl (fun h1 M1 => ?_)
          refine wp_br k_98 rfl rfl rfl rfl (fun _ => ?_) (fun z => absurd trivial z)
          have hpd : p < len := isDg_lt zd
          replace hr := (if_pos zd).symm.trans hr
          have hw6 : w ≤ 1000000 := (lcmp_le (by omega) (by omega)).mp z78
          obtain ⟨d, hd1, hd2, hd3⟩ := dgN zd
          rw [if_neg (by omega), hd3] at hr
          rw [hd2, numStep hd1 hw6]
          exact ih M1 (show _ = nI len from hn) (show _ = nI (p + 1) from rfl) (by omega) (show _ = nI f from hf) (by omega) (by omega) (Or.inl (by omega)) (by omega) hr (fun h' g' M' e' => K1 h' g' M' ((((eqx.refl _ _).u (by decide)) : eqx [23, 48] g _).trans e' (by decide))) (fun h' g' q' M' e' => K0 h' g' q' M' ((((eqx.refl _ _).u (by decide)) : eqx [23, 48] g _).trans e' (by decide)))
        · refine wp_pure k_98 rfl rfl ?_
          refine wp_br k_98 rfl rfl rfl rfl (fun _ => ?_) (fun z => absurd trivial z)
          refine wp_pure k_98 rfl rfl ?_
          refine wp_pure k_98 rfl rfl ?_
          refine wp_pure k_98 rfl rfl ?_
          refine wm_gi 23 M k_98 rfl rfl rfl rfl hp ?_
          refine wp_kn k_98 rfl rfl ?_
          refine wp_addN k_98 rfl ?_
          refine wm_pi 23 M k_98 rfl rfl rfl rfl rfl rfl (fun h2 M2 => ?_)
          refine wp_br k_98 rfl rfl rfl rfl (fun _ => ?_) (fun z => absurd trivial z)
          have hpd : p < len := isDg_lt zd
          replace hr := (if_pos zd).symm.trans hr
          have hw6 : ¬ w ≤ 1000000 := fun q => z78 ((lcmp_le (by omega) (by omega)).mpr q)
          rw [if_pos (by omega)] at hr
          exact ih M2 (show _ = nI len from hn) (show _ = nI (p + 1) from rfl) (by omega) (show _ = nI f from hf) (by omega) (by omega) (Or.inl (by omega)) hw hr (fun h' g' M' e' => K1 h' g' M' ((((eqx.refl _ _).u (by decide)) : eqx [23, 48] g _).trans e' (by decide))) (fun h' g' q' M' e' => K0 h' g' q' M' ((((eqx.refl _ _).u (by decide)) : eqx [23, 48] g _).trans e' (by decide)))
      · have y36 : f < p := yNLe (by omega) (by omega) z36
        refine wp_pure k_98 rfl rfl ?_
        refine wm_ga 1 M k_98 rfl rfl rfl (by decide) ?_
        refine wp_pure k_98 rfl rfl ?_
        refine wm_gi 49 M k_98 rfl rfl rfl rfl hf ?_
        refine wm_al 1 M k_98 rfl rfl (by decide) rfl (show f < 3000 by omega) rfl ?_
        refine wp_kn k_98 rfl rfl ?_
        refine wp_br k_98 rfl rfl rfl rfl (fun z50 => ?_) (fun z50 => ?_)
        · refine wp_pure k_98 rfl rfl ?_
          refine wp_ldc2 k_98 rfl ?_
          refine wp_lcmp k_98 rfl ?_
          refine wp_br k_98 rfl rfl rfl rfl (fun z78 => ?_) (fun z78 => ?_)
          · refine wp_ldc2 k_98 rfl ?_
            refine wp_pure k_98 rfl rfl ?_
            refine wp_lmul k_98 rfl ?_
            refine wp_pure k_98 rfl rfl ?_
            refine wm_iv k_98 rfl rfl M [] rfl (r := [.long ((lN 10) * (lN w))]) (Nat.le_of_ble_eq_true rfl) (Nat.le_of_ble_eq_true rfl) rfl ?_
            refine m_next M hn hl hp hpl ⟨rfl, ?_⟩
            refine wp_i2l k_98 rfl ?_
            refine wp_ladd k_98 rfl ?_
            refine wp_ldc2 k_98 rfl ?_
            refine wp_lsub k_98 rfl ?_
            refine wp_pure k_98 rfl rfl ?_
            refine wp_pure k_98 rfl rfl ?_
            refine wp_pure k_98 rfl rfl ?_
            refine wm_gi 23 M k_98 rfl rfl rfl rfl hp ?_
            refine wp_kn k_98 rfl rfl ?_
            refine wp_addN k_98 rfl ?_
            refine wm_pi 23 M k_98 rfl rfl rfl rfl rfl rfl (fun h3 M3 => ?_)
            refine wp_br k_98 rfl rfl rfl rfl (fun _ => ?_) (fun z => absurd trivial z)
            have hpd : p < len := isDg_lt zd
            replace hr := (if_pos zd).symm.trans hr
            have hw6 : w ≤ 1000000 := (lcmp_le (by omega) (by omega)).mp z78
            obtain ⟨d, hd1, hd2, hd3⟩ := dgN zd
            rw [if_neg (by omega), hd3] at hr
            rw [hd2, numStep hd1 hw6]
            exact ih M3 (show _ = nI len from hn) (show _ = nI (p + 1) from rfl) (by omega) (show _ = nI f from hf) (by omega) (by omega) (Or.inr (by rw [tk_in (by omega)]; exact z50)) (by omega) hr (fun h' g' M' e' => K1 h' g' M' ((((eqx.refl _ _).u (by decide)) : eqx [23, 48] g _).trans e' (by decide))) (fun h' g' q' M' e' => K0 h' g' q' M' ((((eqx.refl _ _).u (by decide)) : eqx [23, 48] g _).trans e' (by decide)))
          · refine wp_pure k_98 rfl rfl ?_
            refine wp_br k_98 rfl rfl rfl rfl (fun _ => ?_) (fun z => absurd trivial z)
            refine wp_pure k_98 rfl rfl ?_
            refine wp_pure k_98 rfl rfl ?_
            refine wp_pure k_98 rfl rfl ?_
            refine wm_gi 23 M k_98 rfl rfl rfl rfl hp ?_
            refine wp_kn k_98 rfl rfl ?_
            refine wp_addN k_98 rfl ?_
            refine wm_pi 23 M k_98 rfl rfl rfl rfl rfl rfl (fun h4 M4 => ?_)
            refine wp_br k_98 rfl rfl rfl rfl (fun _ => ?_) (fun z => absurd trivial z)
            have hpd : p < len := isDg_lt zd
            replace hr := (if_pos zd).symm.trans hr
            have hw6 : ¬ w ≤ 1000000 := fun q => z78 ((lcmp_le (by omega) (by omega)).mpr q)
            rw [if_pos (by omega)] at hr
            exact ih M4 (show _ = nI len from hn) (show _ = nI (p + 1) from rfl) (by omega) (show _ = nI f from hf) (by omega) (by omega) (Or.inr (by rw [tk_in (by omega)]; exact z50)) hw hr (fun h' g' M' e' => K1 h' g' M' ((((eqx.refl _ _).u (by decide)) : eqx [23, 48] g _).trans e' (by decide))) (fun h' g' q' M' e' => K0 h' g' q' M' ((((eqx.refl _ _).u (by decide)) : eqx [23, 48] g _).trans e' (by decide)))
        · refine wp_pure k_98 rfl rfl ?_
          refine wp_pure k_98 rfl rfl ?_
          refine wp_br k_98 rfl rfl rfl rfl (fun z55 => ?_) (fun z55 => ?_)
          · refine wp_pure k_98 rfl rfl ?_
            refine wm_gi 23 M k_98 rfl rfl rfl rfl hp ?_
            refine wm_iv k_98 rfl rfl M [.int (nI p)] rfl (r := []) (Nat.le_of_ble_eq_true rfl) (Nat.le_of_ble_eq_true rfl) rfl ?_
            refine m_wrong M (fun h5 M5 => ⟨rfl, ?_⟩)
            have hpd : p < len := isDg_lt zd
            replace hr := (if_pos zd).symm.trans hr
            have hle := numL_le (tx := ar 1) (len := len) k (p + 1) (if 1000000 < w then w else 10 * w + ((tk (ar 1) len p).toNatClampNeg - 48)) hpd
            rw [hr] at hle
            replace hle : p + 1 ≤ E ∧ E ≤ len := hle
            have hf48 : tk (ar 1) len f = nI 48 := by rw [tk_in (by omega)]; exact Classical.not_not.mp z50
            have hpf : p = f + 1 := by rcases hz with q | q
                                       · omega
                                       · exact absurd hf48 q
            have hlow : low ≤ 0 := yLe (by omega) (by decide) (show nI low ≤ nI 0 from z55)
            exact wp_irt k_98 rfl rfl rfl (K0 _ _ p M5 ((eqx.refl _ _).u (by decide)) rfl (Or.inr (Or.inl ⟨by omega, ⟨by omega, hf48⟩, by rw [if_neg (by omega)]; omega⟩)))
          · refine wp_pure k_98 rfl rfl ?_
            refine wm_gi 49 M k_98 rfl rfl rfl rfl hf ?_
            refine wp_br k_98 rfl rfl rfl rfl (fun _ => ?_) (fun z => absurd trivial z)
            refine wm_iv k_98 rfl rfl M [.int (nI f)] rfl (r := []) (Nat.le_of_ble_eq_true rfl) (Nat.le_of_ble_eq_true rfl) rfl ?_
            refine m_wrong M (fun h6 M6 => ⟨rfl, ?_⟩)
            have hpd : p < len := isDg_lt zd
            replace hr := (if_pos zd).symm.trans hr
            have hle := numL_le (tx := ar 1) (len := len) k (p + 1) (if 1000000 < w then w else 10 * w + ((tk (ar 1) len p).toNatClampNeg - 48)) hpd
            rw [hr] at hle
            replace hle : p + 1 ≤ E ∧ E ≤ len := hle
            have hf48 : tk (ar 1) len f = nI 48 := by rw [tk_in (by omega)]; exact Classical.not_not.mp z50
            have hpf : p = f + 1 := by rcases hz with q | q
                                       · omega
                                       · exact absurd hf48 q
            have hlow : 0 < low := yNLe (by decide) (by omega) (show ¬ nI low ≤ nI 0 from z55)
            exact wp_irt k_98 rfl rfl rfl (K0 _ _ f M6 ((eqx.refl _ _).u (by decide)) rfl (Or.inr (Or.inl ⟨by omega, ⟨by omega, hf48⟩, by rw [if_pos (by omega)]⟩)))
    · refine wp_br k_98 rfl rfl rfl rfl (fun _ => ?_) (fun z => absurd (show (nI 0 : Int32) = 0 by decide) z)
      refine wp_pure k_98 rfl rfl ?_
      refine wm_gi 23 M k_98 rfl rfl rfl rfl hp ?_
      refine wp_pure k_98 rfl rfl ?_
      refine wm_gi 49 M k_98 rfl rfl rfl rfl hf ?_
      refine wp_br k_98 rfl rfl rfl rfl (fun z122 => ?_) (fun z122 => ?_)
      · have y122 : ¬ p = f := yNE (by omega) (by omega) z122
        refine wp_pure k_98 rfl rfl ?_
        refine wp_pure k_98 rfl rfl ?_
        refine wp_ldc2 k_98 rfl ?_
        refine wp_lcmp k_98 rfl ?_
        refine wp_br k_98 rfl rfl rfl rfl (fun z140 => ?_) (fun z140 => ?_)
        · refine wp_pure k_98 rfl rfl ?_
          refine wp_l2i k_98 rfl ?_
          refine wm_pi 48 M k_98 rfl rfl rfl rfl rfl rfl (fun h7 M7 => ?_)
          refine wp_pure k_98 rfl rfl ?_
          refine wm_gi 48 M7 k_98 rfl rfl rfl rfl rfl ?_
          refine wp_pure k_98 rfl rfl ?_
          refine wp_pure k_98 rfl rfl ?_
          refine wp_is k_98 rfl (by decide) [.int ((lN w).toInt32), .int (nI low), .int (nI high)] rfl (r := []) (Nat.le_of_ble_eq_true rfl) (Nat.le_of_ble_eq_true rfl) rfl ?_
          refine m_in (fun zi => ⟨rfl, ?_⟩) (fun zi => ⟨rfl, ?_⟩)
          · refine wp_br k_98 rfl rfl rfl rfl (fun _ => ?_) (fun z => absurd (show ¬ (nI 1 : Int32) = 0 by decide) z)
            refine wp_kn k_98 rfl rfl ?_
            refine wp_br k_98 rfl rfl rfl rfl (fun _ => ?_) (fun z => absurd trivial z)
            replace hr := (if_neg zd).symm.trans hr
            cases hr
            have hw6 : W ≤ 1000000 := (lcmp_le (by omega) (by omega)).mp z140
            have hV : numV W = W := if_neg (by omega)
            rw [lN_i] at *
            have hrg : (low ≤ numV W ∧ numV W ≤ high) ↔ (nI low ≤ nI W ∧ nI W ≤ nI high) := by rw [hV, nI_leI (by omega) (by omega), nI_leI (by omega) (by omega)]
            exact wp_irt k_98 rfl rfl rfl (K1 _ _ M7 ((eqx.refl _ _).u (by decide)) hp (by rw [hV]; rfl) y122 (fun q => hz.elim (fun y => absurd q.1 (by omega)) (fun y => y q.2)) (hrg.mpr zi))
          · refine wp_br k_98 rfl rfl rfl rfl (fun z => absurd z (show ¬ (¬ (nI 0 : Int32) = 0) by decide)) (fun _ => ?_)
            refine wp_pure k_98 rfl rfl ?_
            refine wp_pure k_98 rfl rfl ?_
            refine wm_gi 49 M7 k_98 rfl rfl rfl rfl hf ?_
            refine wm_iv k_98 rfl rfl M7 [.int (nI f)] rfl (r := []) (Nat.le_of_ble_eq_true rfl) (Nat.le_of_ble_eq_true rfl) rfl ?_
            refine m_wrong M7 (fun h8 M8 => ⟨rfl, ?_⟩)
            refine wp_br k_98 rfl rfl rfl rfl (fun _ => ?_) (fun z => absurd (show (nI 0 : Int32) = 0 by decide) z)
            refine wp_kn k_98 rfl rfl ?_
            replace hr := (if_neg zd).symm.trans hr
            cases hr
            have hw6 : W ≤ 1000000 := (lcmp_le (by omega) (by omega)).mp z140
            have hV : numV W = W := if_neg (by omega)
            rw [lN_i] at *
            have hrg : (low ≤ numV W ∧ numV W ≤ high) ↔ (nI low ≤ nI W ∧ nI W ≤ nI high) := by rw [hV, nI_leI (by omega) (by omega), nI_leI (by omega) (by omega)]
            exact wp_irt k_98 rfl rfl rfl (K0 _ _ f M8 (((eqx.refl _ _).u (by decide)).u (by decide)) rfl (Or.inr (Or.inr ⟨y122, (fun q => hz.elim (fun y => absurd q.1 (by omega)) (fun y => y q.2)), fun q => zi (hrg.mp q), rfl⟩)))
        · refine wp_ldc k_98 rfl ?_
          refine wp_br k_98 rfl rfl rfl rfl (fun _ => ?_) (fun z => absurd trivial z)
          refine wm_pi 48 M k_98 rfl rfl rfl rfl rfl rfl (fun h9 M9 => ?_)
          refine wp_pure k_98 rfl rfl ?_
          refine wm_gi 48 M9 k_98 rfl rfl rfl rfl rfl ?_
          refine wp_pure k_98 rfl rfl ?_
          refine wp_pure k_98 rfl rfl ?_
          refine wp_is k_98 rfl (by decide) [.int (nI 1000001), .int (nI low), .int (nI high)] rfl (r := []) (Nat.le_of_ble_eq_true rfl) (Nat.le_of_ble_eq_true rfl) rfl ?_
          refine m_in (fun zi => ⟨rfl, ?_⟩) (fun zi => ⟨rfl, ?_⟩)
          · refine wp_br k_98 rfl rfl rfl rfl (fun _ => ?_) (fun z => absurd (show ¬ (nI 1 : Int32) = 0 by decide) z)
            refine wp_kn k_98 rfl rfl ?_
            refine wp_br k_98 rfl rfl rfl rfl (fun _ => ?_) (fun z => absurd trivial z)
            replace hr := (if_neg zd).symm.trans hr
            cases hr
            have hw6 : ¬ W ≤ 1000000 := fun q => z140 ((lcmp_le (by omega) (by omega)).mpr q)
            have hV : numV W = 1000001 := if_pos (by omega)
            have hrg : (low ≤ numV W ∧ numV W ≤ high) ↔ (nI low ≤ nI 1000001 ∧ nI 1000001 ≤ nI high) := by rw [hV, nI_leI (by omega) (by omega), nI_leI (by omega) (by omega)]
            exact wp_irt k_98 rfl rfl rfl (K1 _ _ M9 ((eqx.refl _ _).u (by decide)) hp (by rw [hV]; rfl) y122 (fun q => hz.elim (fun y => absurd q.1 (by omega)) (fun y => y q.2)) (hrg.mpr zi))
          · refine wp_br k_98 rfl rfl rfl rfl (fun z => absurd z (show ¬ (¬ (nI 0 : Int32) = 0) by decide)) (fun _ => ?_)
            refine wp_pure k_98 rfl rfl ?_
            refine wp_pure k_98 rfl rfl ?_
            refine wm_gi 49 M9 k_98 rfl rfl rfl rfl hf ?_
            refine wm_iv k_98 rfl rfl M9 [.int (nI f)] rfl (r := []) (Nat.le_of_ble_eq_true rfl) (Nat.le_of_ble_eq_true rfl) rfl ?_
            refine m_wrong M9 (fun h10 M10 => ⟨rfl, ?_⟩)
            refine wp_br k_98 rfl rfl rfl rfl (fun _ => ?_) (fun z => absurd (show (nI 0 : Int32) = 0 by decide) z)
            refine wp_kn k_98 rfl rfl ?_
            replace hr := (if_neg zd).symm.trans hr
            cases hr
            have hw6 : ¬ W ≤ 1000000 := fun q => z140 ((lcmp_le (by omega) (by omega)).mpr q)
            have hV : numV W = 1000001 := if_pos (by omega)
            have hrg : (low ≤ numV W ∧ numV W ≤ high) ↔ (nI low ≤ nI 1000001 ∧ nI 1000001 ≤ nI high) := by rw [hV, nI_leI (by omega) (by omega), nI_leI (by omega) (by omega)]
            exact wp_irt k_98 rfl rfl rfl (K0 _ _ f M10 (((eqx.refl _ _).u (by decide)).u (by decide)) rfl (Or.inr (Or.inr ⟨y122, (fun q => hz.elim (fun y => absurd q.1 (by omega)) (fun y => y q.2)), fun q => zi (hrg.mp q), rfl⟩)))
      · have y122 : p = f := yNNE (by omega) (by omega) z122
        refine wp_pure k_98 rfl rfl ?_
        refine wp_pure k_98 rfl rfl ?_
        refine wm_gi 23 M k_98 rfl rfl rfl rfl hp ?_
        refine wm_iv k_98 rfl rfl M [.int (nI p)] rfl (r := []) (Nat.le_of_ble_eq_true rfl) (Nat.le_of_ble_eq_true rfl) rfl ?_
        refine m_wrong M (fun h11 M11 => ⟨rfl, ?_⟩)
        replace hr := (if_neg zd).symm.trans hr
        cases hr
        exact wp_irt k_98 rfl rfl rfl (K0 _ _ E M11 ((eqx.refl _ _).u (by decide)) rfl (Or.inl ⟨y122, y122⟩))
theorem m_number {h0 h : sm_H} {m : Nat} {g : Nat → Int32} {ar : Nat → Nat → Int32} {Q : Nat → Option Value → sm_H → Prop} (M : MS h0 h m g ar) {len p : Nat} (hn : g 2 = nI len) (hl : len ≤ 3000) (hp : g 23 = nI p) (hpl : p ≤ len) {low high : Nat} (hlo : low < 2 ^ 31) (hhi : high < 2 ^ 31) (K1 : ∀ h' g' v q, MS h0 h' m g' ar → eqx [23, 48, 49] g g' → numM (ar 1) len low high p = .ok (v, q) → g' 23 = nI q → g' 48 = nI v → Q 0 (some (.int (nI 1))) h') (K0 : ∀ h' g' q, MS h0 h' m g' ar → eqx [23, 24, 48, 49] g g' → numM (ar 1) len low high p = .error q → g' 24 = nI q → Q 0 (some (.int (nI 0))) h') : sm_wp 98 0 [.ref m, .int (nI low), .int (nI high), jk, jk] [] h Q := by
  refine wp_pure k_98 rfl rfl ?_
  refine wp_kn k_98 rfl rfl ?_
  refine wm_iv k_98 rfl rfl M [.int (nI 32)] rfl (r := []) (Nat.le_of_ble_eq_true rfl) (Nat.le_of_ble_eq_true rfl) rfl ?_
  refine m_takes M hn hl hp hpl (fun zt1 h1 M1 => ⟨rfl, ?_⟩) (fun zt2 h2 M2 => ⟨rfl, ?_⟩)
  · have hp1 : p + 1 ≤ len := tkc zt1 (by decide)
    refine wp_br k_98 rfl rfl rfl rfl (fun _ => ?_) (fun z => absurd (show ¬ (nI 1 : Int32) = 0 by decide) z)
    refine wp_pure k_98 rfl rfl ?_
    refine wp_pure k_98 rfl rfl ?_
    refine wm_gi 23 M1 k_98 rfl rfl rfl rfl rfl ?_
    refine wm_pi 49 M1 k_98 rfl rfl rfl rfl rfl rfl (fun h3 M3 => ?_)
    refine wp_pure k_98 rfl rfl ?_
    refine wp_pure k_98 rfl rfl ?_
    refine m_numL (W := (numL (ar 1) len len (p + 1) 0).1) (E := (numL (ar 1) len len (p + 1) 0).2) hl (by omega) hp1 hlo hhi len M3 (show _ = nI len from hn) (show _ = nI (p + 1) from rfl) hp1 (show _ = nI (p + 1) from rfl) (Nat.le_refl _) (by omega) (Or.inl (by omega)) (by omega) rfl (fun h9 g9 M9 e9 a9 b9 c9 d9 f9 => K1 h9 g9 _ _ M9 (((((eqx.refl _ _).u (by decide)).u (by decide)) : eqx [23, 49] g _).trans e9 (by decide)) ?_ a9 b9) (fun h9 g9 q9 M9 e9 a9 b9 => K0 h9 g9 q9 M9 (((((eqx.refl _ _).u (by decide)).u (by decide)) : eqx [23, 49] g _).trans e9 (by decide)) ?_ a9)
    · unfold numM
      rw [skM_ok zt1]
      dsimp only
      rw [if_neg c9, if_neg d9, if_pos f9]
    · unfold numM
      rw [skM_ok zt1]
      dsimp only
      rcases b9 with ⟨q1, q2⟩ | ⟨q1, q2, q3⟩ | ⟨q1, q2, q3, q4⟩
      · rw [if_pos q1, q2]
      · rw [if_neg q1, if_pos q2, q3]
      · rw [if_neg q1, if_neg q2, if_neg q3, q4]
  · refine wp_br k_98 rfl rfl rfl rfl (fun z => absurd z (show ¬ (¬ (nI 0 : Int32) = 0) by decide)) (fun _ => ?_)
    refine wp_kn k_98 rfl rfl ?_
    exact wp_irt k_98 rfl rfl rfl (K0 _ _ p M2 ((eqx.refl _ _).u (by decide)) (by unfold numM; rw [skM_er zt2]) rfl)
theorem m_new {h0 h : sm_H} {m : Nat} {g : Nat → Int32} {ar : Nat → Nat → Int32} {Q : Nat → Option Value → sm_H → Prop} (M : MS h0 h m g ar) {len p : Nat} (hn : g 2 = nI len) (hl : len ≤ 3000) (hp : g 23 = nI p) (hpl : p ≤ len) {n : Nat} (h26 : g 26 = nI n) (h5 : n ≤ 501) (K1 : ∀ h' g' v q, MS h0 h' m g' ar → eqx [23, 48, 49] g g' → newM (ar 1) len (ar 37) n p = .ok (v, q) → g' 23 = nI q → g' 48 = v → Q 0 (some (.int (nI 1))) h') (K0 : ∀ h' g' q, MS h0 h' m g' ar → eqx [23, 24, 48, 49] g g' → newM (ar 1) len (ar 37) n p = .error q → g' 24 = nI q → Q 0 (some (.int (nI 0))) h') : sm_wp 91 0 [.ref m] [] h Q := by
  refine wp_pure k_91 rfl rfl ?_
  refine wm_iv k_91 rfl rfl M [] rfl (r := []) (Nat.le_of_ble_eq_true rfl) (Nat.le_of_ble_eq_true rfl) rfl ?_
  refine m_name M hn hl hp hpl (fun h1 g1 vn fn qn M1 en zn an bn cn => ⟨rfl, ?_⟩) (fun h2 g2 qn M2 en zn an => ⟨rfl, ?_⟩)
  · refine wp_br k_91 rfl rfl rfl rfl (fun z => absurd z (show ¬ ((nI 1 : Int32) = 0) by decide)) (fun _ => ?_)
    refine wp_pure k_91 rfl rfl ?_
    refine wp_pure k_91 rfl rfl ?_
    refine wm_gi 48 M1 k_91 rfl rfl rfl rfl bn ?_
    refine wm_iv k_91 rfl rfl M1 [.int (vn)] rfl (r := []) (Nat.le_of_ble_eq_true rfl) (Nat.le_of_ble_eq_true rfl) rfl ?_
    refine m_numOf M1 (show _ = nI n from (en 26 (by decide)).trans h26) h5 (fun zf => ⟨rfl, ?_⟩) (fun kf zf kl => ⟨rfl, ?_⟩)
    · refine wp_km k_91 rfl rfl ?_
      refine wp_br k_91 rfl rfl rfl rfl (fun _ => ?_) (fun z => absurd (rfl) z)
      refine wp_kn k_91 rfl rfl ?_
      refine wp_br k_91 rfl rfl rfl rfl (fun _ => ?_) (fun z => absurd trivial z)
      exact wp_irt k_91 rfl rfl rfl (K1 _ _ vn qn M1 en (by unfold newM; rw [zn]; show (match fI (ar 37) n vn with | none => _ | some _ => _) = _; rw [zf]) an bn)
    · refine wp_km k_91 rfl rfl ?_
      refine wp_br k_91 rfl rfl rfl rfl (fun z => absurd z (nI_nm1 (by omega))) (fun _ => ?_)
      refine wp_pure k_91 rfl rfl ?_
      refine wp_pure k_91 rfl rfl ?_
      refine wm_gi 49 M1 k_91 rfl rfl rfl rfl cn ?_
      refine wm_iv k_91 rfl rfl M1 [.int (nI fn)] rfl (r := []) (Nat.le_of_ble_eq_true rfl) (Nat.le_of_ble_eq_true rfl) rfl ?_
      refine m_wrong M1 (fun h3 M3 => ⟨rfl, ?_⟩)
      refine wp_br k_91 rfl rfl rfl rfl (fun _ => ?_) (fun z => absurd (show (nI 0 : Int32) = 0 by decide) z)
      refine wp_kn k_91 rfl rfl ?_
      exact wp_irt k_91 rfl rfl rfl (K0 _ _ fn M3 ((en.more (by decide)).u (by decide)) (by unfold newM; rw [zn]; show (match fI (ar 37) n vn with | none => _ | some _ => _) = _; rw [zf]) rfl)
  · refine wp_br k_91 rfl rfl rfl rfl (fun _ => ?_) (fun z => absurd (show (nI 0 : Int32) = 0 by decide) z)
    refine wp_kn k_91 rfl rfl ?_
    exact wp_irt k_91 rfl rfl rfl (K0 _ _ qn M2 (en.more (by decide)) (by unfold newM; rw [zn]) an)
theorem m_old {h0 h : sm_H} {m : Nat} {g : Nat → Int32} {ar : Nat → Nat → Int32} {Q : Nat → Option Value → sm_H → Prop} (M : MS h0 h m g ar) {len p : Nat} (hn : g 2 = nI len) (hl : len ≤ 3000) (hp : g 23 = nI p) (hpl : p ≤ len) {n : Nat} (h26 : g 26 = nI n) (h5 : n ≤ 501) {c : Int32} (K1 : ∀ h' g' k f q, MS h0 h' m g' ar → eqx [23, 48, 49] g g' → oldM (ar 1) len (ar 37) (ar 36) n c p = .ok (k, f, q) → g' 23 = nI q → g' 48 = nI k → g' 49 = nI f → k < n → Q 0 (some (.int (nI 1))) h') (K0 : ∀ h' g' q, MS h0 h' m g' ar → eqx [23, 24, 48, 49] g g' → oldM (ar 1) len (ar 37) (ar 36) n c p = .error q → g' 24 = nI q → Q 0 (some (.int (nI 0))) h') : sm_wp 100 0 [.ref m, .int c, jk] [] h Q := by
  refine wp_pure k_100 rfl rfl ?_
  refine wm_iv k_100 rfl rfl M [] rfl (r := []) (Nat.le_of_ble_eq_true rfl) (Nat.le_of_ble_eq_true rfl) rfl ?_
  refine m_name M hn hl hp hpl (fun h1 g1 vn fn qn M1 en zn an bn cn => ⟨rfl, ?_⟩) (fun h2 g2 qn M2 en zn an => ⟨rfl, ?_⟩)
  · refine wp_br k_100 rfl rfl rfl rfl (fun _ => ?_) (fun z => absurd (show ¬ (nI 1 : Int32) = 0 by decide) z)
    refine wp_pure k_100 rfl rfl ?_
    refine wp_pure k_100 rfl rfl ?_
    refine wm_gi 48 M1 k_100 rfl rfl rfl rfl bn ?_
    refine wm_iv k_100 rfl rfl M1 [.int (vn)] rfl (r := []) (Nat.le_of_ble_eq_true rfl) (Nat.le_of_ble_eq_true rfl) rfl ?_
    refine m_numOf M1 (show _ = nI n from (en 26 (by decide)).trans h26) h5 (fun zf => ⟨rfl, ?_⟩) (fun kf zf kl => ⟨rfl, ?_⟩)
    · refine wp_pure k_100 rfl rfl ?_
      refine wp_pure k_100 rfl rfl ?_
      refine wp_km k_100 rfl rfl ?_
      refine wp_br k_100 rfl rfl rfl rfl (fun _ => ?_) (fun z => absurd (rfl) z)
      refine wp_pure k_100 rfl rfl ?_
      refine wp_pure k_100 rfl rfl ?_
      refine wm_gi 49 M1 k_100 rfl rfl rfl rfl cn ?_
      refine wm_iv k_100 rfl rfl M1 [.int (nI fn)] rfl (r := []) (Nat.le_of_ble_eq_true rfl) (Nat.le_of_ble_eq_true rfl) rfl ?_
      refine m_wrong M1 (fun h3 M3 => ⟨rfl, ?_⟩)
      exact wp_irt k_100 rfl rfl rfl (K0 _ _ fn M3 ((en.more (by decide)).u (by decide)) (by unfold oldM; rw [zn]; show (match fI (ar 37) n vn with | none => _ | some _ => _) = _; rw [zf]) rfl)
    · refine wp_pure k_100 rfl rfl ?_
      refine wp_pure k_100 rfl rfl ?_
      refine wp_km k_100 rfl rfl ?_
      refine wp_br k_100 rfl rfl rfl rfl (fun z => absurd z (nI_nm1 (by omega))) (fun _ => ?_)
      refine wp_pure k_100 rfl rfl ?_
      refine wm_ga 36 M1 k_100 rfl rfl rfl (by decide) ?_
      refine wp_pure k_100 rfl rfl ?_
      refine wm_al 36 M1 k_100 rfl rfl (by decide) rfl (show kf < 501 by omega) rfl ?_
      refine wp_pure k_100 rfl rfl ?_
      refine wp_br k_100 rfl rfl rfl rfl (fun z30 => ?_) (fun z30 => ?_)
      · refine wp_pure k_100 rfl rfl ?_
        refine wp_pure k_100 rfl rfl ?_
        refine wm_pi 48 M1 k_100 rfl rfl rfl rfl rfl rfl (fun h4 M4 => ?_)
        refine wp_kn k_100 rfl rfl ?_
        exact wp_irt k_100 rfl rfl rfl (K1 _ _ kf fn qn M4 (en.u (by decide)) (by unfold oldM; rw [zn]; show (match fI (ar 37) n vn with | none => _ | some _ => _) = _; rw [zf]; exact if_pos z30) an rfl cn kl)
      · refine wp_pure k_100 rfl rfl ?_
        refine wp_pure k_100 rfl rfl ?_
        refine wm_gi 49 M1 k_100 rfl rfl rfl rfl cn ?_
        refine wm_iv k_100 rfl rfl M1 [.int (nI fn)] rfl (r := []) (Nat.le_of_ble_eq_true rfl) (Nat.le_of_ble_eq_true rfl) rfl ?_
        refine m_wrong M1 (fun h5 M5 => ⟨rfl, ?_⟩)
        exact wp_irt k_100 rfl rfl rfl (K0 _ _ fn M5 ((en.more (by decide)).u (by decide)) (by unfold oldM; rw [zn]; show (match fI (ar 37) n vn with | none => _ | some _ => _) = _; rw [zf]; exact if_neg z30) rfl)
  · refine wp_br k_100 rfl rfl rfl rfl (fun z => absurd z (show ¬ (¬ (nI 0 : Int32) = 0) by decide)) (fun _ => ?_)
    refine wp_kn k_100 rfl rfl ?_
    exact wp_irt k_100 rfl rfl rfl (K0 _ _ qn M2 (en.more (by decide)) (by unfold oldM; rw [zn]) an)
