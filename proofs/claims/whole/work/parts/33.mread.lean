/-! the reference: reading signs -/
theorem yL {a b : Nat} (ha : a < 2 ^ 31) (hb : b < 2 ^ 31) (z : nI a < nI b) : a < b := (nI_ltI ha hb).mp z
theorem yNL {a b : Nat} (hb : b < 2 ^ 31) (ha : a < 2 ^ 31) (z : ¬ nI a < nI b) : b ≤ a := Nat.not_lt.mp (fun q => z ((nI_ltI ha hb).mpr q))
theorem yLe {a b : Nat} (ha : a < 2 ^ 31) (hb : b < 2 ^ 31) (z : nI a ≤ nI b) : a ≤ b := (nI_leI ha hb).mp z
theorem yNLe {a b : Nat} (hb : b < 2 ^ 31) (ha : a < 2 ^ 31) (z : ¬ nI a ≤ nI b) : b < a := Nat.not_le.mp (fun q => z ((nI_leI ha hb).mpr q))
theorem yE {a b : Nat} (ha : a < 2 ^ 31) (hb : b < 2 ^ 31) (z : nI a = nI b) : a = b := (nI_eq ha hb).mp z
theorem yNE {a b : Nat} (_ : a < 2 ^ 31) (_ : b < 2 ^ 31) (z : ¬ nI a = nI b) : ¬ a = b := fun q => z (by rw [q])
theorem yNNE {a b : Nat} (ha : a < 2 ^ 31) (hb : b < 2 ^ 31) (z : ¬ ¬ nI a = nI b) : a = b := (nI_eq ha hb).mp (Classical.not_not.mp z)
theorem m_in {h : sm_H} {Q : Nat → Option Value → sm_H → Prop} {v lo hi : Int32} (k1 : lo ≤ v ∧ v ≤ hi → Q 0 (some (.int (nI 1))) h) (k0 : ¬ (lo ≤ v ∧ v ≤ hi) → Q 0 (some (.int (nI 0))) h) : sm_wp 83 0 [.int v, .int lo, .int hi] [] h Q := by
  refine wp_pure k_83 rfl rfl ?_
  refine wp_pure k_83 rfl rfl ?_
  refine wp_br k_83 rfl rfl rfl rfl (fun z2 => ?_) (fun z2 => ?_)
  · refine wp_kn k_83 rfl rfl ?_
    exact wp_irt k_83 rfl rfl rfl (k0 (fun q => absurd q.1 (Int32.not_le.mpr z2)))
  · refine wp_pure k_83 rfl rfl ?_
    refine wp_pure k_83 rfl rfl ?_
    refine wp_br k_83 rfl rfl rfl rfl (fun z7 => ?_) (fun z7 => ?_)
    · refine wp_kn k_83 rfl rfl ?_
      exact wp_irt k_83 rfl rfl rfl (k0 (fun q => absurd q.2 (Int32.not_le.mpr z7)))
    · refine wp_kn k_83 rfl rfl ?_
      refine wp_br k_83 rfl rfl rfl rfl (fun _ => ?_) (fun z => absurd trivial z)
      exact wp_irt k_83 rfl rfl rfl (k1 ⟨Int32.not_lt.mp z2, Int32.not_lt.mp z7⟩)
theorem m_next {h0 h : sm_H} {m : Nat} {g : Nat → Int32} {ar : Nat → Nat → Int32} {Q : Nat → Option Value → sm_H → Prop} (M : MS h0 h m g ar) {len p : Nat} (hn : g 2 = nI len) (hl : len ≤ 3000) (hp : g 23 = nI p) (hpl : p ≤ len) (k : Q 0 (some (.int (tk (ar 1) len p))) h) : sm_wp 86 0 [.ref m] [] h Q := by
  refine wp_pure k_86 rfl rfl ?_
  refine wm_gi 23 M k_86 rfl rfl rfl rfl hp ?_
  refine wp_pure k_86 rfl rfl ?_
  refine wm_gi 2 M k_86 rfl rfl rfl rfl hn ?_
  refine wp_br k_86 rfl rfl rfl rfl (fun z8 => ?_) (fun z8 => ?_)
  · have y8 : len ≤ p := yLe (by omega) (by omega) z8
    refine wp_km k_86 rfl rfl ?_
    rw [tk_end y8] at k
    exact wp_irt k_86 rfl rfl rfl (k)
  · have y8 : p < len := yNLe (by omega) (by omega) z8
    refine wp_pure k_86 rfl rfl ?_
    refine wm_ga 1 M k_86 rfl rfl rfl (by decide) ?_
    refine wp_pure k_86 rfl rfl ?_
    refine wm_gi 23 M k_86 rfl rfl rfl rfl hp ?_
    refine wm_al 1 M k_86 rfl rfl (by decide) rfl (show p < 3000 by omega) rfl ?_
    refine wp_br k_86 rfl rfl rfl rfl (fun _ => ?_) (fun z => absurd trivial z)
    rw [tk_in y8] at k
    exact wp_irt k_86 rfl rfl rfl (k)
theorem m_wrong {h0 h : sm_H} {m : Nat} {g : Nat → Int32} {ar : Nat → Nat → Int32} {Q : Nat → Option Value → sm_H → Prop} (M : MS h0 h m g ar) {q : Int32} (k : ∀ h', MS h0 h' m (uF g 24 q) ar → Q 0 (some (.int (nI 0))) h') : sm_wp 88 0 [.ref m, .int q] [] h Q := by
  refine wp_pure k_88 rfl rfl ?_
  refine wp_pure k_88 rfl rfl ?_
  refine wm_pi 24 M k_88 rfl rfl rfl rfl rfl rfl (fun h1 M1 => ?_)
  refine wp_kn k_88 rfl rfl ?_
  exact wp_irt k_88 rfl rfl rfl (k _ M1)
theorem m_takes {h0 h : sm_H} {m : Nat} {g : Nat → Int32} {ar : Nat → Nat → Int32} {Q : Nat → Option Value → sm_H → Prop} (M : MS h0 h m g ar) {len p : Nat} (hn : g 2 = nI len) (hl : len ≤ 3000) (hp : g 23 = nI p) (hpl : p ≤ len) {c : Int32} (k1 : tk (ar 1) len p = c → ∀ h', MS h0 h' m (uF g 23 (nI (p + 1))) ar → Q 0 (some (.int (nI 1))) h') (k0 : ¬ tk (ar 1) len p = c → ∀ h', MS h0 h' m (uF g 24 (nI p)) ar → Q 0 (some (.int (nI 0))) h') : sm_wp 93 0 [.ref m, .int c] [] h Q := by
  refine wp_pure k_93 rfl rfl ?_
  refine wm_iv k_93 rfl rfl M [] rfl (r := []) (Nat.le_of_ble_eq_true rfl) (Nat.le_of_ble_eq_true rfl) rfl ?_
  refine m_next M hn hl hp hpl ⟨rfl, ?_⟩
  refine wp_pure k_93 rfl rfl ?_
  refine wp_br k_93 rfl rfl rfl rfl (fun z5 => ?_) (fun z5 => ?_)
  · refine wp_pure k_93 rfl rfl ?_
    refine wp_pure k_93 rfl rfl ?_
    refine wm_gi 23 M k_93 rfl rfl rfl rfl hp ?_
    refine wp_kn k_93 rfl rfl ?_
    refine wp_addN k_93 rfl ?_
    refine wm_pi 23 M k_93 rfl rfl rfl rfl rfl rfl (fun h1 M1 => ?_)
    refine wp_kn k_93 rfl rfl ?_
    exact wp_irt k_93 rfl rfl rfl (k1 z5 _ M1)
  · refine wp_pure k_93 rfl rfl ?_
    refine wp_pure k_93 rfl rfl ?_
    refine wm_gi 23 M k_93 rfl rfl rfl rfl hp ?_
    refine wm_iv k_93 rfl rfl M [.int (nI p)] rfl (r := []) (Nat.le_of_ble_eq_true rfl) (Nat.le_of_ble_eq_true rfl) rfl ?_
    refine m_wrong M (fun h2 M2 => ⟨rfl, ?_⟩)
    exact wp_irt k_93 rfl rfl rfl (k0 z5 _ M2)
theorem m_isLt {h0 h : sm_H} {m : Nat} {g : Nat → Int32} {ar : Nat → Nat → Int32} {Q : Nat → Option Value → sm_H → Prop} (M : MS h0 h m g ar) {len p : Nat} (hn : g 2 = nI len) (hl : len ≤ 3000) (hp : g 23 = nI p) (hpl : p ≤ len) (k1 : isLt (tk (ar 1) len p) → Q 0 (some (.int (nI 1))) h) (k0 : ¬ isLt (tk (ar 1) len p) → Q 0 (some (.int (nI 0))) h) : sm_wp 94 0 [.ref m] [] h Q := by
  refine wp_pure k_94 rfl rfl ?_
  refine wm_iv k_94 rfl rfl M [] rfl (r := []) (Nat.le_of_ble_eq_true rfl) (Nat.le_of_ble_eq_true rfl) rfl ?_
  refine m_next M hn hl hp hpl ⟨rfl, ?_⟩
  refine wp_kn k_94 rfl rfl ?_
  refine wp_kn k_94 rfl rfl ?_
  refine wp_is k_94 rfl (by decide) [.int (tk (ar 1) len p), .int (nI 97), .int (nI 122)] rfl (r := []) (Nat.le_of_ble_eq_true rfl) (Nat.le_of_ble_eq_true rfl) rfl ?_
  refine m_in (fun z => ⟨rfl, ?_⟩) (fun z => ⟨rfl, ?_⟩)
  · exact wp_irt k_94 rfl rfl rfl (k1 z)
  · exact wp_irt k_94 rfl rfl rfl (k0 z)
theorem m_isDg {h0 h : sm_H} {m : Nat} {g : Nat → Int32} {ar : Nat → Nat → Int32} {Q : Nat → Option Value → sm_H → Prop} (M : MS h0 h m g ar) {len p : Nat} (hn : g 2 = nI len) (hl : len ≤ 3000) (hp : g 23 = nI p) (hpl : p ≤ len) (k1 : isDg (tk (ar 1) len p) → Q 0 (some (.int (nI 1))) h) (k0 : ¬ isDg (tk (ar 1) len p) → Q 0 (some (.int (nI 0))) h) : sm_wp 95 0 [.ref m] [] h Q := by
  refine wp_pure k_95 rfl rfl ?_
  refine wm_iv k_95 rfl rfl M [] rfl (r := []) (Nat.le_of_ble_eq_true rfl) (Nat.le_of_ble_eq_true rfl) rfl ?_
  refine m_next M hn hl hp hpl ⟨rfl, ?_⟩
  refine wp_kn k_95 rfl rfl ?_
  refine wp_kn k_95 rfl rfl ?_
  refine wp_is k_95 rfl (by decide) [.int (tk (ar 1) len p), .int (nI 48), .int (nI 57)] rfl (r := []) (Nat.le_of_ble_eq_true rfl) (Nat.le_of_ble_eq_true rfl) rfl ?_
  refine m_in (fun z => ⟨rfl, ?_⟩) (fun z => ⟨rfl, ?_⟩)
  · exact wp_irt k_95 rfl rfl rfl (k1 z)
  · exact wp_irt k_95 rfl rfl rfl (k0 z)
theorem m_numberOf {h0 h : sm_H} {m : Nat} {g : Nat → Int32} {ar : Nat → Nat → Int32} {Q : Nat → Option Value → sm_H → Prop} (M : MS h0 h m g ar) {n : Nat} (hn : g 26 = nI n) (h5 : n ≤ 501) {c : Int32} (k : Q 0 (some (.int (fIv (fI (ar 37) n c)))) h) : sm_wp 96 0 [.ref m, .int c, jk] [] h Q := by
  refine wp_kn k_96 rfl rfl ?_
  refine wp_pure k_96 rfl rfl ?_
  refine dn (n := n) (P := fun i => (∀ i', i' < i → ¬ ar 37 i' = c) → sm_wp 96 2 [.ref m, .int c, .int (nI i)] [] h Q) (fun hb => ?_) (fun i hi ih hb => ?_) 0 (Nat.zero_le n) (fun i hi => absurd hi (Nat.not_lt_zero i))
  · refine wp_pure k_96 rfl rfl ?_
    refine wp_pure k_96 rfl rfl ?_
    refine wm_gi 26 M k_96 rfl rfl rfl rfl hn ?_
    refine wp_br k_96 rfl rfl rfl rfl (fun _ => ?_) (fun z => absurd (nI_le (Nat.le_refl n) (by omega)) z)
    refine wp_km k_96 rfl rfl ?_
    rw [fI_none (fun i hi => hb i hi)] at k
    exact wp_irt k_96 rfl rfl rfl (k)
  · refine wp_pure k_96 rfl rfl ?_
    refine wp_pure k_96 rfl rfl ?_
    refine wm_gi 26 M k_96 rfl rfl rfl rfl hn ?_
    refine wp_br k_96 rfl rfl rfl rfl (fun z => absurd z (nI_ge hi (by omega))) (fun _ => ?_)
    refine wp_pure k_96 rfl rfl ?_
    refine wm_ga 37 M k_96 rfl rfl rfl (by decide) ?_
    refine wp_pure k_96 rfl rfl ?_
    refine wm_al 37 M k_96 rfl rfl (by decide) rfl (show i < 501 by omega) rfl ?_
    refine wp_pure k_96 rfl rfl ?_
    refine wp_br k_96 rfl rfl rfl rfl (fun z17 => ?_) (fun z17 => ?_)
    · refine wp_inc k_96 rfl rfl rfl ?_
      refine wp_br k_96 rfl rfl rfl rfl (fun _ => ?_) (fun z => absurd trivial z)
      exact ih (fun j hj => (Nat.lt_succ_iff_lt_or_eq.mp hj).elim (hb j) (fun e => by rw [e]; exact z17))
    · refine wp_pure k_96 rfl rfl ?_
      rw [fI_some hi (Classical.not_not.mp z17) hb] at k
      exact wp_irt k_96 rfl rfl rfl (k)
theorem nI_nm1 {k : Nat} (h : k < 2 ^ 31) : ¬ nI k = -1 := fun e => absurd (show nI k < 0 by rw [e]; decide) (nI_pos h)
theorem m_numOf {h0 h : sm_H} {m : Nat} {g : Nat → Int32} {ar : Nat → Nat → Int32} {Q : Nat → Option Value → sm_H → Prop} (M : MS h0 h m g ar) {n : Nat} (hn : g 26 = nI n) (h5 : n ≤ 501) {c : Int32} (K0 : fI (ar 37) n c = none → Q 0 (some (.int (-1))) h) (K1 : ∀ k, fI (ar 37) n c = some k → k < n → Q 0 (some (.int (nI k))) h) : sm_wp 96 0 [.ref m, .int c, jk] [] h Q := by
  refine m_numberOf M hn h5 ?_
  cases e : fI (ar 37) n c with
  | none => exact K0 e
  | some k => exact K1 k e (fI_spec e).1
theorem m_nameL {h0 : sm_H} {m : Nat} {ar : Nat → Nat → Int32} {Q : Nat → Option Value → sm_H → Prop} {len f : Nat} (hl : len ≤ 3000) : ∀ (k : Nat) {h : sm_H} {g : Nat → Int32} (M : MS h0 h m g ar) (hn : g 2 = nI len) {p : Nat} {v : Int32} (hp : g 23 = nI p) (hpl : p ≤ len) (hf : g 49 = nI f) (hfp : p + k = f + 4) (hf2 : f ≤ p)
    (K : ∀ h' g', MS h0 h' m g' ar → eqx [23, 48] g g' → ∀ r, nmL (ar 1) len k p v = r → g' 23 = nI r.2 → g' 48 = r.1 → r.2 ≤ len → Q 0 (some (.int (nI 1))) h'), sm_wp 92 37 [.ref m, .int v] [] h Q := by
  intro k
  induction k with
  | zero =>
    intro h g M hn p v hp hpl hf hfp hf2 K
    refine wp_pure k_92 rfl rfl ?_
    refine wm_iv k_92 rfl rfl M [] rfl (r := []) (Nat.le_of_ble_eq_true rfl) (Nat.le_of_ble_eq_true rfl) rfl ?_
    refine m_isLt M hn hl hp hpl (fun zisLt => ⟨rfl, ?_⟩) (fun zisLt => ⟨rfl, ?_⟩)
    · refine wp_br k_92 rfl rfl rfl rfl (fun _ => ?_) (fun z => absurd (show ¬ (nI 1 : Int32) = 0 by decide) z)
      refine wp_pure k_92 rfl rfl ?_
      refine wm_gi 23 M k_92 rfl rfl rfl rfl hp ?_
      refine wp_pure k_92 rfl rfl ?_
      refine wm_gi 49 M k_92 rfl rfl rfl rfl hf ?_
      refine wp_subN k_92 rfl (show f ≤ p by omega) ?_
      refine wp_kn k_92 rfl rfl ?_
      refine wp_br k_92 rfl rfl rfl rfl (fun _ => ?_) (fun z => absurd (nI_le (show 4 ≤ p - f by omega) (by omega)) z)
      refine wp_pure k_92 rfl rfl ?_
      refine wp_pure k_92 rfl rfl ?_
      refine wm_pi 48 M k_92 rfl rfl rfl rfl rfl rfl (fun h1 M1 => ?_)
      refine wp_kn k_92 rfl rfl ?_
      exact wp_irt k_92 rfl rfl rfl (K _ _ M1 (eqx.u1 (by decide)) (v, p) rfl ((uF_ne (by decide)).trans hp) uF_at hpl)
    · refine wp_br k_92 rfl rfl rfl rfl (fun z => absurd z (show ¬ (¬ (nI 0 : Int32) = 0) by decide)) (fun _ => ?_)
      refine wp_pure k_92 rfl rfl ?_
      refine wm_iv k_92 rfl rfl M [] rfl (r := []) (Nat.le_of_ble_eq_true rfl) (Nat.le_of_ble_eq_true rfl) rfl ?_
      refine m_isDg M hn hl hp hpl (fun zisDg => ⟨rfl, ?_⟩) (fun zisDg => ⟨rfl, ?_⟩)
      · refine wp_br k_92 rfl rfl rfl rfl (fun z => absurd z (show ¬ ((nI 1 : Int32) = 0) by decide)) (fun _ => ?_)
        refine wp_pure k_92 rfl rfl ?_
        refine wm_gi 23 M k_92 rfl rfl rfl rfl hp ?_
        refine wp_pure k_92 rfl rfl ?_
        refine wm_gi 49 M k_92 rfl rfl rfl rfl hf ?_
        refine wp_subN k_92 rfl (show f ≤ p by omega) ?_
        refine wp_kn k_92 rfl rfl ?_
        refine wp_br k_92 rfl rfl rfl rfl (fun _ => ?_) (fun z => absurd (nI_le (show 4 ≤ p - f by omega) (by omega)) z)
        refine wp_pure k_92 rfl rfl ?_
        refine wp_pure k_92 rfl rfl ?_
        refine wm_pi 48 M k_92 rfl rfl rfl rfl rfl rfl (fun h2 M2 => ?_)
        refine wp_kn k_92 rfl rfl ?_
        exact wp_irt k_92 rfl rfl rfl (K _ _ M2 (eqx.u1 (by decide)) (v, p) rfl ((uF_ne (by decide)).trans hp) uF_at hpl)
      · refine wp_br k_92 rfl rfl rfl rfl (fun _ => ?_) (fun z => absurd (show (nI 0 : Int32) = 0 by decide) z)
        refine wp_pure k_92 rfl rfl ?_
        refine wp_pure k_92 rfl rfl ?_
        refine wm_pi 48 M k_92 rfl rfl rfl rfl rfl rfl (fun h3 M3 => ?_)
        refine wp_kn k_92 rfl rfl ?_
        exact wp_irt k_92 rfl rfl rfl (K _ _ M3 (eqx.u1 (by decide)) (v, p) rfl ((uF_ne (by decide)).trans hp) uF_at hpl)
  | succ k ih =>
    intro h g M hn p v hp hpl hf hfp hf2 K
    refine wp_pure k_92 rfl rfl ?_
    refine wm_iv k_92 rfl rfl M [] rfl (r := []) (Nat.le_of_ble_eq_true rfl) (Nat.le_of_ble_eq_true rfl) rfl ?_
    refine m_isLt M hn hl hp hpl (fun zisLt => ⟨rfl, ?_⟩) (fun zisLt => ⟨rfl, ?_⟩)
    · refine wp_br k_92 rfl rfl rfl rfl (fun _ => ?_) (fun z => absurd (show ¬ (nI 1 : Int32) = 0 by decide) z)
      refine wp_pure k_92 rfl rfl ?_
      refine wm_gi 23 M k_92 rfl rfl rfl rfl hp ?_
      refine wp_pure k_92 rfl rfl ?_
      refine wm_gi 49 M k_92 rfl rfl rfl rfl hf ?_
      refine wp_subN k_92 rfl (show f ≤ p by omega) ?_
      refine wp_kn k_92 rfl rfl ?_
      refine wp_br k_92 rfl rfl rfl rfl (fun z => absurd z (nI_ge (show p - f < 4 by omega) (by omega))) (fun _ => ?_)
      refine wp_pure k_92 rfl rfl ?_
      refine wp_kn k_92 rfl rfl ?_
      refine wp_ishl k_92 rfl ?_
      refine wp_pure k_92 rfl rfl ?_
      refine wm_iv k_92 rfl rfl M [] rfl (r := [.int (v <<< ((nI 8) &&& 31))]) (Nat.le_of_ble_eq_true rfl) (Nat.le_of_ble_eq_true rfl) rfl ?_
      refine m_next M hn hl hp hpl ⟨rfl, ?_⟩
      refine wp_ior k_92 rfl ?_
      refine wp_pure k_92 rfl rfl ?_
      refine wp_pure k_92 rfl rfl ?_
      refine wp_pure k_92 rfl rfl ?_
      refine wm_gi 23 M k_92 rfl rfl rfl rfl hp ?_
      refine wp_kn k_92 rfl rfl ?_
      refine wp_addN k_92 rfl ?_
      refine wm_pi 23 M k_92 rfl rfl rfl rfl rfl rfl (fun h1 M1 => ?_)
      refine wp_br k_92 rfl rfl rfl rfl (fun _ => ?_) (fun z => absurd trivial z)
      have hlt : p < len := isLt_lt zisLt
      rw [show (nI 8 &&& 31 : Int32) = 8 by decide]
      refine ih M1 ((uF_ne (by decide)).trans hn) (uF_at : (uF g 23 (nI (p + 1))) 23 = nI (p + 1)) hlt ((uF_ne (by decide)).trans hf) (by omega) (by omega) (fun h9 g9 M9 e9 r9 hr9 a9 b9 c9 => K h9 g9 M9 ((eqx.u1 (S := [23, 48]) (by decide)).trans e9 (by decide)) r9 ?_ a9 b9 c9)
      rw [← hr9]
      exact if_pos (Or.inl zisLt)
    · refine wp_br k_92 rfl rfl rfl rfl (fun z => absurd z (show ¬ (¬ (nI 0 : Int32) = 0) by decide)) (fun _ => ?_)
      refine wp_pure k_92 rfl rfl ?_
      refine wm_iv k_92 rfl rfl M [] rfl (r := []) (Nat.le_of_ble_eq_true rfl) (Nat.le_of_ble_eq_true rfl) rfl ?_
      refine m_isDg M hn hl hp hpl (fun zisDg => ⟨rfl, ?_⟩) (fun zisDg => ⟨rfl, ?_⟩)
      · refine wp_br k_92 rfl rfl rfl rfl (fun z => absurd z (show ¬ ((nI 1 : Int32) = 0) by decide)) (fun _ => ?_)
        refine wp_pure k_92 rfl rfl ?_
        refine wm_gi 23 M k_92 rfl rfl rfl rfl hp ?_
        refine wp_pure k_92 rfl rfl ?_
        refine wm_gi 49 M k_92 rfl rfl rfl rfl hf ?_
        refine wp_subN k_92 rfl (show f ≤ p by omega) ?_
        refine wp_kn k_92 rfl rfl ?_
        refine wp_br k_92 rfl rfl rfl rfl (fun z => absurd z (nI_ge (show p - f < 4 by omega) (by omega))) (fun _ => ?_)
        refine wp_pure k_92 rfl rfl ?_
        refine wp_kn k_92 rfl rfl ?_
        refine wp_ishl k_92 rfl ?_
        refine wp_pure k_92 rfl rfl ?_
        refine wm_iv k_92 rfl rfl M [] rfl (r := [.int (v <<< ((nI 8) &&& 31))]) (Nat.le_of_ble_eq_true rfl) (Nat.le_of_ble_eq_true rfl) rfl ?_
        refine m_next M hn hl hp hpl ⟨rfl, ?_⟩
        refine wp_ior k_92 rfl ?_
        refine wp_pure k_92 rfl rfl ?_
        refine wp_pure k_92 rfl rfl ?_
        refine wp_pure k_92 rfl rfl ?_
        refine wm_gi 23 M k_92 rfl rfl rfl rfl hp ?_
        refine wp_kn k_92 rfl rfl ?_
        refine wp_addN k_92 rfl ?_
        refine wm_pi 23 M k_92 rfl rfl rfl rfl rfl rfl (fun h2 M2 => ?_)
        refine wp_br k_92 rfl rfl rfl rfl (fun _ => ?_) (fun z => absurd trivial z)
        have hlt : p < len := isDg_lt zisDg
        rw [show (nI 8 &&& 31 : Int32) = 8 by decide]
        refine ih M2 ((uF_ne (by decide)).trans hn) (uF_at : (uF g 23 (nI (p + 1))) 23 = nI (p + 1)) hlt ((uF_ne (by decide)).trans hf) (by omega) (by omega) (fun h9 g9 M9 e9 r9 hr9 a9 b9 c9 => K h9 g9 M9 ((eqx.u1 (S := [23, 48]) (by decide)).trans e9 (by decide)) r9 ?_ a9 b9 c9)
        rw [← hr9]
        exact if_pos (Or.inr zisDg)
      · refine wp_br k_92 rfl rfl rfl rfl (fun _ => ?_) (fun z => absurd (show (nI 0 : Int32) = 0 by decide) z)
        refine wp_pure k_92 rfl rfl ?_
        refine wp_pure k_92 rfl rfl ?_
        refine wm_pi 48 M k_92 rfl rfl rfl rfl rfl rfl (fun h3 M3 => ?_)
        refine wp_kn k_92 rfl rfl ?_
        exact wp_irt k_92 rfl rfl rfl (K _ _ M3 (eqx.u1 (by decide)) (v, p) (if_neg (fun q => q.elim zisLt zisDg)) ((uF_ne (by decide)).trans hp) uF_at hpl)
