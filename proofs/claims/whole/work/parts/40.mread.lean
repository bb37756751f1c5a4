theorem lineM_ok {tx : Nat → Int32} {len p q : Nat} {ps : List Pl} {r : LR} (h : lineM tx len ps p = .ok (r, q)) : p + 5 ≤ q ∧ q ≤ len := by
  unfold lineM at h
  split at h
  · split at h
    · cases h
    · rename_i e; cases h; have := rackM_ok e; omega
  split at h
  · split at h
    · cases h
    · rename_i e; cases h; have := binM_ok e; omega
  split at h
  · split at h
    · cases h
    · rename_i e; cases h; have := pieceM_ok e; omega
  split at h
  · unfold atL at h
    split at h
    · cases h
    · rename_i e; cases h; have := atpM_ok e; omega
  split at h
  · unfold atL at h
    split at h
    · cases h
    · rename_i e; cases h; have := atpM_ok e; omega
  split at h
  · unfold atL at h
    split at h
    · cases h
    · rename_i e; cases h; have := atpM_ok e; omega
  split at h
  · split at h
    · cases h
    · rename_i e; cases h; have := lftM_ok e; omega
  split at h
  · split at h
    · cases h
    · rename_i e; cases h; have := wayM_ok e; omega
  split at h
  · split at h
    · cases h
    · rename_i e; cases h; have := srvM_ok e; omega
  cases h
abbrev Ed : Type := List Pl × List (Nat × Nat × Bool) × List (Nat × Nat)
/-- a whole text, line by line -/
noncomputable def textM (tx : Nat → Int32) (len : Nat) : Nat → Ed → Nat → Except Nat Ed
  | 0, E, _ => .ok E
  | f + 1, E, p => if p < len then (match lineM tx len E.1 p with
    | .error q => .error q
    | .ok (r, q) => textM tx len f (addL E r) q) else .ok E
theorem addL_len {E : Ed} {r : LR} : (addL E r).1.length + (addL E r).2.1.length + (addL E r).2.2.length = E.1.length + E.2.1.length + E.2.2.length + 1 := by
  rcases r with P | w | v
  · show (E.1 ++ [P]).length + E.2.1.length + E.2.2.length = _
    rw [List.length_append]; show E.1.length + 1 + _ + _ = _; omega
  · show E.1.length + (E.2.1 ++ [w]).length + E.2.2.length = _
    rw [List.length_append]; show _ + (E.2.1.length + 1) + _ = _; omega
  · show E.1.length + E.2.1.length + (E.2.2 ++ [v]).length = _
    rw [List.length_append]; show _ + _ + (E.2.2.length + 1) = _; omega
theorem m_readL {h0 : sm_H} {m : Nat} {Q : Nat → Option Value → sm_H → Prop} {len : Nat} {tx : Nat → Int32} (hl : len ≤ 600) : ∀ (f : Nat) {h : sm_H} {g : Nat → Int32} {ar : Nat → Nat → Int32} (M : MS h0 h m g ar) (t1 : ar 1 = tx) (hn : g 2 = nI len) {p : Nat} (hp : g 23 = nI p) (hpl : p ≤ len) {E : Ed} (hE : RM g ar E) (hb : (E.1.length + E.2.1.length + E.2.2.length) * 5 ≤ p) (hf : len ≤ p + f)
    (K1 : ∀ h' g' ar' E', MS h0 h' m g' ar' → eqx gSc g g' → arF ar ar' → textM tx len f E p = .ok E' → RM g' ar' E' → (E'.1.length + E'.2.1.length + E'.2.2.length) * 5 ≤ len → sm_wp 84 50 [.ref m, .int (nI 1), jk] [] h' Q)
    (K0 : ∀ h' g' ar' q, MS h0 h' m g' ar' → eqx gSc g g' → arF ar ar' → textM tx len f E p = .error q → g' 24 = nI q → sm_wp 84 50 [.ref m, .int (nI 0), jk] [] h' Q), sm_wp 84 27 [.ref m, .int (nI 1), jk] [] h Q := by
  intro f
  induction f with
  | zero =>
    intro h g ar M t1 hn p hp hpl E hE hb hf K1 K0
    have hpe : p = len := by omega
    subst hpe
    refine wp_pure k_84 rfl rfl ?_
    refine wm_gi 23 M k_84 rfl rfl rfl rfl hp ?_
    refine wp_pure k_84 rfl rfl ?_
    refine wm_gi 2 M k_84 rfl rfl rfl rfl hn ?_
    refine wp_br k_84 rfl rfl rfl rfl (fun _ => ?_) (fun z => absurd (Int32.le_refl _) z)
    exact K1 _ _ _ E M (eqx.refl _ _) (fun _ _ _ => rfl) rfl hE hb
  | succ f ih =>
    intro h g ar M t1 hn p hp hpl E hE hb hf K1 K0
    subst t1
    refine wp_pure k_84 rfl rfl ?_
    refine wm_gi 23 M k_84 rfl rfl rfl rfl hp ?_
    refine wp_pure k_84 rfl rfl ?_
    refine wm_gi 2 M k_84 rfl rfl rfl rfl hn ?_
    refine wp_br k_84 rfl rfl rfl rfl (fun (z35 : nI len ≤ nI p) => ?_) (fun (z35 : ¬ (nI len ≤ nI p)) => ?_)
    · have y35 : len ≤ p := yLe (by omega) (by omega) z35
      have hpe : p = len := by omega
      exact K1 _ _ _ E M (eqx.refl _ _) (fun _ _ _ => rfl) (if_neg (by omega)) hE (by omega)
    · have y35 : p < len := yNLe (by omega) (by omega) z35
      refine wp_pure k_84 rfl rfl ?_
      refine wp_br k_84 rfl rfl rfl rfl (fun z => absurd z (show ¬ ((nI 1 : Int32) = 0) by decide)) (fun _ => ?_)
      refine wp_pure k_84 rfl rfl ?_
      refine wm_iv k_84 rfl rfl M [] rfl (r := []) (Nat.le_of_ble_eq_true rfl) (Nat.le_of_ble_eq_true rfl) rfl ?_
      refine m_line M hn (by omega) hp y35 hE (by omega) (by omega) (fun h1 g1 ar1 r1 q1 M1 e1 f1 z1 a1 E1 => ⟨rfl, ?_⟩) (fun h2 g2 ar2 q2 M2 e2 f2 z2 a2 => ⟨rfl, ?_⟩)
      · refine wp_pure k_84 rfl rfl ?_
        refine wp_br k_84 rfl rfl rfl rfl (fun _ => ?_) (fun z => absurd trivial z)
        have o1 := lineM_ok z1
        have o2 := @addL_len E r1
        exact ih M1 (f1 1 (by omega) (by decide)) ((e1 2 (by decide)).trans hn) a1 o1.2 E1 (by omega) (by omega) (fun hX gX arX EX MX eX fX zX RX bX => K1 hX gX arX EX MX (((eqx.refl _ _).t e1 (by decide)).t eX (fun _ q => q)) (fun k h1 h2 => (fX k h1 h2).trans (f1 k h1 h2)) (by unfold textM; rw [if_pos y35, z1]; exact zX) RX bX) (fun hX gX arX qX MX eX fX zX aX => K0 hX gX arX qX MX (((eqx.refl _ _).t e1 (by decide)).t eX (fun _ q => q)) (fun k h1 h2 => (fX k h1 h2).trans (f1 k h1 h2)) (by unfold textM; rw [if_pos y35, z1]; exact zX) aX)
      · refine wp_pure k_84 rfl rfl ?_
        refine wp_br k_84 rfl rfl rfl rfl (fun _ => ?_) (fun z => absurd trivial z)
        refine wp_pure k_84 rfl rfl ?_
        refine wm_gi 23 M2 k_84 rfl rfl rfl rfl rfl ?_
        refine wp_pure k_84 rfl rfl ?_
        refine wm_gi 2 M2 k_84 rfl rfl rfl rfl ((e2 2 (by decide)).trans hn) ?_
        refine wp_br k_84 rfl rfl rfl rfl (fun (z35 : nI len ≤ g2 23) => ?_) (fun (z35 : ¬ (nI len ≤ g2 23)) => ?_)
        · exact K0 _ _ _ _ M2 ((eqx.refl _ _).t e2 (by decide)) f2 (by unfold textM; rw [if_pos y35, z2]) a2
        · refine wp_pure k_84 rfl rfl ?_
          refine wp_br k_84 rfl rfl rfl rfl (fun _ => ?_) (fun z => absurd (show (nI 0 : Int32) = 0 by decide) z)
          exact K0 _ _ _ _ M2 ((eqx.refl _ _).t e2 (by decide)) f2 (by unfold textM; rw [if_pos y35, z2]) a2
def kpX (k : Nat) : Prop := (k < 5 ∨ 13 < k) ∧ k ≠ 21 ∧ k ≠ 22
def kpP (ar0 ar : Nat → Nat → Int32) (T kk sc : Nat) : Prop := ar 5 T = ar0 36 kk ∧ ar 6 T = ar0 37 kk ∧ ar 7 T = ar0 38 kk ∧ ar 8 T = ar0 39 kk ∧ ar 9 T = ar0 40 kk ∧ ar 10 T = ar0 41 kk ∧ ar 11 T = ar0 42 kk ∧ ar 12 T = ar0 43 kk ∧ ar 13 T = nI 0 ∧ ar 21 kk = nI sc ∧ ∀ i, i < sc → ar 22 (4 * kk + i) = ar0 35 (4 * kk + i)
theorem m_keepL {h0 h : sm_H} {m : Nat} {g : Nat → Int32} {ar : Nat → Nat → Int32} {Q : Nat → Option Value → sm_H → Prop} (M : MS h0 h m g ar) {T kk sc : Nat} (hT : T < 480) (hk : kk < 60) (hs4 : sc ≤ 4) (h21 : ar 21 kk = nI sc) (K : ∀ h' ar', MS h0 h' m g ar' → (∀ k, k ≠ 22 → ar' k = ar k) → (∀ j, j < 4 * kk ∨ 4 * kk + 4 ≤ j → ar' 22 j = ar 22 j) → (∀ i, i < sc → ar' 22 (4 * kk + i) = ar 35 (4 * kk + i)) → Q 0 none h') : sm_wp 107 117 [.ref m, .int (nI T), .int (nI kk), .int (nI 0)] [] h Q := by
  refine dn (n := sc) (P := fun i => ∀ h1 ar1, MS h0 h1 m g ar1 → (∀ k, k ≠ 22 → ar1 k = ar k) → (∀ j, j < 4 * kk ∨ 4 * kk + 4 ≤ j → ar1 22 j = ar 22 j) → (∀ i', i' < i → ar1 22 (4 * kk + i') = ar 35 (4 * kk + i')) → sm_wp 107 117 [.ref m, .int (nI T), .int (nI kk), .int (nI i)] [] h1 Q) ?_ ?_ 0 (Nat.zero_le _) h ar M (fun _ _ => rfl) (fun _ _ => rfl) (fun i hi => absurd hi (Nat.not_lt_zero i))
  · intro h1 ar1 N fA fB fC
    refine wp_pure k_107 rfl rfl ?_
    refine wp_pure k_107 rfl rfl ?_
    refine wm_ga 21 N k_107 rfl rfl rfl (by decide) ?_
    refine wp_pure k_107 rfl rfl ?_
    refine wm_al 21 N k_107 rfl rfl (by decide) rfl (show kk < 60 by omega) (v := nI sc) (by rw [fA 21 (by decide)]; exact h21) ?_
    refine wp_br k_107 rfl rfl rfl rfl (fun _ => ?_) (fun z => absurd (Int32.le_refl _) z)
    exact wp_vrt k_107 rfl rfl (K _ _ N fA fB fC)
  · intro i hi ih h1 ar1 N fA fB fC
    refine wp_pure k_107 rfl rfl ?_
    refine wp_pure k_107 rfl rfl ?_
    refine wm_ga 21 N k_107 rfl rfl rfl (by decide) ?_
    refine wp_pure k_107 rfl rfl ?_
    refine wm_al 21 N k_107 rfl rfl (by decide) rfl (show kk < 60 by omega) (v := nI sc) (by rw [fA 21 (by decide)]; exact h21) ?_
    refine wp_br k_107 rfl rfl rfl rfl (fun z => absurd z (nI_ge hi (by omega))) (fun _ => ?_)
    refine wp_pure k_107 rfl rfl ?_
    refine wm_ga 22 N k_107 rfl rfl rfl (by decide) ?_
    refine wp_kn k_107 rfl rfl ?_
    refine wp_pure k_107 rfl rfl ?_
    refine wp_mulN k_107 rfl ?_
    refine wp_pure k_107 rfl rfl ?_
    refine wp_addN k_107 rfl ?_
    refine wp_pure k_107 rfl rfl ?_
    refine wm_ga 35 N k_107 rfl rfl rfl (by decide) ?_
    refine wp_kn k_107 rfl rfl ?_
    refine wp_pure k_107 rfl rfl ?_
    refine wp_mulN k_107 rfl ?_
    refine wp_pure k_107 rfl rfl ?_
    refine wp_addN k_107 rfl ?_
    refine wm_al 35 N k_107 rfl rfl (by decide) rfl (show ((4 * kk) + i) < 2004 by omega) (v := ar 35 (4 * kk + i)) (by rw [fA 35 (by decide)]) ?_
    refine wm_as 22 N k_107 rfl rfl (by decide) rfl (show ((4 * kk) + i) < 240 by omega) (fun h1 M1 => ?_)
    refine wp_inc k_107 rfl rfl rfl ?_
    refine wp_br k_107 rfl rfl rfl rfl (fun _ => ?_) (fun z => absurd trivial z)
    refine ih _ _ M1 (fun k hk => (uA_ne hk).trans (fA k hk)) (fun j hj => (uA_nn (by omega)).trans (fB j hj)) (fun i' hi' => ?_)
    by_cases e : i' = i
    · rw [e]; exact uA_at
    · exact (uA_nn (by omega)).trans (fC i' (by omega))
theorem m_keep {h0 h : sm_H} {m : Nat} {g : Nat → Int32} {ar : Nat → Nat → Int32} {Q : Nat → Option Value → sm_H → Prop} (M : MS h0 h m g ar) {T kk sc : Nat} (hT : T < 480) (hk : kk < 60) (hs4 : sc ≤ 4) (h34 : ar 34 kk = nI sc) (K : ∀ h' ar', MS h0 h' m g ar' → (∀ k, kpX k → ar' k = ar k) → (∀ k, 5 ≤ k → k ≤ 13 → ∀ i, i ≠ T → ar' k i = ar k i) → (∀ i, i ≠ kk → ar' 21 i = ar 21 i) → (∀ j, j < 4 * kk ∨ 4 * kk + 4 ≤ j → ar' 22 j = ar 22 j) → kpP ar ar' T kk sc → Q 0 none h') : sm_wp 107 0 [.ref m, .int (nI T), .int (nI kk), jk] [] h Q := by
  refine wp_pure k_107 rfl rfl ?_
  refine wm_ga 5 M k_107 rfl rfl rfl (by decide) ?_
  refine wp_pure k_107 rfl rfl ?_
  refine wp_pure k_107 rfl rfl ?_
  refine wm_ga 36 M k_107 rfl rfl rfl (by decide) ?_
  refine wp_pure k_107 rfl rfl ?_
  refine wm_al 36 M k_107 rfl rfl (by decide) rfl (show kk < 501 by omega) (v := ar 36 kk) (by rfl) ?_
  refine wm_as 5 M k_107 rfl rfl (by decide) rfl (show T < 480 by omega) (fun h1 M1 => ?_)
  refine wp_pure k_107 rfl rfl ?_
  refine wm_ga 6 M1 k_107 rfl rfl rfl (by decide) ?_
  refine wp_pure k_107 rfl rfl ?_
  refine wp_pure k_107 rfl rfl ?_
  refine wm_ga 37 M1 k_107 rfl rfl rfl (by decide) ?_
  refine wp_pure k_107 rfl rfl ?_
  refine wm_al 37 M1 k_107 rfl rfl (by decide) rfl (show kk < 501 by omega) (v := ar 37 kk) (by rw [uA_ne (by decide)]) ?_
  refine wm_as 6 M1 k_107 rfl rfl (by decide) rfl (show T < 480 by omega) (fun h2 M2 => ?_)
  refine wp_pure k_107 rfl rfl ?_
  refine wm_ga 7 M2 k_107 rfl rfl rfl (by decide) ?_
  refine wp_pure k_107 rfl rfl ?_
  refine wp_pure k_107 rfl rfl ?_
  refine wm_ga 38 M2 k_107 rfl rfl rfl (by decide) ?_
  refine wp_pure k_107 rfl rfl ?_
  refine wm_al 38 M2 k_107 rfl rfl (by decide) rfl (show kk < 501 by omega) (v := ar 38 kk) (by rw [uA_ne (by decide), uA_ne (by decide)]) ?_
  refine wm_as 7 M2 k_107 rfl rfl (by decide) rfl (show T < 480 by omega) (fun h3 M3 => ?_)
  refine wp_pure k_107 rfl rfl ?_
  refine wm_ga 8 M3 k_107 rfl rfl rfl (by decide) ?_
  refine wp_pure k_107 rfl rfl ?_
  refine wp_pure k_107 rfl rfl ?_
  refine wm_ga 39 M3 k_107 rfl rfl rfl (by decide) ?_
  refine wp_pure k_107 rfl rfl ?_
  refine wm_al 39 M3 k_107 rfl rfl (by decide) rfl (show kk < 501 by omega) (v := ar 39 kk) (by rw [uA_ne (by decide), uA_ne (by decide), uA_ne (by decide)]) ?_
  refine wm_as 8 M3 k_107 rfl rfl (by decide) rfl (show T < 480 by omega) (fun h4 M4 => ?_)
  refine wp_pure k_107 rfl rfl ?_
  refine wm_ga 9 M4 k_107 rfl rfl rfl (by decide) ?_
  refine wp_pure k_107 rfl rfl ?_
  refine wp_pure k_107 rfl rfl ?_
  refine wm_ga 40 M4 k_107 rfl rfl rfl (by decide) ?_
  refine wp_pure k_107 rfl rfl ?_
  refine wm_al 40 M4 k_107 rfl rfl (by decide) rfl (show kk < 501 by omega) (v := ar 40 kk) (by rw [uA_ne (by decide), uA_ne (by decide), uA_ne (by decide), uA_ne (by decide)]) ?_
  refine wm_as 9 M4 k_107 rfl rfl (by decide) rfl (show T < 480 by omega) (fun h5 M5 => ?_)
  refine wp_pure k_107 rfl rfl ?_
  refine wm_ga 10 M5 k_107 rfl rfl rfl (by decide) ?_
  refine wp_pure k_107 rfl rfl ?_
  refine wp_pure k_107 rfl rfl ?_
  refine wm_ga 41 M5 k_107 rfl rfl rfl (by decide) ?_
  refine wp_pure k_107 rfl rfl ?_
  refine wm_al 41 M5 k_107 rfl rfl (by decide) rfl (show kk < 501 by omega) (v := ar 41 kk) (by rw [uA_ne (by decide), uA_ne (by decide), uA_ne (by decide), uA_ne (by decide), uA_ne (by decide)]) ?_
  refine wm_as 10 M5 k_107 rfl rfl (by decide) rfl (show T < 480 by omega) (fun h6 M6 => ?_)
  refine wp_pure k_107 rfl rfl ?_
  refine wm_ga 11 M6 k_107 rfl rfl rfl (by decide) ?_
  refine wp_pure k_107 rfl rfl ?_
  refine wp_pure k_107 rfl rfl ?_
  refine wm_ga 42 M6 k_107 rfl rfl rfl (by decide) ?_
  refine wp_pure k_107 rfl rfl ?_
  refine wm_al 42 M6 k_107 rfl rfl (by decide) rfl (show kk < 501 by omega) (v := ar 42 kk) (by rw [uA_ne (by decide), uA_ne (by decide), uA_ne (by decide), uA_ne (by decide), uA_ne (by decide), uA_ne (by decide)]) ?_
  refine wm_as 11 M6 k_107 rfl rfl (by decide) rfl (show T < 480 by omega) (fun h7 M7 => ?_)
  refine wp_pure k_107 rfl rfl ?_
  refine wm_ga 12 M7 k_107 rfl rfl rfl (by decide) ?_
  refine wp_pure k_107 rfl rfl ?_
  refine wp_pure k_107 rfl rfl ?_
  refine wm_ga 43 M7 k_107 rfl rfl rfl (by decide) ?_
  refine wp_pure k_107 rfl rfl ?_
  refine wm_al 43 M7 k_107 rfl rfl (by decide) rfl (show kk < 501 by omega) (v := ar 43 kk) (by rw [uA_ne (by decide), uA_ne (by decide), uA_ne (by decide), uA_ne (by decide), uA_ne (by decide), uA_ne (by decide), uA_ne (by decide)]) ?_
  refine wm_as 12 M7 k_107 rfl rfl (by decide) rfl (show T < 480 by omega) (fun h8 M8 => ?_)
  refine wp_pure k_107 rfl rfl ?_
  refine wm_ga 13 M8 k_107 rfl rfl rfl (by decide) ?_
  refine wp_pure k_107 rfl rfl ?_
  refine wp_kn k_107 rfl rfl ?_
  refine wm_as 13 M8 k_107 rfl rfl (by decide) rfl (show T < 480 by omega) (fun h9 M9 => ?_)
  refine wp_pure k_107 rfl rfl ?_
  refine wm_ga 21 M9 k_107 rfl rfl rfl (by decide) ?_
  refine wp_pure k_107 rfl rfl ?_
  refine wp_pure k_107 rfl rfl ?_
  refine wm_ga 34 M9 k_107 rfl rfl rfl (by decide) ?_
  refine wp_pure k_107 rfl rfl ?_
  refine wm_al 34 M9 k_107 rfl rfl (by decide) rfl (show kk < 501 by omega) (v := nI sc) (by rw [uA_ne (by decide), uA_ne (by decide), uA_ne (by decide), uA_ne (by decide), uA_ne (by decide), uA_ne (by decide), uA_ne (by decide), uA_ne (by decide), uA_ne (by decide)]; exact h34) ?_
  refine wm_as 21 M9 k_107 rfl rfl (by decide) rfl (show kk < 60 by omega) (fun h10 M10 => ?_)
  refine wp_kn k_107 rfl rfl ?_
  refine wp_pure k_107 rfl rfl ?_
  refine m_keepL M10 hT hk hs4 uA_at (fun hX arX MX fA fB fC => K hX arX MX (fun k hk2 => ?_) (fun k h1 h2 i hi => ?_) (fun i hi => ?_) (fun j hj => ?_) ⟨by rw [fA 5 (by decide), uA_ne (by decide), uA_ne (by decide), uA_ne (by decide), uA_ne (by decide), uA_ne (by decide), uA_ne (by decide), uA_ne (by decide), uA_ne (by decide), uA_ne (by decide), uA_at], by rw [fA 6 (by decide), uA_ne (by decide), uA_ne (by decide), uA_ne (by decide), uA_ne (by decide), uA_ne (by decide), uA_ne (by decide), uA_ne (by decide), uA_ne (by decide), uA_at], by rw [fA 7 (by decide), uA_ne (by decide), uA_ne (by decide), uA_ne (by decide), uA_ne (by decide), uA_ne (by decide), uA_ne (by decide), uA_ne (by decide), uA_at], by rw [fA 8 (by decide), uA_ne (by decide), uA_ne (by decide), uA_ne (by decide), uA_ne (by decide), uA_ne (by decide), uA_ne (by decide), uA_at], by rw [fA 9 (by decide), uA_ne (by decide), uA_ne (by decide), uA_ne (by decide), uA_ne (by decide), uA_ne (by decide), uA_at], by rw [fA 10 (by decide), uA_ne (by decide), uA_ne (by decide), uA_ne (by decide), uA_ne (by decide), uA_at], by rw [fA 11 (by decide), uA_ne (by decide), uA_ne (by decide), uA_ne (by decide), uA_at], by rw [fA 12 (by decide), uA_ne (by decide), uA_ne (by decide), uA_at], by rw [fA 13 (by decide), uA_ne (by decide), uA_at], by rw [fA 21 (by decide)]; exact uA_at, fun i hi => ?_⟩)
  · obtain ⟨a1, a2, a3⟩ := hk2
    rw [fA k a3, uA_ne (by omega), uA_ne (by omega), uA_ne (by omega), uA_ne (by omega), uA_ne (by omega), uA_ne (by omega), uA_ne (by omega), uA_ne (by omega), uA_ne (by omega), uA_ne (by omega)]
  · rw [fA k (by omega), uA_ne (by omega), uA_i hi, uA_i hi, uA_i hi, uA_i hi, uA_i hi, uA_i hi, uA_i hi, uA_i hi, uA_i hi]
  · rw [fA 21 (by decide), uA_nn hi, uA_ne (by decide), uA_ne (by decide), uA_ne (by decide), uA_ne (by decide), uA_ne (by decide), uA_ne (by decide), uA_ne (by decide), uA_ne (by decide), uA_ne (by decide)]
  · rw [fB j hj, uA_ne (by decide), uA_ne (by decide), uA_ne (by decide), uA_ne (by decide), uA_ne (by decide), uA_ne (by decide), uA_ne (by decide), uA_ne (by decide), uA_ne (by decide), uA_ne (by decide)]
  · rw [fC i hi, uA_ne (by decide), uA_ne (by decide), uA_ne (by decide), uA_ne (by decide), uA_ne (by decide), uA_ne (by decide), uA_ne (by decide), uA_ne (by decide), uA_ne (by decide), uA_ne (by decide)]
