/-! the reference's read, what follows its lines -/
def KPI (ar0 ar1 : Nat → Nat → Int32) (ps : List Pl) (e i : Nat) : Prop := (∀ k, kpX k → ar1 k = ar0 k) ∧ (∀ k, 5 ≤ k → k ≤ 13 → ∀ j, j < 60 * e → ar1 k j = ar0 k j) ∧ ∀ k P, k < i → ps[k]? = some P → kpP ar0 ar1 (60 * e + k) k P.2.length
theorem m_rdK {h0 h : sm_H} {m : Nat} {g : Nat → Int32} {ar : Nat → Nat → Int32} {Q : Nat → Option Value → sm_H → Prop} (M : MS h0 h m g ar) {ps : List Pl} {e : Nat} (h26 : g 26 = nI ps.length) (h3 : g 3 = nI e) (hR : RT ar ps) (hp6 : ps.length ≤ 60) (he : e ≤ 7) {a : Int32} (K : ∀ h' ar', MS h0 h' m g ar' → KPI ar ar' ps e ps.length → sm_wp 84 166 [.ref m, .int a, .int (nI ps.length)] [] h' Q) : sm_wp 84 138 [.ref m, .int a, .int (nI 0)] [] h Q := by
  refine dn (n := ps.length) (P := fun i => ∀ h1 ar1, MS h0 h1 m g ar1 → KPI ar ar1 ps e i → sm_wp 84 138 [.ref m, .int a, .int (nI i)] [] h1 Q) ?_ ?_ 0 (Nat.zero_le _) h ar M ⟨fun _ _ => rfl, fun _ _ _ _ _ => rfl, fun k P hk => absurd hk (Nat.not_lt_zero k)⟩
  · intro h1 ar1 N hI
    refine wp_pure k_84 rfl rfl ?_
    refine wp_pure k_84 rfl rfl ?_
    refine wm_gi 26 N k_84 rfl rfl rfl rfl h26 ?_
    refine wp_br k_84 rfl rfl rfl rfl (fun _ => ?_) (fun z => absurd (Int32.le_refl _) z)
    exact K _ _ N hI
  · intro i hi ih h1 ar1 N hI
    obtain ⟨P, hP⟩ : ∃ P, ps[i]? = some P := ⟨_, List.getElem?_eq_getElem hi⟩
    refine wp_pure k_84 rfl rfl ?_
    refine wp_pure k_84 rfl rfl ?_
    refine wm_gi 26 N k_84 rfl rfl rfl rfl h26 ?_
    refine wp_br k_84 rfl rfl rfl rfl (fun z => absurd z (nI_ge hi (by omega))) (fun _ => ?_)
    refine wp_pure k_84 rfl rfl ?_
    refine wp_kn k_84 rfl rfl ?_
    refine wp_pure k_84 rfl rfl ?_
    refine wm_gi 3 N k_84 rfl rfl rfl rfl h3 ?_
    refine wp_mulN k_84 rfl ?_
    refine wp_pure k_84 rfl rfl ?_
    refine wp_addN k_84 rfl ?_
    refine wp_pure k_84 rfl rfl ?_
    refine wm_iv k_84 rfl rfl N [.int (nI ((60 * e) + i)), .int (nI i)] rfl (r := []) (Nat.le_of_ble_eq_true rfl) (Nat.le_of_ble_eq_true rfl) rfl ?_
    refine m_keep N (T := 60 * e + i) (kk := i) (by omega) (by omega) (hR i P hP).2.2.1 (by rw [hI.1 34 (by unfold kpX; omega)]; exact (hR i P hP).2.1) (fun h21 ar21 M21 q1 q2 q3 q4 q5 => ⟨rfl, ?_⟩)
    refine wp_inc k_84 rfl rfl rfl ?_
    refine wp_br k_84 rfl rfl rfl rfl (fun _ => ?_) (fun z => absurd trivial z)
    refine ih _ _ M21 ⟨fun k hk => (q1 k hk).trans (hI.1 k hk), fun k h1 h2 j hj => (q2 k h1 h2 j (by omega)).trans (hI.2.1 k h1 h2 j hj), fun k P' hk hP' => ?_⟩
    by_cases ek : k = i
    · subst ek
      rw [hP] at hP'
      cases hP'
      have e0 : ∀ k, kpX k → ar1 k = ar k := hI.1
      obtain ⟨c1, c2, c3, c4, c5, c6, c7, c8, c9, c10, c11⟩ := q5
      rw [e0 36 (by unfold kpX; omega)] at c1
      rw [e0 37 (by unfold kpX; omega)] at c2
      rw [e0 38 (by unfold kpX; omega)] at c3
      rw [e0 39 (by unfold kpX; omega)] at c4
      rw [e0 40 (by unfold kpX; omega)] at c5
      rw [e0 41 (by unfold kpX; omega)] at c6
      rw [e0 42 (by unfold kpX; omega)] at c7
      rw [e0 43 (by unfold kpX; omega)] at c8
      rw [e0 35 (by unfold kpX; omega)] at c11
      exact ⟨c1, c2, c3, c4, c5, c6, c7, c8, c9, c10, c11⟩
    · have hk' : k < i := by omega
      obtain ⟨c1, c2, c3, c4, c5, c6, c7, c8, c9, c10, c11⟩ := hI.2.2 k P' hk' hP'
      have h4 := (hR k P' hP').2.2.1
      exact ⟨(q2 5 (by omega) (by omega) _ (by omega)).trans c1, (q2 6 (by omega) (by omega) _ (by omega)).trans c2, (q2 7 (by omega) (by omega) _ (by omega)).trans c3, (q2 8 (by omega) (by omega) _ (by omega)).trans c4, (q2 9 (by omega) (by omega) _ (by omega)).trans c5, (q2 10 (by omega) (by omega) _ (by omega)).trans c6, (q2 11 (by omega) (by omega) _ (by omega)).trans c7, (q2 12 (by omega) (by omega) _ (by omega)).trans c8, (q2 13 (by omega) (by omega) _ (by omega)).trans c9, (q3 k ek).trans c10, fun s hs => (q4 _ (by omega)).trans (c11 s hs)⟩
theorem m_rdW {h0 h : sm_H} {m : Nat} {g : Nat → Int32} {ar : Nat → Nat → Int32} {Q : Nat → Option Value → sm_H → Prop} (M : MS h0 h m g ar) {ws : List (Nat × Nat × Bool)} (h14 : g 14 = nI ws.length) (hW : RWs ar ws) (hw6 : ws.length ≤ 60) {a : Int32} (K : ∀ h' ar', MS h0 h' m g ar' → (∀ k, k < 15 ∨ 17 < k → ar' k = ar k) → (∀ i a b t, ws[i]? = some (a, b, t) → ar' 15 i = nI a ∧ ar' 16 i = nI b ∧ ar' 17 i = nI t.toNat) → sm_wp 84 226 [.ref m, .int a, .int (nI ws.length)] [] h' Q) : sm_wp 84 176 [.ref m, .int a, .int (nI 0)] [] h Q := by
  refine dn (n := ws.length) (P := fun i => ∀ h1 ar1, MS h0 h1 m g ar1 → (∀ k, k < 15 ∨ 17 < k → ar1 k = ar k) → (∀ j a b t, j < i → ws[j]? = some (a, b, t) → ar1 15 j = nI a ∧ ar1 16 j = nI b ∧ ar1 17 j = nI t.toNat) → sm_wp 84 176 [.ref m, .int a, .int (nI i)] [] h1 Q) ?_ ?_ 0 (Nat.zero_le _) h ar M (fun _ _ => rfl) (fun j a b t hj => absurd hj (Nat.not_lt_zero j))
  · intro h1 ar1 N fA fB
    refine wp_pure k_84 rfl rfl ?_
    refine wp_pure k_84 rfl rfl ?_
    refine wm_gi 14 N k_84 rfl rfl rfl rfl h14 ?_
    refine wp_br k_84 rfl rfl rfl rfl (fun _ => ?_) (fun z => absurd (Int32.le_refl _) z)
    exact K _ _ N fA (fun j a b t hj => fB j a b t (List.getElem?_eq_some_iff.mp hj).1 hj)
  · intro i hi ih h1 ar1 N fA fB
    obtain ⟨⟨u, v, t⟩, hP⟩ : ∃ P, ws[i]? = some P := ⟨_, List.getElem?_eq_getElem hi⟩
    have hx := hW i u v t (by omega) hP
    refine wp_pure k_84 rfl rfl ?_
    refine wp_pure k_84 rfl rfl ?_
    refine wm_gi 14 N k_84 rfl rfl rfl rfl h14 ?_
    refine wp_br k_84 rfl rfl rfl rfl (fun z => absurd z (nI_ge hi (by omega))) (fun _ => ?_)
    refine wp_pure k_84 rfl rfl ?_
    refine wm_ga 15 N k_84 rfl rfl rfl (by decide) ?_
    refine wp_pure k_84 rfl rfl ?_
    refine wp_pure k_84 rfl rfl ?_
    refine wm_ga 28 N k_84 rfl rfl rfl (by decide) ?_
    refine wp_pure k_84 rfl rfl ?_
    refine wm_al 28 N k_84 rfl rfl (by decide) rfl (show i < 60 by omega) (v := nI u) (by rw [fA 28 (by omega)]; exact hx.1) ?_
    refine wm_as 15 N k_84 rfl rfl (by decide) rfl (show i < 60 by omega) (fun h1 M1 => ?_)
    refine wp_pure k_84 rfl rfl ?_
    refine wm_ga 16 M1 k_84 rfl rfl rfl (by decide) ?_
    refine wp_pure k_84 rfl rfl ?_
    refine wp_pure k_84 rfl rfl ?_
    refine wm_ga 29 M1 k_84 rfl rfl rfl (by decide) ?_
    refine wp_pure k_84 rfl rfl ?_
    refine wm_al 29 M1 k_84 rfl rfl (by decide) rfl (show i < 60 by omega) (v := nI v) (by rw [uA_ne (by decide), fA 29 (by omega)]; exact hx.2.1) ?_
    refine wm_as 16 M1 k_84 rfl rfl (by decide) rfl (show i < 60 by omega) (fun h2 M2 => ?_)
    refine wp_pure k_84 rfl rfl ?_
    refine wm_ga 17 M2 k_84 rfl rfl rfl (by decide) ?_
    refine wp_pure k_84 rfl rfl ?_
    refine wp_pure k_84 rfl rfl ?_
    refine wm_ga 30 M2 k_84 rfl rfl rfl (by decide) ?_
    refine wp_pure k_84 rfl rfl ?_
    refine wm_bl 30 M2 k_84 rfl rfl (by decide) rfl (show i < 60 by omega) (v := nI t.toNat) (by rw [uA_ne (by decide), uA_ne (by decide), fA 30 (by omega)]; exact hx.2.2) ?_
    refine wm_bs 17 M2 k_84 rfl rfl (by decide) rfl (show i < 60 by omega) (by cases t <;> rfl) (fun h3 M3 => ?_)
    refine wp_inc k_84 rfl rfl rfl ?_
    refine wp_br k_84 rfl rfl rfl rfl (fun _ => ?_) (fun z => absurd trivial z)
    refine ih _ _ M3 (fun k hk => ?_) (fun j a b t' hj hw => ?_)
    · rw [uA_ne (by omega), uA_ne (by omega), uA_ne (by omega)]; exact fA k hk
    · by_cases ej : j = i
      · subst ej
        rw [hP] at hw
        cases hw
        exact ⟨by rw [uA_ne (by decide), uA_ne (by decide), uA_at], by rw [uA_ne (by decide), uA_at], uA_at⟩
      · rw [uA_i ej, uA_i ej, uA_i ej, uA_i ej, uA_i ej, uA_i ej, uA_i ej, uA_i ej, uA_i ej]
        exact fB j a b t' (by omega) hw
theorem m_rdV {h0 h : sm_H} {m : Nat} {g : Nat → Int32} {ar : Nat → Nat → Int32} {Q : Nat → Option Value → sm_H → Prop} (M : MS h0 h m g ar) {vs : List (Nat × Nat)} (h18 : g 18 = nI vs.length) (hW : RVs ar vs) (hw6 : vs.length ≤ 60) {a : Int32} (K : ∀ h' ar', MS h0 h' m g ar' → (∀ k, k < 19 ∨ 20 < k → ar' k = ar k) → (∀ i a b, vs[i]? = some (a, b) → ar' 19 i = nI a ∧ ar' 20 i = nI b) → sm_wp 84 274 [.ref m, .int a, .int (nI vs.length)] [] h' Q) : sm_wp 84 236 [.ref m, .int a, .int (nI 0)] [] h Q := by
  refine dn (n := vs.length) (P := fun i => ∀ h1 ar1, MS h0 h1 m g ar1 → (∀ k, k < 19 ∨ 20 < k → ar1 k = ar k) → (∀ j a b, j < i → vs[j]? = some (a, b) → ar1 19 j = nI a ∧ ar1 20 j = nI b) → sm_wp 84 236 [.ref m, .int a, .int (nI i)] [] h1 Q) ?_ ?_ 0 (Nat.zero_le _) h ar M (fun _ _ => rfl) (fun j a b hj => absurd hj (Nat.not_lt_zero j))
  · intro h1 ar1 N fA fB
    refine wp_pure k_84 rfl rfl ?_
    refine wp_pure k_84 rfl rfl ?_
    refine wm_gi 18 N k_84 rfl rfl rfl rfl h18 ?_
    refine wp_br k_84 rfl rfl rfl rfl (fun _ => ?_) (fun z => absurd (Int32.le_refl _) z)
    exact K _ _ N fA (fun j a b hj => fB j a b (List.getElem?_eq_some_iff.mp hj).1 hj)
  · intro i hi ih h1 ar1 N fA fB
    obtain ⟨⟨u, v⟩, hP⟩ : ∃ P, vs[i]? = some P := ⟨_, List.getElem?_eq_getElem hi⟩
    have hx := hW i u v (by omega) hP
    refine wp_pure k_84 rfl rfl ?_
    refine wp_pure k_84 rfl rfl ?_
    refine wm_gi 18 N k_84 rfl rfl rfl rfl h18 ?_
    refine wp_br k_84 rfl rfl rfl rfl (fun z => absurd z (nI_ge hi (by omega))) (fun _ => ?_)
    refine wp_pure k_84 rfl rfl ?_
    refine wm_ga 19 N k_84 rfl rfl rfl (by decide) ?_
    refine wp_pure k_84 rfl rfl ?_
    refine wp_pure k_84 rfl rfl ?_
    refine wm_ga 32 N k_84 rfl rfl rfl (by decide) ?_
    refine wp_pure k_84 rfl rfl ?_
    refine wm_al 32 N k_84 rfl rfl (by decide) rfl (show i < 60 by omega) (v := nI u) (by rw [fA 32 (by omega)]; exact hx.1) ?_
    refine wm_as 19 N k_84 rfl rfl (by decide) rfl (show i < 60 by omega) (fun h1 M1 => ?_)
    refine wp_pure k_84 rfl rfl ?_
    refine wm_ga 20 M1 k_84 rfl rfl rfl (by decide) ?_
    refine wp_pure k_84 rfl rfl ?_
    refine wp_pure k_84 rfl rfl ?_
    refine wm_ga 33 M1 k_84 rfl rfl rfl (by decide) ?_
    refine wp_pure k_84 rfl rfl ?_
    refine wm_al 33 M1 k_84 rfl rfl (by decide) rfl (show i < 60 by omega) (v := nI v) (by rw [uA_ne (by decide), fA 33 (by omega)]; exact hx.2) ?_
    refine wm_as 20 M1 k_84 rfl rfl (by decide) rfl (show i < 60 by omega) (fun h2 M2 => ?_)
    refine wp_inc k_84 rfl rfl rfl ?_
    refine wp_br k_84 rfl rfl rfl rfl (fun _ => ?_) (fun z => absurd trivial z)
    refine ih _ _ M2 (fun k hk => ?_) (fun j a b hj hw => ?_)
    · rw [uA_ne (by omega), uA_ne (by omega)]; exact fA k hk
    · by_cases ej : j = i
      · subst ej
        rw [hP] at hw
        cases hw
        exact ⟨by rw [uA_ne (by decide), uA_at], uA_at⟩
      · rw [uA_i ej, uA_i ej, uA_i ej, uA_i ej]
        exact fB j a b (by omega) hw
