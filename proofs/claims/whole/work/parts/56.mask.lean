/-! the reference's questions to its table, and its faults -/
theorem EdW.of1 {E : Ed} (h : EdW E) {k : Nat} (hk : k < E.1.length) (q : atP E.1 1 k = nI 1) : ∃ r, atP E.1 7 k = nI r ∧ r < E.1.length ∧ atP E.1 1 r = nI 0 := by
  obtain ⟨kd, x, y, w, hh, lv, a1, a2, a3, a4, a5, a6, a7, a8, a9, b1, b2, b3, b4, b5, b6, b7, b8⟩ := h.pl hk
  exact b7 (nI6 a1 (by omega) (a3.symm.trans q))
theorem EdW.of3 {E : Ed} (h : EdW E) {k : Nat} (hk : k < E.1.length) (q : atP E.1 1 k = nI 3 ∨ atP E.1 1 k = nI 4 ∨ atP E.1 1 k = nI 5) : ∃ r, atP E.1 7 k = nI r ∧ r < E.1.length ∧ atP E.1 1 r = nI 2 := by
  obtain ⟨kd, x, y, w, hh, lv, a1, a2, a3, a4, a5, a6, a7, a8, a9, b1, b2, b3, b4, b5, b6, b7, b8, b9⟩ := h.pl hk
  have : 3 ≤ kd := by
    rcases q with q | q | q
    · have := nI6 a1 (by omega) (a3.symm.trans q); omega
    · have := nI6 a1 (by omega) (a3.symm.trans q); omega
    · have := nI6 a1 (by omega) (a3.symm.trans q); omega
  obtain ⟨_, _, _, r, c1, c2, c3, _⟩ := b8 this
  exact ⟨r, c1, c2, c3⟩
theorem EdW.st6 {E : Ed} (h : EdW E) {k : Nat} (hk : k < E.1.length) {i : Nat} (hi : i < (stP E.1 k).length) : atP E.1 1 k = nI 6 ∧ (stP E.1 k).getD i 0 < E.1.length := by
  have h6 : atP E.1 1 k = nI 6 := by
    apply Classical.byContradiction
    intro q
    rw [h.st0 hk q] at hi
    exact absurd hi (Nat.not_lt_zero _)
  obtain ⟨kd, x, y, w, hh, lv, a1, a2, a3, a4, a5, a6, a7, a8, a9, b1, b2, b3, b4, b5, b6, b7, b8, b9⟩ := h.pl hk
  exact ⟨h6, ((b9 (nI6 a1 (by omega) (a3.symm.trans h6))).2.2.2 _ (s_mem hi)).1⟩
theorem m_isReached {h0 h : sm_H} {m : Nat} {g : Nat → Int32} {ar : Nat → Nat → Int32} {Q : Nat → Option Value → sm_H → Prop} {E : Ed} {e : Nat} (M : MS h0 h m g ar) (V : MV g ar E e) (hW : EdW E) (F : FarE E (fun a b => ar 62 (60 * a + b))) {p : Nat} (hp : p < E.1.length) (K1 : rchE E p → Q 0 (some (.int (nI 1))) h) (K0 : ¬ rchE E p → Q 0 (some (.int (nI 0))) h) : sm_wp 124 0 [.ref m, .int (nI p), jk] [] h Q := by
  have he := V.he
  have hn := V.hn
  have hl := V.hl
  refine wp_kn k_124 rfl rfl ?_
  refine wp_pure k_124 rfl rfl ?_
  refine dn (n := E.1.length) (P := fun i => (∀ j, j < i → ¬ (atP E.1 1 j = nI 3 ∧ ∃ r l, atP E.1 7 j = nI r ∧ r < E.1.length ∧ Wk (egE E) l r p)) → sm_wp 124 2 [.ref m, .int (nI p), .int (nI i)] [] h Q) ?_ ?_ 0 (Nat.zero_le _) (fun j hj => absurd hj (Nat.not_lt_zero j))
  · intro hI
    refine wp_pure k_124 rfl rfl ?_
    refine wp_pure k_124 rfl rfl ?_
    refine wm_iv k_124 rfl rfl M [] rfl (r := [.int (nI (E.1.length))]) (Nat.le_of_ble_eq_true rfl) (Nat.le_of_ble_eq_true rfl) rfl ?_
    refine wp_pure k_109 rfl rfl ?_
    refine wm_ga 4 M k_109 rfl rfl rfl (by decide) ?_
    refine wp_pure k_109 rfl rfl ?_
    refine wm_gi 3 M k_109 rfl rfl rfl rfl V.h3 ?_
    refine wm_al 4 M k_109 rfl rfl (by decide) rfl (show e < 8 by omega) (v := nI E.1.length) V.n4 ?_
    refine wp_irt k_109 rfl rfl rfl ⟨rfl, ?_⟩
    refine wp_br k_124 rfl rfl rfl rfl (fun _ => ?_) (fun z => absurd (Int32.le_refl _) z)
    refine wp_kn k_124 rfl rfl ?_
    exact wp_irt k_124 rfl rfl rfl (K0 (fun ⟨d, l, ⟨k, a, b, c, dd⟩, w⟩ => hI k a ⟨b, d, l, c, dd, w⟩))
  · intro i hi ih hI
    refine wp_pure k_124 rfl rfl ?_
    refine wp_pure k_124 rfl rfl ?_
    refine wm_iv k_124 rfl rfl M [] rfl (r := [.int (nI i)]) (Nat.le_of_ble_eq_true rfl) (Nat.le_of_ble_eq_true rfl) rfl ?_
    refine wp_pure k_109 rfl rfl ?_
    refine wm_ga 4 M k_109 rfl rfl rfl (by decide) ?_
    refine wp_pure k_109 rfl rfl ?_
    refine wm_gi 3 M k_109 rfl rfl rfl rfl V.h3 ?_
    refine wm_al 4 M k_109 rfl rfl (by decide) rfl (show e < 8 by omega) (v := nI E.1.length) V.n4 ?_
    refine wp_irt k_109 rfl rfl rfl ⟨rfl, ?_⟩
    refine wp_br k_124 rfl rfl rfl rfl (fun z => absurd z (nI_ge hi (by omega))) (fun _ => ?_)
    refine wp_pure k_124 rfl rfl ?_
    refine wp_pure k_124 rfl rfl ?_
    refine wm_iv k_124 rfl rfl M [.int (nI i)] rfl (r := []) (Nat.le_of_ble_eq_true rfl) (Nat.le_of_ble_eq_true rfl) rfl ?_
    refine wp_pure k_112 rfl rfl ?_
    refine wm_ga 5 M k_112 rfl rfl rfl (by decide) ?_
    refine wp_pure k_112 rfl rfl ?_
    refine wm_iv k_112 rfl rfl M [] rfl (r := [.ref (m + mo 5)]) (Nat.le_of_ble_eq_true rfl) (Nat.le_of_ble_eq_true rfl) rfl ?_
    refine wp_kn k_110 rfl rfl ?_
    refine wp_pure k_110 rfl rfl ?_
    refine wm_gi 3 M k_110 rfl rfl rfl rfl V.h3 ?_
    refine wp_mulN k_110 rfl ?_
    refine wp_irt k_110 rfl rfl rfl ⟨rfl, ?_⟩
    refine wp_pure k_112 rfl rfl ?_
    refine wp_addN k_112 rfl ?_
    refine wm_al 5 M k_112 rfl rfl (by decide) rfl (show (60 * e) + i < 480 by omega) (v := atP E.1 1 i) (V.p5 i (by omega)) ?_
    refine wp_irt k_112 rfl rfl rfl ⟨rfl, ?_⟩
    refine wp_kn k_124 rfl rfl ?_
    refine wp_br k_124 rfl rfl rfl rfl (fun (z16 : ¬ atP E.1 1 i = nI 3) => ?_) (fun (z16 : ¬ (¬ atP E.1 1 i = nI 3)) => ?_)
    · refine wp_inc k_124 rfl rfl rfl ?_
      refine wp_br k_124 rfl rfl rfl rfl (fun _ => ?_) (fun z => absurd trivial z)
      exact ih (fun j hj => by
        by_cases q : j = i
        · rw [q]; exact fun w => z16 w.1
        · exact hI j (by omega))
    · have k3 := Classical.not_not.mp z16
      obtain ⟨r, hr, hrl, _⟩ := hW.of3 hi (Or.inl k3)
      refine wp_pure k_124 rfl rfl ?_
      refine wm_ga 62 M k_124 rfl rfl rfl (by decide) ?_
      refine wp_kn k_124 rfl rfl ?_
      refine wp_pure k_124 rfl rfl ?_
      refine wm_ga 12 M k_124 rfl rfl rfl (by decide) ?_
      refine wp_pure k_124 rfl rfl ?_
      refine wm_iv k_124 rfl rfl M [] rfl (r := [.ref (m + mo 12), .int (nI 60), .ref (m + mo 62)]) (Nat.le_of_ble_eq_true rfl) (Nat.le_of_ble_eq_true rfl) rfl ?_
      refine wp_kn k_110 rfl rfl ?_
      refine wp_pure k_110 rfl rfl ?_
      refine wm_gi 3 M k_110 rfl rfl rfl rfl V.h3 ?_
      refine wp_mulN k_110 rfl ?_
      refine wp_irt k_110 rfl rfl rfl ⟨rfl, ?_⟩
      refine wp_pure k_124 rfl rfl ?_
      refine wp_addN k_124 rfl ?_
      refine wm_al 12 M k_124 rfl rfl (by decide) rfl (show (60 * e) + i < 480 by omega) (v := nI r) ((V.p12 i hi).trans hr) ?_
      refine wp_mulN k_124 rfl ?_
      refine wp_pure k_124 rfl rfl ?_
      refine wp_addN k_124 rfl ?_
      refine wm_al 62 M k_124 rfl rfl (by decide) rfl (show (60 * r) + p < 3600 by omega) rfl ?_
      refine wp_km k_124 rfl rfl ?_
      refine wp_br k_124 rfl rfl rfl rfl (fun (z41 : ar 62 ((60 * r) + p) = -1) => ?_) (fun (z41 : ¬ (ar 62 ((60 * r) + p) = -1)) => ?_)
      · refine wp_inc k_124 rfl rfl rfl ?_
        refine wp_br k_124 rfl rfl rfl rfl (fun _ => ?_) (fun z => absurd trivial z)
        exact ih (fun j hj => by
          by_cases q : j = i
          · rw [q]; exact fun ⟨_, r9, l9, e9, d9, w9⟩ => by
              have e := (nI_eq (by omega) (by omega)).mp (hr.symm.trans e9)
              subst e
              exact (FarE_m1 F hrl hp).mpr ⟨l9, w9⟩ z41
          · exact hI j (by omega))
      · refine wp_kn k_124 rfl rfl ?_
        obtain ⟨l, w⟩ := (FarE_m1 F hrl hp).mp z41
        exact wp_irt k_124 rfl rfl rfl (K1 ⟨r, l, ⟨i, hi, k3, hr, hrl⟩, w⟩)
def dkP (E : Ed) (p i : Nat) (b : Int32) : Prop := (b = -1 ∧ ∀ k d l, k < i → atP E.1 1 k = nI 3 → atP E.1 7 k = nI d → d < E.1.length → ¬ Wk (egE E) l p d) ∨ ∃ v k d, v < 60 ∧ b = nI v ∧ k < i ∧ atP E.1 1 k = nI 3 ∧ atP E.1 7 k = nI d ∧ d < E.1.length ∧ Wk (egE E) v p d ∧ ∀ k' d' l, k' < i → atP E.1 1 k' = nI 3 → atP E.1 7 k' = nI d' → d' < E.1.length → Wk (egE E) l p d' → v ≤ l
theorem dkP_skip {E : Ed} {p i : Nat} {b : Int32} (h : dkP E p i b) (hn : ∀ d l, atP E.1 1 i = nI 3 → atP E.1 7 i = nI d → d < E.1.length → ¬ Wk (egE E) l p d) : dkP E p (i + 1) b := by
  rcases h with ⟨a, h⟩ | ⟨v, k, d, a, b, c, e, f, g, w, h⟩
  · refine Or.inl ⟨a, fun k d l hk q1 q2 q3 => ?_⟩
    by_cases e : k = i
    · subst e; exact hn d l q1 q2 q3
    · exact h k d l (by omega) q1 q2 q3
  · refine Or.inr ⟨v, k, d, a, b, by omega, e, f, g, w, fun k' d' l hk q1 q2 q3 q4 => ?_⟩
    by_cases e : k' = i
    · subst e; exact absurd q4 (hn d' l q1 q2 q3)
    · exact h k' d' l (by omega) q1 q2 q3 q4
theorem dkP_no {E : Ed} {p i r : Nat} {b : Int32} {f : Nat → Nat → Int32} (F : FarE E f) (hp : p < E.1.length) (hr : atP E.1 7 i = nI r) (hrl : r < E.1.length) (hn : E.1.length ≤ 60) (z : f p r = -1) (h : dkP E p i b) : dkP E p (i + 1) b := by
  refine dkP_skip h (fun d l _ q2 q3 w => ?_)
  have e := (nI_eq (by omega) (by omega)).mp (hr.symm.trans q2)
  subst e
  exact (FarE_m1 F hp hrl).mpr ⟨l, w⟩ z
theorem dkP_set {E : Ed} {p i r : Nat} {b : Int32} {f : Nat → Nat → Int32} (F : FarE E f) (hp : p < E.1.length) (k3 : atP E.1 1 i = nI 3) (hr : atP E.1 7 i = nI r) (hrl : r < E.1.length) (hn : E.1.length ≤ 60) (z : ¬ f p r = -1) (zz : b = -1 ∨ f p r < b) (h : dkP E p i b) : dkP E p (i + 1) (f p r) := by
  rcases F p r hp hrl with ⟨q, _⟩ | ⟨v, v1, v2, v3, v4⟩
  · exact absurd q z
  · refine Or.inr ⟨v, i, r, v1, v2, by omega, k3, hr, hrl, v3, fun k' d' l hk q1 q2 q3 q4 => ?_⟩
    by_cases e : k' = i
    · subst e
      have e := (nI_eq (by omega) (by omega)).mp (hr.symm.trans q2)
      subst e
      exact v4 l q4
    · rcases h with ⟨a, h⟩ | ⟨v', k, d, a, b', c, e', f', g, w, h⟩
      · exact absurd q4 (h k' d' l (by omega) q1 q2 q3)
      · have h1 := h k' d' l (by omega) q1 q2 q3 q4
        rcases zz with zz | zz
        · exact absurd (b'.symm.trans zz) (nI_nm1 (by omega))
        · rw [v2, b'] at zz
          have := (nI_ltI (by omega) (by omega)).mp zz
          omega
theorem dkP_keep {E : Ed} {p i r : Nat} {b : Int32} {f : Nat → Nat → Int32} (F : FarE E f) (hp : p < E.1.length) (hr : atP E.1 7 i = nI r) (hrl : r < E.1.length) (hn : E.1.length ≤ 60) (z : ¬ f p r = -1) (zb : ¬ b = -1) (zz : b ≤ f p r) (h : dkP E p i b) : dkP E p (i + 1) b := by
  rcases F p r hp hrl with ⟨q, _⟩ | ⟨v, v1, v2, v3, v4⟩
  · exact absurd q z
  · rcases h with ⟨a, h⟩ | ⟨v', k, d, a, b', c, e', f', g, w, h⟩
    · exact absurd a zb
    · refine Or.inr ⟨v', k, d, a, b', by omega, e', f', g, w, fun k' d' l hk q1 q2 q3 q4 => ?_⟩
      by_cases e : k' = i
      · subst e
        have e := (nI_eq (by omega) (by omega)).mp (hr.symm.trans q2)
        subst e
        rw [v2, b'] at zz
        have := (nI_leI (by omega) (by omega)).mp zz
        have := v4 l q4
        omega
      · exact h k' d' l (by omega) q1 q2 q3 q4
theorem dkP_end {E : Ed} {p : Nat} {b : Int32} (h : dkP E p E.1.length b) : stdE E p = b := by
  refine stdE_eq ?_
  rcases h with ⟨a, h⟩ | ⟨v, k, d, a, b', c, e', f', g, w, h⟩
  · exact Or.inl ⟨a, fun ⟨d, l, ⟨k, q1, q2, q3, q4⟩, w⟩ => h k d l q1 q2 q3 q4 w⟩
  · exact Or.inr ⟨v, d, a, b', ⟨k, c, e', f', g⟩, w, fun l' d' ⟨k', q1, q2, q3, q4⟩ w' => h k' d' l' q1 q2 q3 q4 w'⟩
theorem stdE_m1 {E : Ed} (hW : EdW E) (hn : E.1.length ≤ 60) {p : Nat} (hp : p < E.1.length) : stdE E p = -1 ↔ ¬ extE E p := by
  by_cases h : extE E p
  · refine ⟨fun q => ?_, fun q => absurd h q⟩
    obtain ⟨d, l, hd, w⟩ := h
    have : ∃ l, ∃ d, dkE E d ∧ Wk (egE E) l p d := ⟨l, d, hd, w⟩
    -- the least of them
    have key : ∀ l d, dkE E d → Wk (egE E) l p d → ∃ l0 d0, dkE E d0 ∧ Wk (egE E) l0 p d0 ∧ ∀ l' d', dkE E d' → Wk (egE E) l' p d' → l0 ≤ l' := by
      intro l
      induction l using Nat.strongRecOn with
      | ind l ih =>
        intro d hd w
        by_cases q : ∃ l' d', l' < l ∧ dkE E d' ∧ Wk (egE E) l' p d'
        · obtain ⟨l', d', a, b, c⟩ := q
          exact ih l' a d' b c
        · exact ⟨l, d, hd, w, fun l' d' a b => Nat.not_lt.mp (fun z => q ⟨l', d', z, a, b⟩)⟩
    obtain ⟨l0, d0, a, b, c⟩ := key l d hd w
    obtain ⟨l1, q1, q2, q3⟩ := wk_near (fun u v (q : egE E u v) => (egE_lt hW q).2) hp b
    have e : l1 = l0 := by have := c l1 d0 a q3; omega
    subst e
    have := stdE_eq (Or.inr ⟨l1, d0, by omega, rfl, a, b, c⟩ : isStd E p (nI l1))
    rw [this] at q
    exact absurd q (nI_nm1 (by omega))
  · exact ⟨fun _ => h, fun _ => stdE_eq (Or.inl ⟨rfl, h⟩)⟩
theorem m_toDock {h0 h : sm_H} {m : Nat} {g : Nat → Int32} {ar : Nat → Nat → Int32} {Q : Nat → Option Value → sm_H → Prop} {E : Ed} {e : Nat} (M : MS h0 h m g ar) (V : MV g ar E e) (hW : EdW E) (F : FarE E (fun a b => ar 62 (60 * a + b))) {p : Nat} (hp : p < E.1.length) (K : Q 0 (some (.int (stdE E p))) h) : sm_wp 126 0 [.ref m, .int (nI p), jk, jk, jk] [] h Q := by
  have he := V.he
  have hn := V.hn
  have hl := V.hl
  refine wp_km k_126 rfl rfl ?_
  refine wp_pure k_126 rfl rfl ?_
  refine wp_kn k_126 rfl rfl ?_
  refine wp_pure k_126 rfl rfl ?_
  refine dn (n := E.1.length) (P := fun i => ∀ (x4 : Value), ∀ (bb : Int32), (dkP E p i bb) → sm_wp 126 4 [.ref m, .int (nI p), .int bb, .int (nI i), x4] [] h Q) ?_ ?_ 0 (Nat.zero_le _) (jk) (-1) (Or.inl ⟨rfl, fun k d l hk => absurd hk (Nat.not_lt_zero k)⟩)
  · intro x4 bb hI
    refine wp_pure k_126 rfl rfl ?_
    refine wp_pure k_126 rfl rfl ?_
    refine wm_iv k_126 rfl rfl M [] rfl (r := [.int (nI (E.1.length))]) (Nat.le_of_ble_eq_true rfl) (Nat.le_of_ble_eq_true rfl) rfl ?_
    refine wp_pure k_109 rfl rfl ?_
    refine wm_ga 4 M k_109 rfl rfl rfl (by decide) ?_
    refine wp_pure k_109 rfl rfl ?_
    refine wm_gi 3 M k_109 rfl rfl rfl rfl V.h3 ?_
    refine wm_al 4 M k_109 rfl rfl (by decide) rfl (show e < 8 by omega) (v := nI E.1.length) V.n4 ?_
    refine wp_irt k_109 rfl rfl rfl ⟨rfl, ?_⟩
    refine wp_br k_126 rfl rfl rfl rfl (fun _ => ?_) (fun z => absurd (Int32.le_refl _) z)
    refine wp_pure k_126 rfl rfl ?_
    rw [dkP_end hI] at K
    exact wp_irt k_126 rfl rfl rfl K
  · intro i hi ih x4 bb hI
    refine wp_pure k_126 rfl rfl ?_
    refine wp_pure k_126 rfl rfl ?_
    refine wm_iv k_126 rfl rfl M [] rfl (r := [.int (nI i)]) (Nat.le_of_ble_eq_true rfl) (Nat.le_of_ble_eq_true rfl) rfl ?_
    refine wp_pure k_109 rfl rfl ?_
    refine wm_ga 4 M k_109 rfl rfl rfl (by decide) ?_
    refine wp_pure k_109 rfl rfl ?_
    refine wm_gi 3 M k_109 rfl rfl rfl rfl V.h3 ?_
    refine wm_al 4 M k_109 rfl rfl (by decide) rfl (show e < 8 by omega) (v := nI E.1.length) V.n4 ?_
    refine wp_irt k_109 rfl rfl rfl ⟨rfl, ?_⟩
    refine wp_br k_126 rfl rfl rfl rfl (fun z => absurd z (nI_ge hi (by omega))) (fun _ => ?_)
    refine wp_pure k_126 rfl rfl ?_
    refine wp_pure k_126 rfl rfl ?_
    refine wm_iv k_126 rfl rfl M [.int (nI i)] rfl (r := []) (Nat.le_of_ble_eq_true rfl) (Nat.le_of_ble_eq_true rfl) rfl ?_
    refine wp_pure k_112 rfl rfl ?_
    refine wm_ga 5 M k_112 rfl rfl rfl (by decide) ?_
    refine wp_pure k_112 rfl rfl ?_
    refine wm_iv k_112 rfl rfl M [] rfl (r := [.ref (m + mo 5)]) (Nat.le_of_ble_eq_true rfl) (Nat.le_of_ble_eq_true rfl) rfl ?_
    refine wp_kn k_110 rfl rfl ?_
    refine wp_pure k_110 rfl rfl ?_
    refine wm_gi 3 M k_110 rfl rfl rfl rfl V.h3 ?_
    refine wp_mulN k_110 rfl ?_
    refine wp_irt k_110 rfl rfl rfl ⟨rfl, ?_⟩
    refine wp_pure k_112 rfl rfl ?_
    refine wp_addN k_112 rfl ?_
    refine wm_al 5 M k_112 rfl rfl (by decide) rfl (show (60 * e) + i < 480 by omega) (v := atP E.1 1 i) (V.p5 i (by omega)) ?_
    refine wp_irt k_112 rfl rfl rfl ⟨rfl, ?_⟩
    refine wp_kn k_126 rfl rfl ?_
    refine wp_br k_126 rfl rfl rfl rfl (fun (z18 : ¬ atP E.1 1 i = nI 3) => ?_) (fun (z18 : ¬ (¬ atP E.1 1 i = nI 3)) => ?_)
    · refine wp_km k_126 rfl rfl ?_
      refine wp_pure k_126 rfl rfl ?_
      refine wp_pure k_126 rfl rfl ?_
      refine wp_km k_126 rfl rfl ?_
      refine wp_br k_126 rfl rfl rfl rfl (fun _ => ?_) (fun z => absurd (rfl) z)
      refine wp_pure k_126 rfl rfl ?_
      refine wp_pure k_126 rfl rfl ?_
      refine wp_inc k_126 rfl rfl rfl ?_
      refine wp_br k_126 rfl rfl rfl rfl (fun _ => ?_) (fun z => absurd trivial z)
      exact ih (.int (-1)) bb (dkP_skip hI (fun _ _ q => absurd q z18))
    · have k3 := Classical.not_not.mp z18
      obtain ⟨r, hr, hrl, _⟩ := hW.of3 hi (Or.inl k3)
      refine wp_pure k_126 rfl rfl ?_
      refine wm_ga 62 M k_126 rfl rfl rfl (by decide) ?_
      refine wp_kn k_126 rfl rfl ?_
      refine wp_pure k_126 rfl rfl ?_
      refine wp_mulN k_126 rfl ?_
      refine wp_pure k_126 rfl rfl ?_
      refine wm_ga 12 M k_126 rfl rfl rfl (by decide) ?_
      refine wp_pure k_126 rfl rfl ?_
      refine wm_iv k_126 rfl rfl M [] rfl (r := [.ref (m + mo 12), .int (nI (60 * p)), .ref (m + mo 62)]) (Nat.le_of_ble_eq_true rfl) (Nat.le_of_ble_eq_true rfl) rfl ?_
      refine wp_kn k_110 rfl rfl ?_
      refine wp_pure k_110 rfl rfl ?_
      refine wm_gi 3 M k_110 rfl rfl rfl rfl V.h3 ?_
      refine wp_mulN k_110 rfl ?_
      refine wp_irt k_110 rfl rfl rfl ⟨rfl, ?_⟩
      refine wp_pure k_126 rfl rfl ?_
      refine wp_addN k_126 rfl ?_
      refine wm_al 12 M k_126 rfl rfl (by decide) rfl (show (60 * e) + i < 480 by omega) (v := nI r) ((V.p12 i hi).trans hr) ?_
      refine wp_addN k_126 rfl ?_
      refine wm_al 62 M k_126 rfl rfl (by decide) rfl (show (60 * p) + r < 3600 by omega) rfl ?_
      refine wp_br k_126 rfl rfl rfl rfl (fun _ => ?_) (fun z => absurd trivial z)
      refine wp_pure k_126 rfl rfl ?_
      refine wp_pure k_126 rfl rfl ?_
      refine wp_km k_126 rfl rfl ?_
      refine wp_br k_126 rfl rfl rfl rfl (fun (z51 : ar 62 ((60 * p) + r) = -1) => ?_) (fun (z51 : ¬ (ar 62 ((60 * p) + r) = -1)) => ?_)
      · refine wp_pure k_126 rfl rfl ?_
        refine wp_pure k_126 rfl rfl ?_
        refine wp_inc k_126 rfl rfl rfl ?_
        refine wp_br k_126 rfl rfl rfl rfl (fun _ => ?_) (fun z => absurd trivial z)
        exact ih (.int (ar 62 ((60 * p) + r))) bb (dkP_no F hp hr hrl hn z51 hI)
      · refine wp_pure k_126 rfl rfl ?_
        refine wp_km k_126 rfl rfl ?_
        refine wp_br k_126 rfl rfl rfl rfl (fun (z56 : bb = -1) => ?_) (fun (z56 : ¬ (bb = -1)) => ?_)
        · refine wp_pure k_126 rfl rfl ?_
          refine wp_br k_126 rfl rfl rfl rfl (fun _ => ?_) (fun z => absurd trivial z)
          refine wp_pure k_126 rfl rfl ?_
          refine wp_inc k_126 rfl rfl rfl ?_
          refine wp_br k_126 rfl rfl rfl rfl (fun _ => ?_) (fun z => absurd trivial z)
          exact ih (.int (ar 62 ((60 * p) + r))) (ar 62 ((60 * p) + r)) (dkP_set F hp k3 hr hrl hn z51 (Or.inl z56) hI)
        · refine wp_pure k_126 rfl rfl ?_
          refine wp_pure k_126 rfl rfl ?_
          refine wp_br k_126 rfl rfl rfl rfl (fun (z62 : bb ≤ ar 62 ((60 * p) + r)) => ?_) (fun (z62 : ¬ (bb ≤ ar 62 ((60 * p) + r))) => ?_)
          · refine wp_pure k_126 rfl rfl ?_
            refine wp_pure k_126 rfl rfl ?_
            refine wp_inc k_126 rfl rfl rfl ?_
            refine wp_br k_126 rfl rfl rfl rfl (fun _ => ?_) (fun z => absurd trivial z)
            exact ih (.int (ar 62 ((60 * p) + r))) bb (dkP_keep F hp hr hrl hn z51 z56 z62 hI)
          · refine wp_pure k_126 rfl rfl ?_
            refine wp_br k_126 rfl rfl rfl rfl (fun _ => ?_) (fun z => absurd trivial z)
            refine wp_pure k_126 rfl rfl ?_
            refine wp_inc k_126 rfl rfl rfl ?_
            refine wp_br k_126 rfl rfl rfl rfl (fun _ => ?_) (fun z => absurd trivial z)
            exact ih (.int (ar 62 ((60 * p) + r))) (ar 62 ((60 * p) + r)) (dkP_set F hp k3 hr hrl hn z51 (Or.inr (Int32.not_le.mp z62)) hI)
theorem m_isLinked {h0 h : sm_H} {m : Nat} {g : Nat → Int32} {ar : Nat → Nat → Int32} {Q : Nat → Option Value → sm_H → Prop} {E : Ed} {e : Nat} (M : MS h0 h m g ar) (V : MV g ar E e) (hW : EdW E) {p : Nat} (hp : p < E.1.length) (K1 : lnkE E p → Q 0 (some (.int (nI 1))) h) (K0 : ¬ lnkE E p → Q 0 (some (.int (nI 0))) h) : sm_wp 125 0 [.ref m, .int (nI p), jk, jk] [] h Q := by
  have he := V.he
  have hn := V.hn
  have hl := V.hl
  refine wp_kn k_125 rfl rfl ?_
  refine wp_pure k_125 rfl rfl ?_
  refine dn (n := E.2.1.length) (P := fun i => (∀ j, j < i → ¬ (wA E.2.1 j = p ∨ wB E.2.1 j = p)) → sm_wp 125 2 [.ref m, .int (nI p), .int (nI i), jk] [] h Q) ?_ ?_ 0 (Nat.zero_le _) (fun j hj => absurd hj (Nat.not_lt_zero j))
  · intro hI
    
    refine wp_pure k_125 rfl rfl ?_
    refine wp_pure k_125 rfl rfl ?_
    refine wm_gi 14 M k_125 rfl rfl rfl rfl V.h14 ?_
    refine wp_br k_125 rfl rfl rfl rfl (fun _ => ?_) (fun z => absurd (Int32.le_refl _) z)
    refine wp_kn k_125 rfl rfl ?_
    refine wp_pure k_125 rfl rfl ?_
    refine dn (n := E.1.length) (P := fun k => ∀ (x3 : Value), (∀ j, j < k → ¬ p ∈ stP E.1 j) → sm_wp 125 40 [.ref m, .int (nI p), .int (nI k), x3] [] h Q) ?_ ?_ 0 (Nat.zero_le _) (jk) (fun j hj => absurd hj (Nat.not_lt_zero j))
    · intro x3 hJ
      
      refine wp_pure k_125 rfl rfl ?_
      refine wp_pure k_125 rfl rfl ?_
      refine wm_iv k_125 rfl rfl M [] rfl (r := [.int (nI (E.1.length))]) (Nat.le_of_ble_eq_true rfl) (Nat.le_of_ble_eq_true rfl) rfl ?_
      refine wp_pure k_109 rfl rfl ?_
      refine wm_ga 4 M k_109 rfl rfl rfl (by decide) ?_
      refine wp_pure k_109 rfl rfl ?_
      refine wm_gi 3 M k_109 rfl rfl rfl rfl V.h3 ?_
      refine wm_al 4 M k_109 rfl rfl (by decide) rfl (show e < 8 by omega) (v := nI E.1.length) V.n4 ?_
      refine wp_irt k_109 rfl rfl rfl ⟨rfl, ?_⟩
      refine wp_br k_125 rfl rfl rfl rfl (fun _ => ?_) (fun z => absurd (Int32.le_refl _) z)
      refine wp_kn k_125 rfl rfl ?_
      exact wp_irt k_125 rfl rfl rfl (K0 (fun w => w.elim (fun ⟨i, a, b⟩ => hI i a b) (fun ⟨k, _, b⟩ => hJ k (stP_lt b) b)))
    · intro k hk0 ih1 x3 hJ
      have b4 := V.s4 k
      refine wp_pure k_125 rfl rfl ?_
      refine wp_pure k_125 rfl rfl ?_
      refine wm_iv k_125 rfl rfl M [] rfl (r := [.int (nI k)]) (Nat.le_of_ble_eq_true rfl) (Nat.le_of_ble_eq_true rfl) rfl ?_
      refine wp_pure k_109 rfl rfl ?_
      refine wm_ga 4 M k_109 rfl rfl rfl (by decide) ?_
      refine wp_pure k_109 rfl rfl ?_
      refine wm_gi 3 M k_109 rfl rfl rfl rfl V.h3 ?_
      refine wm_al 4 M k_109 rfl rfl (by decide) rfl (show e < 8 by omega) (v := nI E.1.length) V.n4 ?_
      refine wp_irt k_109 rfl rfl rfl ⟨rfl, ?_⟩
      refine wp_br k_125 rfl rfl rfl rfl (fun z => absurd z (nI_ge hk0 (by omega))) (fun _ => ?_)
      refine wp_kn k_125 rfl rfl ?_
      refine wp_pure k_125 rfl rfl ?_
      refine dn (n := (stP E.1 k).length) (P := fun i => (∀ j, j < i → ¬ (stP E.1 k).getD j 0 = p) → sm_wp 125 50 [.ref m, .int (nI p), .int (nI k), .int (nI i)] [] h Q) ?_ ?_ 0 (Nat.zero_le _) (fun j hj => absurd hj (Nat.not_lt_zero j))
      · intro hL
        
        refine wp_pure k_125 rfl rfl ?_
        refine wp_pure k_125 rfl rfl ?_
        refine wm_ga 21 M k_125 rfl rfl rfl (by decide) ?_
        refine wp_pure k_125 rfl rfl ?_
        refine wm_al 21 M k_125 rfl rfl (by decide) rfl (show k < 60 by omega) (v := nI (stP E.1 k).length) (V.sc k (by omega)) ?_
        refine wp_br k_125 rfl rfl rfl rfl (fun _ => ?_) (fun z => absurd (Int32.le_refl _) z)
        refine wp_inc k_125 rfl rfl rfl ?_
        refine wp_br k_125 rfl rfl rfl rfl (fun _ => ?_) (fun z => absurd trivial z)
        exact ih1 (.int (nI ((stP E.1 k).length))) (fun j hj => by
          by_cases q : j = k
          · rw [q]
            intro w
            obtain ⟨i', a, b⟩ := s_ex w
            exact hL i' a b
          · exact hJ j (by omega))
      · intro i hi0 ih2 hL
        obtain ⟨h6, bs⟩ := hW.st6 hk0 hi0
        refine wp_pure k_125 rfl rfl ?_
        refine wp_pure k_125 rfl rfl ?_
        refine wm_ga 21 M k_125 rfl rfl rfl (by decide) ?_
        refine wp_pure k_125 rfl rfl ?_
        refine wm_al 21 M k_125 rfl rfl (by decide) rfl (show k < 60 by omega) (v := nI (stP E.1 k).length) (V.sc k (by omega)) ?_
        refine wp_br k_125 rfl rfl rfl rfl (fun z => absurd z (nI_ge hi0 (by omega))) (fun _ => ?_)
        refine wp_pure k_125 rfl rfl ?_
        refine wp_pure k_125 rfl rfl ?_
        refine wm_iv k_125 rfl rfl M [.int (nI k)] rfl (r := []) (Nat.le_of_ble_eq_true rfl) (Nat.le_of_ble_eq_true rfl) rfl ?_
        refine wp_pure k_112 rfl rfl ?_
        refine wm_ga 5 M k_112 rfl rfl rfl (by decide) ?_
        refine wp_pure k_112 rfl rfl ?_
        refine wm_iv k_112 rfl rfl M [] rfl (r := [.ref (m + mo 5)]) (Nat.le_of_ble_eq_true rfl) (Nat.le_of_ble_eq_true rfl) rfl ?_
        refine wp_kn k_110 rfl rfl ?_
        refine wp_pure k_110 rfl rfl ?_
        refine wm_gi 3 M k_110 rfl rfl rfl rfl V.h3 ?_
        refine wp_mulN k_110 rfl ?_
        refine wp_irt k_110 rfl rfl rfl ⟨rfl, ?_⟩
        refine wp_pure k_112 rfl rfl ?_
        refine wp_addN k_112 rfl ?_
        refine wm_al 5 M k_112 rfl rfl (by decide) rfl (show (60 * e) + k < 480 by omega) (v := atP E.1 1 k) (V.p5 k (by omega)) ?_
        refine wp_irt k_112 rfl rfl rfl ⟨rfl, ?_⟩
        refine wp_kn k_125 rfl rfl ?_
        refine wp_br k_125 rfl rfl rfl rfl (fun z => absurd z (fun q => q h6)) (fun _ => ?_)
        refine wp_pure k_125 rfl rfl ?_
        refine wm_ga 22 M k_125 rfl rfl rfl (by decide) ?_
        refine wp_kn k_125 rfl rfl ?_
        refine wp_pure k_125 rfl rfl ?_
        refine wp_mulN k_125 rfl ?_
        refine wp_pure k_125 rfl rfl ?_
        refine wp_addN k_125 rfl ?_
        refine wm_al 22 M k_125 rfl rfl (by decide) rfl (show (4 * k) + i < 240 by omega) (v := nI ((stP E.1 k).getD i 0)) (V.sv k (by omega) i (by omega)) ?_
        refine wp_pure k_125 rfl rfl ?_
        refine wp_br k_125 rfl rfl rfl rfl (fun (z81 : ¬ nI ((stP E.1 k).getD i 0) = nI p) => ?_) (fun (z81 : ¬ (¬ nI ((stP E.1 k).getD i 0) = nI p)) => ?_)
        · have y81 : ¬ (stP E.1 k).getD i 0 = p := yNE (by omega) (by omega) z81
          refine wp_inc k_125 rfl rfl rfl ?_
          refine wp_br k_125 rfl rfl rfl rfl (fun _ => ?_) (fun z => absurd trivial z)
          exact ih2 (fun j hj => by
            by_cases q : j = i
            · rw [q]; exact y81
            · exact hL j (by omega))
        · have y81 : (stP E.1 k).getD i 0 = p := yNNE (by omega) (by omega) z81
          refine wp_kn k_125 rfl rfl ?_
          exact wp_irt k_125 rfl rfl rfl (K1 (Or.inr ⟨k, h6, y81 ▸ s_mem hi0⟩))
  · intro i hi ih hI
    obtain ⟨bw1, bw2, _⟩ := hW.2.2.1 _ _ _ (w_mem hi)
    refine wp_pure k_125 rfl rfl ?_
    refine wp_pure k_125 rfl rfl ?_
    refine wm_gi 14 M k_125 rfl rfl rfl rfl V.h14 ?_
    refine wp_br k_125 rfl rfl rfl rfl (fun z => absurd z (nI_ge hi (by omega))) (fun _ => ?_)
    refine wp_pure k_125 rfl rfl ?_
    refine wm_ga 15 M k_125 rfl rfl rfl (by decide) ?_
    refine wp_pure k_125 rfl rfl ?_
    refine wm_al 15 M k_125 rfl rfl (by decide) rfl (show i < 60 by omega) (v := nI (wA E.2.1 i)) (V.w15 i (by omega)) ?_
    refine wp_pure k_125 rfl rfl ?_
    refine wp_br k_125 rfl rfl rfl rfl (fun (z17 : nI (wA E.2.1 i) = nI p) => ?_) (fun (z17 : ¬ (nI (wA E.2.1 i) = nI p)) => ?_)
    · have y17 : wA E.2.1 i = p := yE (by omega) (by omega) z17
      refine wp_kn k_125 rfl rfl ?_
      exact wp_irt k_125 rfl rfl rfl (K1 (Or.inl ⟨i, hi, Or.inl y17⟩))
    · have y17 : ¬ wA E.2.1 i = p := yNE (by omega) (by omega) z17
      refine wp_pure k_125 rfl rfl ?_
      refine wm_ga 16 M k_125 rfl rfl rfl (by decide) ?_
      refine wp_pure k_125 rfl rfl ?_
      refine wm_al 16 M k_125 rfl rfl (by decide) rfl (show i < 60 by omega) (v := nI (wB E.2.1 i)) (V.w16 i (by omega)) ?_
      refine wp_pure k_125 rfl rfl ?_
      refine wp_br k_125 rfl rfl rfl rfl (fun (z27 : ¬ nI (wB E.2.1 i) = nI p) => ?_) (fun (z27 : ¬ (¬ nI (wB E.2.1 i) = nI p)) => ?_)
      · have y27 : ¬ wB E.2.1 i = p := yNE (by omega) (by omega) z27
        refine wp_inc k_125 rfl rfl rfl ?_
        refine wp_br k_125 rfl rfl rfl rfl (fun _ => ?_) (fun z => absurd trivial z)
        exact ih (fun j hj => by
          by_cases q : j = i
          · rw [q]; exact fun w => w.elim y17 y27
          · exact hI j (by omega))
      · have y27 : wB E.2.1 i = p := yNNE (by omega) (by omega) z27
        refine wp_kn k_125 rfl rfl ?_
        exact wp_irt k_125 rfl rfl rfl (K1 (Or.inl ⟨i, hi, Or.inr y27⟩))
theorem m_isServed {h0 h : sm_H} {m : Nat} {g : Nat → Int32} {ar : Nat → Nat → Int32} {Q : Nat → Option Value → sm_H → Prop} {E : Ed} {e : Nat} (M : MS h0 h m g ar) (V : MV g ar E e) (hW : EdW E) (F : FarE E (fun a b => ar 62 (60 * a + b))) {b : Nat} (hb : b < E.1.length) (K1 : srvE E b → Q 0 (some (.int (nI 1))) h) (K0 : ¬ srvE E b → Q 0 (some (.int (nI 0))) h) : sm_wp 123 0 [.ref m, .int (nI b), jk] [] h Q := by
  have he := V.he
  have hn := V.hn
  have hl := V.hl
  refine wp_kn k_123 rfl rfl ?_
  refine wp_pure k_123 rfl rfl ?_
  refine dn (n := E.2.2.length) (P := fun i => (∀ j, j < i → ¬ (vA E.2.2 j = b ∧ rchE E (vB E.2.2 j))) → sm_wp 123 2 [.ref m, .int (nI b), .int (nI i)] [] h Q) ?_ ?_ 0 (Nat.zero_le _) (fun j hj => absurd hj (Nat.not_lt_zero j))
  · intro hI
    
    refine wp_pure k_123 rfl rfl ?_
    refine wp_pure k_123 rfl rfl ?_
    refine wm_gi 18 M k_123 rfl rfl rfl rfl V.h18 ?_
    refine wp_br k_123 rfl rfl rfl rfl (fun _ => ?_) (fun z => absurd (Int32.le_refl _) z)
    refine wp_kn k_123 rfl rfl ?_
    exact wp_irt k_123 rfl rfl rfl (K0 (fun ⟨i, a, b⟩ => hI i a b))
  · intro i hi ih hI
    obtain ⟨bw1, bw2, _⟩ := hW.2.2.2 _ _ (v_mem hi)
    refine wp_pure k_123 rfl rfl ?_
    refine wp_pure k_123 rfl rfl ?_
    refine wm_gi 18 M k_123 rfl rfl rfl rfl V.h18 ?_
    refine wp_br k_123 rfl rfl rfl rfl (fun z => absurd z (nI_ge hi (by omega))) (fun _ => ?_)
    refine wp_pure k_123 rfl rfl ?_
    refine wm_ga 19 M k_123 rfl rfl rfl (by decide) ?_
    refine wp_pure k_123 rfl rfl ?_
    refine wm_al 19 M k_123 rfl rfl (by decide) rfl (show i < 60 by omega) (v := nI (vA E.2.2 i)) (V.w19 i (by omega)) ?_
    refine wp_pure k_123 rfl rfl ?_
    refine wp_br k_123 rfl rfl rfl rfl (fun (z17 : ¬ nI (vA E.2.2 i) = nI b) => ?_) (fun (z17 : ¬ (¬ nI (vA E.2.2 i) = nI b)) => ?_)
    · have y17 : ¬ vA E.2.2 i = b := yNE (by omega) (by omega) z17
      refine wp_inc k_123 rfl rfl rfl ?_
      refine wp_br k_123 rfl rfl rfl rfl (fun _ => ?_) (fun z => absurd trivial z)
      exact ih (fun j hj => by
        by_cases q : j = i
        · rw [q]; exact fun w => y17 w.1
        · exact hI j (by omega))
    · have y17 : vA E.2.2 i = b := yNNE (by omega) (by omega) z17
      refine wp_pure k_123 rfl rfl ?_
      refine wp_pure k_123 rfl rfl ?_
      refine wm_ga 20 M k_123 rfl rfl rfl (by decide) ?_
      refine wp_pure k_123 rfl rfl ?_
      refine wm_al 20 M k_123 rfl rfl (by decide) rfl (show i < 60 by omega) (v := nI (vB E.2.2 i)) (V.w20 i (by omega)) ?_
      refine wm_iv k_123 rfl rfl M [.int (nI (vB E.2.2 i))] rfl (r := []) (Nat.le_of_ble_eq_true rfl) (Nat.le_of_ble_eq_true rfl) rfl ?_
      refine m_isReached M V hW F (by omega) (fun zr1 => ⟨rfl, ?_⟩) (fun zr1 => ⟨rfl, ?_⟩)
      · have zr := zr1
        refine wp_br k_123 rfl rfl rfl rfl (fun z => absurd z (show ¬ ((nI 1 : Int32) = 0) by decide)) (fun _ => ?_)
        refine wp_kn k_123 rfl rfl ?_
        exact wp_irt k_123 rfl rfl rfl (K1 ⟨i, hi, y17, zr⟩)
      · have zr := zr1
        refine wp_br k_123 rfl rfl rfl rfl (fun _ => ?_) (fun z => absurd (show (nI 0 : Int32) = 0 by decide) z)
        refine wp_inc k_123 rfl rfl rfl ?_
        refine wp_br k_123 rfl rfl rfl rfl (fun _ => ?_) (fun z => absurd trivial z)
        exact ih (fun j hj => by
          by_cases q : j = i
          · rw [q]; exact fun w => zr w.2
          · exact hI j (by omega))
def FL (g : Nat → Int32) (ar : Nat → Nat → Int32) (l : List Flt) : Prop := g 66 = nI l.length ∧ ∀ (j : Nat) (f : Flt), l[j]? = some f → ar 63 j = f.1 ∧ ar 64 j = f.2.1 ∧ ar 65 j = f.2.2
theorem m_addFault {h0 h : sm_H} {m : Nat} {g : Nat → Int32} {ar : Nat → Nat → Int32} {Q : Nat → Option Value → sm_H → Prop} (M : MS h0 h m g ar) {l : List Flt} (hl : FL g ar l) (h2 : l.length < 200) {c : Prop} {b x y z : Int32} (hb : (c ∧ b = nI 1) ∨ (¬ c ∧ b = nI 0)) (K : ∀ h' g' ar', MS h0 h' m g' ar' → (∀ k, k ≠ 66 → g' k = g k) → (∀ k, k < 63 ∨ 65 < k → ar' k = ar k) → FL g' ar' (l ++ ift c (x, y, z)) → Q 0 none h') : sm_wp 120 0 [.ref m, .int b, .int x, .int y, .int z] [] h Q := by
  rcases hb with ⟨hc, rfl⟩ | ⟨hc, rfl⟩
  · rw [ift_y hc] at K
    refine wp_pure k_120 rfl rfl ?_
    refine wp_br k_120 rfl rfl rfl rfl (fun _ => ?_) (fun z => absurd (show ¬ (nI 1 : Int32) = 0 by decide) z)
    refine wp_pure k_120 rfl rfl ?_
    refine wm_ga 63 M k_120 rfl rfl rfl (by decide) ?_
    refine wp_pure k_120 rfl rfl ?_
    refine wm_gi 66 M k_120 rfl rfl rfl rfl hl.1 ?_
    refine wp_pure k_120 rfl rfl ?_
    refine wm_as 63 M k_120 rfl rfl (by decide) rfl (show l.length < 200 by omega) (fun h1 M1 => ?_)
    refine wp_pure k_120 rfl rfl ?_
    refine wm_ga 64 M1 k_120 rfl rfl rfl (by decide) ?_
    refine wp_pure k_120 rfl rfl ?_
    refine wm_gi 66 M1 k_120 rfl rfl rfl rfl hl.1 ?_
    refine wp_pure k_120 rfl rfl ?_
    refine wm_as 64 M1 k_120 rfl rfl (by decide) rfl (show l.length < 200 by omega) (fun h2 M2 => ?_)
    refine wp_pure k_120 rfl rfl ?_
    refine wm_ga 65 M2 k_120 rfl rfl rfl (by decide) ?_
    refine wp_pure k_120 rfl rfl ?_
    refine wm_gi 66 M2 k_120 rfl rfl rfl rfl hl.1 ?_
    refine wp_pure k_120 rfl rfl ?_
    refine wm_as 65 M2 k_120 rfl rfl (by decide) rfl (show l.length < 200 by omega) (fun h3 M3 => ?_)
    refine wp_pure k_120 rfl rfl ?_
    refine wp_pure k_120 rfl rfl ?_
    refine wm_gi 66 M3 k_120 rfl rfl rfl rfl hl.1 ?_
    refine wp_kn k_120 rfl rfl ?_
    refine wp_addN k_120 rfl ?_
    refine wm_pi 66 M3 k_120 rfl rfl rfl rfl rfl rfl (fun h4 M4 => ?_)
    refine wp_vrt k_120 rfl rfl (K _ _ _ M4 (fun k hk => uF_ne hk) (fun k hk => by rw [uA_ne (by omega), uA_ne (by omega), uA_ne (by omega)]) ⟨?_, fun j f hj => ?_⟩)
    · rw [List.length_append]; exact uF_at
    · by_cases e : j < l.length
      · rw [List.getElem?_append_left e] at hj
        obtain ⟨q1, q2, q3⟩ := hl.2 j f hj
        refine ⟨?_, ?_, ?_⟩
        · rw [uA_ne (by decide), uA_ne (by decide), uA_nn (by omega)]; exact q1
        · rw [uA_ne (by decide), uA_nn (by omega), uA_ne (by decide)]; exact q2
        · rw [uA_nn (by omega), uA_ne (by decide), uA_ne (by decide)]; exact q3
      · have hk := (List.getElem?_eq_some_iff.mp hj).1
        rw [List.length_append] at hk
        have e2 : j = l.length := by have : j < l.length + 1 := hk; omega
        subst e2
        rw [List.getElem?_append_right (Nat.le_refl _), Nat.sub_self] at hj
        cases hj
        refine ⟨?_, ?_, ?_⟩
        · rw [uA_ne (by decide), uA_ne (by decide)]; exact uA_at
        · rw [uA_ne (by decide)]; exact uA_at
        · exact uA_at
  · rw [ift_n hc, List.append_nil] at K
    refine wp_pure k_120 rfl rfl ?_
    refine wp_br k_120 rfl rfl rfl rfl (fun z => absurd z (show ¬ (¬ (nI 0 : Int32) = 0) by decide)) (fun _ => ?_)
    exact wp_vrt k_120 rfl rfl (K _ _ _ M (fun _ _ => rfl) (fun _ _ => rfl) hl)
