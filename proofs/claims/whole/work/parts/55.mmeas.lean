/-! the reference measures -/
theorem m_step {h0 h : sm_H} {m : Nat} {g : Nat → Int32} {ar : Nat → Nat → Int32} {Q : Nat → Option Value → sm_H → Prop} (M : MS h0 h m g ar) {a b : Nat} (ha : a < 60) (hb : b < 60) (K : ∀ h' ar', MS h0 h' m g ar' → (∀ k, k ≠ 62 → ar' k = ar k) → (∀ x y, y < 60 → ar' 62 (60 * x + y) = if a ≠ b ∧ x = a ∧ y = b then nI 1 else ar 62 (60 * x + y)) → Q 0 none h') : sm_wp 117 0 [.ref m, .int (nI a), .int (nI b)] [] h Q := by
  refine wp_pure k_117 rfl rfl ?_
  refine wp_pure k_117 rfl rfl ?_
  refine wp_br k_117 rfl rfl rfl rfl (fun (z2 : nI a = nI b) => ?_) (fun (z2 : ¬ (nI a = nI b)) => ?_)
  · have y2 : a = b := yE (by omega) (by omega) z2
    exact wp_vrt k_117 rfl rfl (K _ _ M (fun _ _ => rfl) (fun x y _ => (if_neg (fun q => q.1 y2)).symm))
  · have y2 : ¬ a = b := yNE (by omega) (by omega) z2
    refine wp_pure k_117 rfl rfl ?_
    refine wm_ga 62 M k_117 rfl rfl rfl (by decide) ?_
    refine wp_kn k_117 rfl rfl ?_
    refine wp_pure k_117 rfl rfl ?_
    refine wp_mulN k_117 rfl ?_
    refine wp_pure k_117 rfl rfl ?_
    refine wp_addN k_117 rfl ?_
    refine wp_kn k_117 rfl rfl ?_
    refine wm_as 62 M k_117 rfl rfl (by decide) rfl (show (60 * a) + b < 3600 by omega) (fun h1 M1 => ?_)
    refine wp_vrt k_117 rfl rfl (K _ _ M1 (fun k hk => uA_ne hk) (fun x y hy => ?_))
    by_cases q : x = a ∧ y = b
    · rw [if_pos ⟨y2, q⟩, q.1, q.2]; exact uA_at
    · rw [if_neg (fun w => q w.2)]; exact uA_nn (by omega)
theorem m_shorten {h0 h : sm_H} {m : Nat} {g : Nat → Int32} {ar : Nat → Nat → Int32} {Q : Nat → Option Value → sm_H → Prop} (M : MS h0 h m g ar) {D : Nat → Nat → Option Nat} {a mm b : Nat} (ha : a < 60) (hm : mm < 60) (hb : b < 60) (h1 : ar 62 (60 * a + mm) = eO (D a mm)) (h2 : ar 62 (60 * mm + b) = eO (D mm b)) (h3 : ar 62 (60 * a + b) = eO (D a b)) (b1 : ∀ v, D a mm = some v → v < 60) (b2 : ∀ v, D mm b = some v → v < 60) (b3 : ∀ v, D a b = some v → v < 60) (K : ∀ h' ar', MS h0 h' m g ar' → (∀ k, k ≠ 62 → ar' k = ar k) → (∀ i, ar' 62 i = if i = 60 * a + b then eO (fwU D mm a b) else ar 62 i) → Q 0 none h') : sm_wp 118 0 [.ref m, .int (nI a), .int (nI mm), .int (nI b), jk, jk, jk] [] h Q := by
  have same : fwU D mm a b = D a b → ∀ i, ar 62 i = if i = 60 * a + b then eO (fwU D mm a b) else ar 62 i := by
    intro e i
    by_cases q : i = 60 * a + b
    · rw [if_pos q, q, e]; exact h3
    · rw [if_neg q]
  cases hx : D a mm with
  | none =>
    refine wp_pure k_118 rfl rfl ?_
    refine wm_ga 62 M k_118 rfl rfl rfl (by decide) ?_
    refine wp_kn k_118 rfl rfl ?_
    refine wp_pure k_118 rfl rfl ?_
    refine wp_mulN k_118 rfl ?_
    refine wp_pure k_118 rfl rfl ?_
    refine wp_addN k_118 rfl ?_
    refine wm_al 62 M k_118 rfl rfl (by decide) rfl (show (60 * a) + mm < 3600 by omega) (v := -1) (h1.trans (by rw [hx]; rfl)) ?_
    refine wp_pure k_118 rfl rfl ?_
    refine wp_pure k_118 rfl rfl ?_
    refine wm_ga 62 M k_118 rfl rfl rfl (by decide) ?_
    refine wp_kn k_118 rfl rfl ?_
    refine wp_pure k_118 rfl rfl ?_
    refine wp_mulN k_118 rfl ?_
    refine wp_pure k_118 rfl rfl ?_
    refine wp_addN k_118 rfl ?_
    refine wm_al 62 M k_118 rfl rfl (by decide) rfl (show (60 * mm) + b < 3600 by omega) rfl ?_
    refine wp_pure k_118 rfl rfl ?_
    refine wp_pure k_118 rfl rfl ?_
    refine wm_ga 62 M k_118 rfl rfl rfl (by decide) ?_
    refine wp_kn k_118 rfl rfl ?_
    refine wp_pure k_118 rfl rfl ?_
    refine wp_mulN k_118 rfl ?_
    refine wp_pure k_118 rfl rfl ?_
    refine wp_addN k_118 rfl ?_
    refine wm_al 62 M k_118 rfl rfl (by decide) rfl (show (60 * a) + b < 3600 by omega) rfl ?_
    refine wp_pure k_118 rfl rfl ?_
    refine wp_pure k_118 rfl rfl ?_
    refine wp_km k_118 rfl rfl ?_
    refine wp_br k_118 rfl rfl rfl rfl (fun _ => ?_) (fun z => absurd (rfl) z)
    exact wp_vrt k_118 rfl rfl (K _ _ M (fun _ _ => rfl) (same (by unfold fwU; rw [hx])))
  | some x =>
    have bx := b1 x hx
    cases hy : D mm b with
    | none =>
      refine wp_pure k_118 rfl rfl ?_
      refine wm_ga 62 M k_118 rfl rfl rfl (by decide) ?_
      refine wp_kn k_118 rfl rfl ?_
      refine wp_pure k_118 rfl rfl ?_
      refine wp_mulN k_118 rfl ?_
      refine wp_pure k_118 rfl rfl ?_
      refine wp_addN k_118 rfl ?_
      refine wm_al 62 M k_118 rfl rfl (by decide) rfl (show (60 * a) + mm < 3600 by omega) (v := nI x) (h1.trans (by rw [hx]; rfl)) ?_
      refine wp_pure k_118 rfl rfl ?_
      refine wp_pure k_118 rfl rfl ?_
      refine wm_ga 62 M k_118 rfl rfl rfl (by decide) ?_
      refine wp_kn k_118 rfl rfl ?_
      refine wp_pure k_118 rfl rfl ?_
      refine wp_mulN k_118 rfl ?_
      refine wp_pure k_118 rfl rfl ?_
      refine wp_addN k_118 rfl ?_
      refine wm_al 62 M k_118 rfl rfl (by decide) rfl (show (60 * mm) + b < 3600 by omega) (v := -1) (h2.trans (by rw [hy]; rfl)) ?_
      refine wp_pure k_118 rfl rfl ?_
      refine wp_pure k_118 rfl rfl ?_
      refine wm_ga 62 M k_118 rfl rfl rfl (by decide) ?_
      refine wp_kn k_118 rfl rfl ?_
      refine wp_pure k_118 rfl rfl ?_
      refine wp_mulN k_118 rfl ?_
      refine wp_pure k_118 rfl rfl ?_
      refine wp_addN k_118 rfl ?_
      refine wm_al 62 M k_118 rfl rfl (by decide) rfl (show (60 * a) + b < 3600 by omega) rfl ?_
      refine wp_pure k_118 rfl rfl ?_
      refine wp_pure k_118 rfl rfl ?_
      refine wp_km k_118 rfl rfl ?_
      refine wp_br k_118 rfl rfl rfl rfl (fun z => absurd z (nI_nm1 (by omega))) (fun _ => ?_)
      refine wp_pure k_118 rfl rfl ?_
      refine wp_km k_118 rfl rfl ?_
      refine wp_br k_118 rfl rfl rfl rfl (fun _ => ?_) (fun z => absurd (rfl) z)
      exact wp_vrt k_118 rfl rfl (K _ _ M (fun _ _ => rfl) (same (by unfold fwU; rw [hx, hy])))
    | some y =>
      have by_ := b2 y hy
      cases hz : D a b with
      | none =>
        refine wp_pure k_118 rfl rfl ?_
        refine wm_ga 62 M k_118 rfl rfl rfl (by decide) ?_
        refine wp_kn k_118 rfl rfl ?_
        refine wp_pure k_118 rfl rfl ?_
        refine wp_mulN k_118 rfl ?_
        refine wp_pure k_118 rfl rfl ?_
        refine wp_addN k_118 rfl ?_
        refine wm_al 62 M k_118 rfl rfl (by decide) rfl (show (60 * a) + mm < 3600 by omega) (v := nI x) (h1.trans (by rw [hx]; rfl)) ?_
        refine wp_pure k_118 rfl rfl ?_
        refine wp_pure k_118 rfl rfl ?_
        refine wm_ga 62 M k_118 rfl rfl rfl (by decide) ?_
        refine wp_kn k_118 rfl rfl ?_
        refine wp_pure k_118 rfl rfl ?_
        refine wp_mulN k_118 rfl ?_
        refine wp_pure k_118 rfl rfl ?_
        refine wp_addN k_118 rfl ?_
        refine wm_al 62 M k_118 rfl rfl (by decide) rfl (show (60 * mm) + b < 3600 by omega) (v := nI y) (h2.trans (by rw [hy]; rfl)) ?_
        refine wp_pure k_118 rfl rfl ?_
        refine wp_pure k_118 rfl rfl ?_
        refine wm_ga 62 M k_118 rfl rfl rfl (by decide) ?_
        refine wp_kn k_118 rfl rfl ?_
        refine wp_pure k_118 rfl rfl ?_
        refine wp_mulN k_118 rfl ?_
        refine wp_pure k_118 rfl rfl ?_
        refine wp_addN k_118 rfl ?_
        refine wm_al 62 M k_118 rfl rfl (by decide) rfl (show (60 * a) + b < 3600 by omega) (v := -1) (h3.trans (by rw [hz]; rfl)) ?_
        refine wp_pure k_118 rfl rfl ?_
        refine wp_pure k_118 rfl rfl ?_
        refine wp_km k_118 rfl rfl ?_
        refine wp_br k_118 rfl rfl rfl rfl (fun z => absurd z (nI_nm1 (by omega))) (fun _ => ?_)
        refine wp_pure k_118 rfl rfl ?_
        refine wp_km k_118 rfl rfl ?_
        refine wp_br k_118 rfl rfl rfl rfl (fun z => absurd z (nI_nm1 (by omega))) (fun _ => ?_)
        refine wp_pure k_118 rfl rfl ?_
        refine wp_km k_118 rfl rfl ?_
        refine wp_br k_118 rfl rfl rfl rfl (fun _ => ?_) (fun z => absurd (rfl) z)
        refine wp_pure k_118 rfl rfl ?_
        refine wm_ga 62 M k_118 rfl rfl rfl (by decide) ?_
        refine wp_kn k_118 rfl rfl ?_
        refine wp_pure k_118 rfl rfl ?_
        refine wp_mulN k_118 rfl ?_
        refine wp_pure k_118 rfl rfl ?_
        refine wp_addN k_118 rfl ?_
        refine wp_pure k_118 rfl rfl ?_
        refine wp_pure k_118 rfl rfl ?_
        refine wp_addN k_118 rfl ?_
        refine wm_as 62 M k_118 rfl rfl (by decide) rfl (show (60 * a) + b < 3600 by omega) (fun h1 M1 => ?_)
        refine wp_vrt k_118 rfl rfl (K _ _ M1 (fun k hk => uA_ne hk) (fun i => ?_))
        by_cases q : i = 60 * a + b
        · rw [if_pos q, q]
          have e : fwU D mm a b = some (x + y) := by unfold fwU; rw [hx, hy, hz]
          rw [e]
          exact uA_at
        · rw [if_neg q]; exact uA_nn q
      | some z =>
        have bz := b3 z hz
        refine wp_pure k_118 rfl rfl ?_
        refine wm_ga 62 M k_118 rfl rfl rfl (by decide) ?_
        refine wp_kn k_118 rfl rfl ?_
        refine wp_pure k_118 rfl rfl ?_
        refine wp_mulN k_118 rfl ?_
        refine wp_pure k_118 rfl rfl ?_
        refine wp_addN k_118 rfl ?_
        refine wm_al 62 M k_118 rfl rfl (by decide) rfl (show (60 * a) + mm < 3600 by omega) (v := nI x) (h1.trans (by rw [hx]; rfl)) ?_
        refine wp_pure k_118 rfl rfl ?_
        refine wp_pure k_118 rfl rfl ?_
        refine wm_ga 62 M k_118 rfl rfl rfl (by decide) ?_
        refine wp_kn k_118 rfl rfl ?_
        refine wp_pure k_118 rfl rfl ?_
        refine wp_mulN k_118 rfl ?_
        refine wp_pure k_118 rfl rfl ?_
        refine wp_addN k_118 rfl ?_
        refine wm_al 62 M k_118 rfl rfl (by decide) rfl (show (60 * mm) + b < 3600 by omega) (v := nI y) (h2.trans (by rw [hy]; rfl)) ?_
        refine wp_pure k_118 rfl rfl ?_
        refine wp_pure k_118 rfl rfl ?_
        refine wm_ga 62 M k_118 rfl rfl rfl (by decide) ?_
        refine wp_kn k_118 rfl rfl ?_
        refine wp_pure k_118 rfl rfl ?_
        refine wp_mulN k_118 rfl ?_
        refine wp_pure k_118 rfl rfl ?_
        refine wp_addN k_118 rfl ?_
        refine wm_al 62 M k_118 rfl rfl (by decide) rfl (show (60 * a) + b < 3600 by omega) (v := nI z) (h3.trans (by rw [hz]; rfl)) ?_
        refine wp_pure k_118 rfl rfl ?_
        refine wp_pure k_118 rfl rfl ?_
        refine wp_km k_118 rfl rfl ?_
        refine wp_br k_118 rfl rfl rfl rfl (fun z => absurd z (nI_nm1 (by omega))) (fun _ => ?_)
        refine wp_pure k_118 rfl rfl ?_
        refine wp_km k_118 rfl rfl ?_
        refine wp_br k_118 rfl rfl rfl rfl (fun z => absurd z (nI_nm1 (by omega))) (fun _ => ?_)
        refine wp_pure k_118 rfl rfl ?_
        refine wp_km k_118 rfl rfl ?_
        refine wp_br k_118 rfl rfl rfl rfl (fun z => absurd z (nI_nm1 (by omega))) (fun _ => ?_)
        refine wp_pure k_118 rfl rfl ?_
        refine wp_pure k_118 rfl rfl ?_
        refine wp_addN k_118 rfl ?_
        refine wp_pure k_118 rfl rfl ?_
        refine wp_br k_118 rfl rfl rfl rfl (fun (z64 : nI z ≤ nI (x + y)) => ?_) (fun (z64 : ¬ (nI z ≤ nI (x + y))) => ?_)
        · have y64 : z ≤ x + y := yLe (by omega) (by omega) z64
          exact wp_vrt k_118 rfl rfl (K _ _ M (fun _ _ => rfl) (same (by unfold fwU; rw [hx, hy, hz]; exact if_neg (by omega))))
        · have y64 : x + y < z := yNLe (by omega) (by omega) z64
          refine wp_pure k_118 rfl rfl ?_
          refine wm_ga 62 M k_118 rfl rfl rfl (by decide) ?_
          refine wp_kn k_118 rfl rfl ?_
          refine wp_pure k_118 rfl rfl ?_
          refine wp_mulN k_118 rfl ?_
          refine wp_pure k_118 rfl rfl ?_
          refine wp_addN k_118 rfl ?_
          refine wp_pure k_118 rfl rfl ?_
          refine wp_pure k_118 rfl rfl ?_
          refine wp_addN k_118 rfl ?_
          refine wm_as 62 M k_118 rfl rfl (by decide) rfl (show (60 * a) + b < 3600 by omega) (fun h1 M1 => ?_)
          refine wp_vrt k_118 rfl rfl (K _ _ M1 (fun k hk => uA_ne hk) (fun i => ?_))
          by_cases q : i = 60 * a + b
          · rw [if_pos q, q]
            have e : fwU D mm a b = some (x + y) := by unfold fwU; rw [hx, hy, hz]; exact if_pos (by omega)
            rw [e]
            exact uA_at
          · rw [if_neg q]; exact uA_nn q
/-- the table, as it is encoded -/
def FT (f : Nat → Int32) (n : Nat) (D : Nat → Nat → Option Nat) : Prop := ∀ a b, a < n → b < n → f (60 * a + b) = eO (D a b)
theorem D0_eq {X Y : Nat → Nat → Prop} (h : ∀ x y, x ≠ y → (Y x y ↔ X x y)) : D0 Y = D0 X := by
  funext a b
  unfold D0
  by_cases e : a = b
  · rw [if_pos e, if_pos e]
  · rw [if_neg e, if_neg e]
    by_cases q : X a b
    · rw [if_pos q, if_pos ((h a b e).mpr q)]
    · rw [if_neg q, if_neg (fun w => q ((h a b e).mp w))]
theorem FT.step {f f' : Nat → Int32} {n a b : Nat} {X Y : Nat → Nat → Prop} (hn : n ≤ 60) (h : FT f n (D0 X)) (h' : ∀ x y, y < 60 → f' (60 * x + y) = if a ≠ b ∧ x = a ∧ y = b then nI 1 else f (60 * x + y)) (hY : ∀ x y, x ≠ y → (Y x y ↔ X x y ∨ (x = a ∧ y = b))) : FT f' n (D0 Y) := by
  rw [D0_eq hY]
  intro x y hx hy
  rw [h' x y (by omega)]
  by_cases q : a ≠ b ∧ x = a ∧ y = b
  · rw [if_pos q]
    unfold D0
    rw [if_neg (by rw [q.2.1, q.2.2]; exact q.1), if_pos (Or.inr q.2)]
    rfl
  · rw [if_neg q, h x y hx hy]
    unfold D0
    by_cases e : x = y
    · rw [if_pos e, if_pos e]
    · rw [if_neg e, if_neg e]
      by_cases w : X x y
      · rw [if_pos w, if_pos (Or.inl w)]
      · rw [if_neg w, if_neg (fun z => z.elim w (fun z => q ⟨by rw [← z.1, ← z.2]; exact e, z⟩))]
theorem if_z {α : Type} {p q : Prop} [Decidable p] [Decidable q] (h : p ↔ q) {a b : α} : (if p then a else b) = if q then a else b := by
  by_cases w : p
  · rw [if_pos w, if_pos (h.mp w)]
  · rw [if_neg w, if_neg (fun z => w (h.mpr z))]
theorem m_fw {h0 h : sm_H} {m : Nat} {g : Nat → Int32} {ar : Nat → Nat → Int32} {Q : Nat → Option Value → sm_H → Prop} (M : MS h0 h m g ar) {E : Ed} {x3 x4 : Value} (hW : EdW E) (hn : E.1.length ≤ 60) (hF : FT (ar 62) E.1.length (D0 (egE E))) (K : ∀ h' ar', MS h0 h' m g ar' → (∀ k, k ≠ 62 → ar' k = ar k) → FarE E (fun a b => ar' 62 (60 * a + b)) → Q 0 none h') : sm_wp 116 197 [.ref m, .int (nI E.1.length), .int (nI 0), x3, x4] [] h Q := by
  have he := fun a b => @egE_lt E hW a b
  refine dn (n := E.1.length) (P := fun i => ∀ (x3 : Value), ∀ (x4 : Value), ∀ (h1 : sm_H) (ar1 : Nat → Nat → Int32), MS h0 h1 m g ar1 → ((∀ k, k ≠ 62 → ar1 k = ar k) ∧ ∃ D, FW (egE E) E.1.length i D ∧ FT (ar1 62) E.1.length D) → sm_wp 116 197 [.ref m, .int (nI (E.1.length)), .int (nI i), x3, x4] [] h1 Q) ?_ ?_ 0 (Nat.zero_le _) (x3) (x4) _ _ M (⟨fun _ _ => rfl, _, FW0 hW, hF⟩)
  · intro x3 x4 h1 ar1 M1 hA
    obtain ⟨fA, D, FWD, fT⟩ := hA
    refine wp_pure k_116 rfl rfl ?_
    refine wp_pure k_116 rfl rfl ?_
    refine wp_br k_116 rfl rfl rfl rfl (fun _ => ?_) (fun z => absurd (Int32.le_refl _) z)
    exact wp_vrt k_116 rfl rfl (K _ _ M1 fA (FW_Far hW hn FWD (fun a b ha hb => fT a b ha hb)))
  · intro i hi0 ih0 x3 x4 h1 ar1 M1 hA
    obtain ⟨fA, D, FWD, fT⟩ := hA
    have hmm : D i i = some 0 := FWD.1 i hi0
    refine wp_pure k_116 rfl rfl ?_
    refine wp_pure k_116 rfl rfl ?_
    refine wp_br k_116 rfl rfl rfl rfl (fun z => absurd z (nI_ge hi0 (by omega))) (fun _ => ?_)
    refine wp_kn k_116 rfl rfl ?_
    refine wp_pure k_116 rfl rfl ?_
    refine dn (n := E.1.length) (P := fun a => ∀ (x4 : Value), ∀ (h2 : sm_H) (ar2 : Nat → Nat → Int32), MS h0 h2 m g ar2 → ((∀ k, k ≠ 62 → ar2 k = ar k) ∧ ∀ x y, x < E.1.length → y < E.1.length → ar2 62 (60 * x + y) = eO (if x < a then fwU D i x y else D x y)) → sm_wp 116 204 [.ref m, .int (nI (E.1.length)), .int (nI i), .int (nI a), x4] [] h2 Q) ?_ ?_ 0 (Nat.zero_le _) (x4) _ _ M1 (⟨fA, fun x y hx hy => by rw [if_neg (Nat.not_lt_zero _)]; exact fT x y hx hy⟩)
    · intro x4 h2 ar2 M2 hB
      obtain ⟨fB, fT1⟩ := hB
      refine wp_pure k_116 rfl rfl ?_
      refine wp_pure k_116 rfl rfl ?_
      refine wp_br k_116 rfl rfl rfl rfl (fun _ => ?_) (fun z => absurd (Int32.le_refl _) z)
      refine wp_inc k_116 rfl rfl rfl ?_
      refine wp_br k_116 rfl rfl rfl rfl (fun _ => ?_) (fun z => absurd trivial z)
      exact ih0 (.int (nI (E.1.length))) (x4) _ _ M2 ⟨fB, fwU D i, FWD.step hi0, fun x y hx hy => by rw [fT1 x y hx hy, if_pos hx]⟩
    · intro a ha0 ih1 x4 h2 ar2 M2 hB
      obtain ⟨fB, fT1⟩ := hB
      refine wp_pure k_116 rfl rfl ?_
      refine wp_pure k_116 rfl rfl ?_
      refine wp_br k_116 rfl rfl rfl rfl (fun z => absurd z (nI_ge ha0 (by omega))) (fun _ => ?_)
      refine wp_kn k_116 rfl rfl ?_
      refine wp_pure k_116 rfl rfl ?_
      refine dn (n := E.1.length) (P := fun b => ∀ (h3 : sm_H) (ar3 : Nat → Nat → Int32), MS h0 h3 m g ar3 → ((∀ k, k ≠ 62 → ar3 k = ar k) ∧ ∀ x y, x < E.1.length → y < E.1.length → ar3 62 (60 * x + y) = eO (if x < a ∨ (x = a ∧ y < b) then fwU D i x y else D x y)) → sm_wp 116 212 [.ref m, .int (nI (E.1.length)), .int (nI i), .int (nI a), .int (nI b)] [] h3 Q) ?_ ?_ 0 (Nat.zero_le _) _ _ M2 (⟨fB, fun x y hx hy => (fT1 x y hx hy).trans (congrArg eO (if_z ⟨fun q => Or.inl q, fun q => by omega⟩))⟩)
      · intro h3 ar3 M3 hD
        obtain ⟨fC, fT2⟩ := hD
        refine wp_pure k_116 rfl rfl ?_
        refine wp_pure k_116 rfl rfl ?_
        refine wp_br k_116 rfl rfl rfl rfl (fun _ => ?_) (fun z => absurd (Int32.le_refl _) z)
        refine wp_inc k_116 rfl rfl rfl ?_
        refine wp_br k_116 rfl rfl rfl rfl (fun _ => ?_) (fun z => absurd trivial z)
        refine ih1 (.int (nI (E.1.length))) _ _ M3 ⟨fC, fun x y hx hy => ?_⟩
        rw [fT2 x y hx hy]
        by_cases q : x < a ∨ (x = a ∧ y < E.1.length)
        · rw [if_pos q, if_pos (by omega)]
        · rw [if_neg q, if_neg (by omega)]
      · intro b hb0 ih2 h3 ar3 M3 hD
        obtain ⟨fC, fT2⟩ := hD
        have r1 : ar3 62 (60 * a + i) = eO (D a i) := by
          rw [fT2 a i ha0 hi0]
          split
          · rw [fwU_row hmm]
          · rfl
        have r2 : ar3 62 (60 * i + b) = eO (D i b) := by
          rw [fT2 i b hi0 hb0]
          split
          · rw [fwU_col hmm]
          · rfl
        have r3 : ar3 62 (60 * a + b) = eO (D a b) := by rw [fT2 a b ha0 hb0, if_neg (by omega)]
        refine wp_pure k_116 rfl rfl ?_
        refine wp_pure k_116 rfl rfl ?_
        refine wp_br k_116 rfl rfl rfl rfl (fun z => absurd z (nI_ge hb0 (by omega))) (fun _ => ?_)
        refine wp_pure k_116 rfl rfl ?_
        refine wp_pure k_116 rfl rfl ?_
        refine wp_pure k_116 rfl rfl ?_
        refine wp_pure k_116 rfl rfl ?_
        refine wm_iv k_116 rfl rfl M3 [.int (nI a), .int (nI i), .int (nI b)] rfl (r := []) (Nat.le_of_ble_eq_true rfl) (Nat.le_of_ble_eq_true rfl) rfl ?_
        refine m_shorten M3 (D := D) (a := a) (mm := i) (b := b) (by omega) (by omega) (by omega) r1 r2 r3 (fun v q => by have := FWD.lt (by omega) he (a := a) (b := i) (by omega) (by omega) q; omega) (fun v q => by have := FWD.lt (by omega) he (a := i) (b := b) (by omega) (by omega) q; omega) (fun v q => by have := FWD.lt (by omega) he (a := a) (b := b) (by omega) (by omega) q; omega) (fun h4 ar4 M4 q1 q2 => ⟨rfl, ?_⟩)
        refine wp_inc k_116 rfl rfl rfl ?_
        refine wp_br k_116 rfl rfl rfl rfl (fun _ => ?_) (fun z => absurd trivial z)
        refine ih2 _ _ M4 ⟨fun k hk => (q1 k hk).trans (fC k hk), fun x y hx hy => ?_⟩
        rw [q2 (60 * x + y)]
        by_cases q : x = a ∧ y = b
        · rw [if_pos (by rw [q.1, q.2]), if_pos (by omega), q.1, q.2]
        · rw [if_neg (by omega), fT2 x y hx hy]
          by_cases w : x < a ∨ (x = a ∧ y < b)
          · rw [if_pos w, if_pos (by omega)]
          · rw [if_neg w, if_neg (by omega)]
def wsX (ws : List (Nat × Nat × Bool)) (i x y : Nat) : Prop := ∃ j, j < i ∧ ((wA ws j = x ∧ wB ws j = y) ∨ (wT ws j = true ∧ wB ws j = x ∧ wA ws j = y))
def lfX (ps : List Pl) (k x y : Nat) : Prop := ∃ j, j < k ∧ x ∈ stP ps j ∧ y ∈ stP ps j
def sgX (l : List Nat) (i x y : Nat) : Prop := ∃ i', i' < i ∧ x = l.getD i' 0 ∧ y ∈ l
theorem wsX_succ {ws : List (Nat × Nat × Bool)} {i x y : Nat} : wsX ws (i + 1) x y ↔ wsX ws i x y ∨ (x = wA ws i ∧ y = wB ws i) ∨ (wT ws i = true ∧ x = wB ws i ∧ y = wA ws i) := by
  constructor
  · rintro ⟨j, h1, h2⟩
    by_cases e : j = i
    · subst e
      rcases h2 with ⟨a, b⟩ | ⟨t, a, b⟩
      · exact Or.inr (Or.inl ⟨a.symm, b.symm⟩)
      · exact Or.inr (Or.inr ⟨t, a.symm, b.symm⟩)
    · exact Or.inl ⟨j, by omega, h2⟩
  · rintro (⟨j, h1, h2⟩ | ⟨a, b⟩ | ⟨t, a, b⟩)
    · exact ⟨j, by omega, h2⟩
    · exact ⟨i, by omega, Or.inl ⟨a.symm, b.symm⟩⟩
    · exact ⟨i, by omega, Or.inr ⟨t, a.symm, b.symm⟩⟩
theorem sgX_all {l : List Nat} {x y : Nat} : sgX l l.length x y ↔ x ∈ l ∧ y ∈ l := by
  constructor
  · rintro ⟨i, h1, h2, h3⟩; exact ⟨h2 ▸ s_mem h1, h3⟩
  · rintro ⟨h1, h2⟩
    obtain ⟨i, q1, q2⟩ := s_ex h1
    exact ⟨i, q1, q2.symm, h2⟩
theorem lfX_succ {ps : List Pl} {k x y : Nat} : lfX ps (k + 1) x y ↔ lfX ps k x y ∨ (x ∈ stP ps k ∧ y ∈ stP ps k) := by
  constructor
  · rintro ⟨j, h1, h2⟩
    by_cases e : j = k
    · subst e; exact Or.inr h2
    · exact Or.inl ⟨j, by omega, h2⟩
  · rintro (⟨j, h1, h2⟩ | h)
    · exact ⟨j, by omega, h2⟩
    · exact ⟨k, by omega, h⟩
theorem eg_sets {E : Ed} (hW : EdW E) {x y : Nat} (hne : x ≠ y) : egE E x y ↔ wsX E.2.1 E.2.1.length x y ∨ lfX E.1 E.1.length x y := by
  constructor
  · rintro ⟨_, ⟨t, h⟩ | h | ⟨k, h1, h2, h3⟩⟩
    · obtain ⟨i, a, b, c, d⟩ := w_ex h
      exact Or.inl ⟨i, a, Or.inl ⟨b, c⟩⟩
    · obtain ⟨i, a, b, c, d⟩ := w_ex h
      exact Or.inl ⟨i, a, Or.inr ⟨d, c, b⟩⟩
    · exact Or.inr ⟨k, stP_lt h2, h2, h3⟩
  · rintro (⟨j, h1, ⟨a, b⟩ | ⟨t, a, b⟩⟩ | ⟨j, h1, h2, h3⟩)
    · exact ⟨hne, Or.inl ⟨wT E.2.1 j, by rw [← a, ← b]; exact w_mem h1⟩⟩
    · refine ⟨hne, Or.inr (Or.inl ?_)⟩
      have := w_mem h1
      rw [a, b, t] at this
      exact this
    · refine ⟨hne, Or.inr (Or.inr ⟨j, ?_, h2, h3⟩)⟩
      apply Classical.byContradiction
      intro q
      rw [hW.st0 h1 q] at h2
      exact absurd h2 List.not_mem_nil
theorem m_measure {h0 h : sm_H} {m : Nat} {g : Nat → Int32} {ar : Nat → Nat → Int32} {Q : Nat → Option Value → sm_H → Prop} {E : Ed} {e : Nat} (M : MS h0 h m g ar) (V : MV g ar E e) (hW : EdW E) (K : ∀ h' ar', MS h0 h' m g ar' → (∀ k, k ≠ 62 → ar' k = ar k) → FarE E (fun a b => ar' 62 (60 * a + b)) → Q 0 none h') : sm_wp 116 0 [.ref m, jk, jk, jk, jk] [] h Q := by
  have he := V.he
  have hn := V.hn
  have hl := V.hl
  refine wp_pure k_116 rfl rfl ?_
  refine wm_iv k_116 rfl rfl M [] rfl (r := []) (Nat.le_of_ble_eq_true rfl) (Nat.le_of_ble_eq_true rfl) rfl ?_
  refine wp_pure k_109 rfl rfl ?_
  refine wm_ga 4 M k_109 rfl rfl rfl (by decide) ?_
  refine wp_pure k_109 rfl rfl ?_
  refine wm_gi 3 M k_109 rfl rfl rfl rfl V.h3 ?_
  refine wm_al 4 M k_109 rfl rfl (by decide) rfl (show e < 8 by omega) (v := nI E.1.length) V.n4 ?_
  refine wp_irt k_109 rfl rfl rfl ⟨rfl, ?_⟩
  refine wp_pure k_116 rfl rfl ?_
  refine wp_kn k_116 rfl rfl ?_
  refine wp_pure k_116 rfl rfl ?_
  refine dn (n := E.1.length) (P := fun i => ∀ (x3 : Value), ∀ (h1 : sm_H) (ar1 : Nat → Nat → Int32), MS h0 h1 m g ar1 → ((∀ k, k ≠ 62 → ar1 k = ar k) ∧ ∀ x y, x < i → y < E.1.length → ar1 62 (60 * x + y) = eO (D0 (fun _ _ => False) x y)) → sm_wp 116 7 [.ref m, .int (nI E.1.length), .int (nI i), x3, jk] [] h1 Q) ?_ ?_ 0 (Nat.zero_le _) (jk) _ _ M (⟨fun _ _ => rfl, fun x y hx => absurd hx (Nat.not_lt_zero x)⟩)
  · intro x3 h1 ar1 M1 hA
    have V_ := V.same (g' := g) (ar' := ar1) ⟨rfl, rfl, rfl⟩ (fun k hk => hA.1 k (by omega))
    refine wp_pure k_116 rfl rfl ?_
    refine wp_pure k_116 rfl rfl ?_
    refine wp_br k_116 rfl rfl rfl rfl (fun _ => ?_) (fun z => absurd (Int32.le_refl _) z)
    refine wp_kn k_116 rfl rfl ?_
    refine wp_pure k_116 rfl rfl ?_
    refine dn (n := E.2.1.length) (P := fun i => ∀ (h2 : sm_H) (ar2 : Nat → Nat → Int32), MS h0 h2 m g ar2 → ((∀ k, k ≠ 62 → ar2 k = ar k) ∧ FT (ar2 62) E.1.length (D0 (wsX E.2.1 i))) → sm_wp 116 54 [.ref m, .int (nI E.1.length), .int (nI i), x3, jk] [] h2 Q) ?_ ?_ 0 (Nat.zero_le _) _ _ M1 (⟨hA.1, by rw [D0_eq (X := fun _ _ => False) (fun x y _ => ⟨fun ⟨j, hj, _⟩ => absurd hj (Nat.not_lt_zero j), False.elim⟩)]; exact hA.2⟩)
    · intro h2 ar2 M2 hC
      have V_ := V.same (g' := g) (ar' := ar2) ⟨rfl, rfl, rfl⟩ (fun k hk => hC.1 k (by omega))
      refine wp_pure k_116 rfl rfl ?_
      refine wp_pure k_116 rfl rfl ?_
      refine wm_gi 14 M2 k_116 rfl rfl rfl rfl V_.h14 ?_
      refine wp_br k_116 rfl rfl rfl rfl (fun _ => ?_) (fun z => absurd (Int32.le_refl _) z)
      refine wp_kn k_116 rfl rfl ?_
      refine wp_pure k_116 rfl rfl ?_
      refine dn (n := E.1.length) (P := fun k => ∀ (x3 : Value), ∀ (x4 : Value), ∀ (h3 : sm_H) (ar3 : Nat → Nat → Int32), MS h0 h3 m g ar3 → ((∀ k, k ≠ 62 → ar3 k = ar k) ∧ FT (ar3 62) E.1.length (D0 (fun x y => wsX E.2.1 E.2.1.length x y ∨ lfX E.1 k x y))) → sm_wp 116 111 [.ref m, .int (nI E.1.length), .int (nI k), x3, x4] [] h3 Q) ?_ ?_ 0 (Nat.zero_le _) (x3) (jk) _ _ M2 (⟨hC.1, by rw [D0_eq (X := wsX E.2.1 E.2.1.length) (fun x y _ => ⟨fun q => q.elim id (fun ⟨j, hj, _⟩ => absurd hj (Nat.not_lt_zero j)), Or.inl⟩)]; exact hC.2⟩)
      · intro x3 x4 h3 ar3 M3 hD
        
        refine wp_pure k_116 rfl rfl ?_
        refine wp_pure k_116 rfl rfl ?_
        refine wp_br k_116 rfl rfl rfl rfl (fun _ => ?_) (fun z => absurd (Int32.le_refl _) z)
        refine wp_kn k_116 rfl rfl ?_
        refine wp_pure k_116 rfl rfl ?_
        refine m_fw M3 hW hn ?_ (fun hX arX MX fX FX => K hX arX MX (fun k hk => (fX k hk).trans (hD.1 k hk)) FX)
        rw [D0_eq (X := fun x y => wsX E.2.1 E.2.1.length x y ∨ lfX E.1 E.1.length x y) (fun x y hxy => eg_sets hW hxy)]
        exact hD.2
      · intro k hk0 ih0 x3 x4 h3 ar3 M3 hD
        have V_ := V.same (g' := g) (ar' := ar3) ⟨rfl, rfl, rfl⟩ (fun k hk => hD.1 k (by omega))
        have b4 := V.s4 k
        refine wp_pure k_116 rfl rfl ?_
        refine wp_pure k_116 rfl rfl ?_
        refine wp_br k_116 rfl rfl rfl rfl (fun z => absurd z (nI_ge hk0 (by omega))) (fun _ => ?_)
        refine wp_kn k_116 rfl rfl ?_
        refine wp_pure k_116 rfl rfl ?_
        refine dn (n := (stP E.1 k).length) (P := fun i => ∀ (x4 : Value), ∀ (h4 : sm_H) (ar4 : Nat → Nat → Int32), MS h0 h4 m g ar4 → ((∀ k, k ≠ 62 → ar4 k = ar k) ∧ FT (ar4 62) E.1.length (D0 (fun x y => wsX E.2.1 E.2.1.length x y ∨ lfX E.1 k x y ∨ sgX (stP E.1 k) i x y))) → sm_wp 116 118 [.ref m, .int (nI E.1.length), .int (nI k), .int (nI i), x4] [] h4 Q) ?_ ?_ 0 (Nat.zero_le _) (x4) _ _ M3 (⟨hD.1, by rw [D0_eq (X := fun x y => wsX E.2.1 E.2.1.length x y ∨ lfX E.1 k x y) (fun x y _ => ⟨fun q => q.elim Or.inl (fun q => q.elim Or.inr (fun ⟨j, hj, _⟩ => absurd hj (Nat.not_lt_zero j))), fun q => q.elim Or.inl (fun q => Or.inr (Or.inl q))⟩)]; exact hD.2⟩)
        · intro x4 h4 ar4 M4 hF
          have V_ := V.same (g' := g) (ar' := ar4) ⟨rfl, rfl, rfl⟩ (fun k hk => hF.1 k (by omega))
          refine wp_pure k_116 rfl rfl ?_
          refine wp_pure k_116 rfl rfl ?_
          refine wm_ga 21 M4 k_116 rfl rfl rfl (by decide) ?_
          refine wp_pure k_116 rfl rfl ?_
          refine wm_al 21 M4 k_116 rfl rfl (by decide) rfl (show k < 60 by omega) (v := nI (stP E.1 k).length) (V_.sc k (by omega)) ?_
          refine wp_br k_116 rfl rfl rfl rfl (fun _ => ?_) (fun z => absurd (Int32.le_refl _) z)
          refine wp_inc k_116 rfl rfl rfl ?_
          refine wp_br k_116 rfl rfl rfl rfl (fun _ => ?_) (fun z => absurd trivial z)
          refine ih0 (.int (nI ((stP E.1 k).length))) (x4) _ _ M4 ⟨hF.1, ?_⟩
          rw [D0_eq (X := fun x y => wsX E.2.1 E.2.1.length x y ∨ lfX E.1 k x y ∨ sgX (stP E.1 k) (stP E.1 k).length x y) (fun x y _ => ?_)]
          · exact hF.2
          · rw [lfX_succ, ← sgX_all]
        · intro i hi0 ih1 x4 h4 ar4 M4 hF
          have V_ := V.same (g' := g) (ar' := ar4) ⟨rfl, rfl, rfl⟩ (fun k hk => hF.1 k (by omega))
          have h6 : atP E.1 1 k = nI 6 := by
            apply Classical.byContradiction
            intro q
            rw [hW.st0 hk0 q] at hi0
            exact absurd hi0 (Nat.not_lt_zero _)
          obtain ⟨kd_, _, _, _, _, _, a1_, _, a3_, _, _, _, _, _, _, _, _, _, _, _, _, _, _, b9_⟩ := hW.pl hk0
          have b6_ := (b9_ (nI6 a1_ (by omega) (a3_.symm.trans h6))).2.2.2
          refine wp_pure k_116 rfl rfl ?_
          refine wp_pure k_116 rfl rfl ?_
          refine wm_ga 21 M4 k_116 rfl rfl rfl (by decide) ?_
          refine wp_pure k_116 rfl rfl ?_
          refine wm_al 21 M4 k_116 rfl rfl (by decide) rfl (show k < 60 by omega) (v := nI (stP E.1 k).length) (V_.sc k (by omega)) ?_
          refine wp_br k_116 rfl rfl rfl rfl (fun z => absurd z (nI_ge hi0 (by omega))) (fun _ => ?_)
          refine wp_pure k_116 rfl rfl ?_
          refine wp_pure k_116 rfl rfl ?_
          refine wm_iv k_116 rfl rfl M4 [.int (nI k)] rfl (r := []) (Nat.le_of_ble_eq_true rfl) (Nat.le_of_ble_eq_true rfl) rfl ?_
          refine wp_pure k_112 rfl rfl ?_
          refine wm_ga 5 M4 k_112 rfl rfl rfl (by decide) ?_
          refine wp_pure k_112 rfl rfl ?_
          refine wm_iv k_112 rfl rfl M4 [] rfl (r := [.ref (m + mo 5)]) (Nat.le_of_ble_eq_true rfl) (Nat.le_of_ble_eq_true rfl) rfl ?_
          refine wp_kn k_110 rfl rfl ?_
          refine wp_pure k_110 rfl rfl ?_
          refine wm_gi 3 M4 k_110 rfl rfl rfl rfl V_.h3 ?_
          refine wp_mulN k_110 rfl ?_
          refine wp_irt k_110 rfl rfl rfl ⟨rfl, ?_⟩
          refine wp_pure k_112 rfl rfl ?_
          refine wp_addN k_112 rfl ?_
          refine wm_al 5 M4 k_112 rfl rfl (by decide) rfl (show (60 * e) + k < 480 by omega) (v := atP E.1 1 k) (V_.p5 k (by omega)) ?_
          refine wp_irt k_112 rfl rfl rfl ⟨rfl, ?_⟩
          refine wp_kn k_116 rfl rfl ?_
          refine wp_br k_116 rfl rfl rfl rfl (fun z => absurd z (fun q => q h6)) (fun _ => ?_)
          refine wp_kn k_116 rfl rfl ?_
          refine wp_pure k_116 rfl rfl ?_
          refine dn (n := (stP E.1 k).length) (P := fun j => ∀ (h5 : sm_H) (ar5 : Nat → Nat → Int32), MS h0 h5 m g ar5 → ((∀ k, k ≠ 62 → ar5 k = ar k) ∧ FT (ar5 62) E.1.length (D0 (fun x y => wsX E.2.1 E.2.1.length x y ∨ lfX E.1 k x y ∨ sgX (stP E.1 k) i x y ∨ ∃ j', j' < j ∧ x = (stP E.1 k).getD i 0 ∧ y = (stP E.1 k).getD j' 0))) → sm_wp 116 141 [.ref m, .int (nI E.1.length), .int (nI k), .int (nI i), .int (nI j)] [] h5 Q) ?_ ?_ 0 (Nat.zero_le _) _ _ M4 (⟨hF.1, by rw [D0_eq (X := fun x y => wsX E.2.1 E.2.1.length x y ∨ lfX E.1 k x y ∨ sgX (stP E.1 k) i x y) (fun x y _ => ⟨fun q => q.elim Or.inl (fun q => q.elim (fun w => Or.inr (Or.inl w)) (fun q => q.elim (fun w => Or.inr (Or.inr w)) (fun ⟨j, hj, _⟩ => absurd hj (Nat.not_lt_zero j)))), fun q => q.elim Or.inl (fun q => q.elim (fun w => Or.inr (Or.inl w)) (fun w => Or.inr (Or.inr (Or.inl w))))⟩)]; exact hF.2⟩)
          · intro h5 ar5 M5 hG
            have V_ := V.same (g' := g) (ar' := ar5) ⟨rfl, rfl, rfl⟩ (fun k hk => hG.1 k (by omega))
            refine wp_pure k_116 rfl rfl ?_
            refine wp_pure k_116 rfl rfl ?_
            refine wm_ga 21 M5 k_116 rfl rfl rfl (by decide) ?_
            refine wp_pure k_116 rfl rfl ?_
            refine wm_al 21 M5 k_116 rfl rfl (by decide) rfl (show k < 60 by omega) (v := nI (stP E.1 k).length) (V_.sc k (by omega)) ?_
            refine wp_br k_116 rfl rfl rfl rfl (fun _ => ?_) (fun z => absurd (Int32.le_refl _) z)
            refine wp_inc k_116 rfl rfl rfl ?_
            refine wp_br k_116 rfl rfl rfl rfl (fun _ => ?_) (fun z => absurd trivial z)
            refine ih1 (.int (nI ((stP E.1 k).length))) _ _ M5 ⟨hG.1, ?_⟩
            rw [D0_eq (X := fun x y => wsX E.2.1 E.2.1.length x y ∨ lfX E.1 k x y ∨ sgX (stP E.1 k) i x y ∨ ∃ j', j' < (stP E.1 k).length ∧ x = (stP E.1 k).getD i 0 ∧ y = (stP E.1 k).getD j' 0) (fun x y _ => ?_)]
            · exact hG.2
            · have e : sgX (stP E.1 k) (i + 1) x y ↔ sgX (stP E.1 k) i x y ∨ ∃ j', j' < (stP E.1 k).length ∧ x = (stP E.1 k).getD i 0 ∧ y = (stP E.1 k).getD j' 0 := by
                constructor
                · rintro ⟨i', h1, h2, h3⟩
                  by_cases e : i' = i
                  · subst e
                    obtain ⟨j', q1, q2⟩ := s_ex h3
                    exact Or.inr ⟨j', q1, h2, q2.symm⟩
                  · exact Or.inl ⟨i', by omega, h2, h3⟩
                · rintro (⟨i', h1, h2, h3⟩ | ⟨j', h1, h2, h3⟩)
                  · exact ⟨i', by omega, h2, h3⟩
                  · exact ⟨i, by omega, h2, h3 ▸ s_mem h1⟩
              rw [e]
          · intro j hj0 ih2 h5 ar5 M5 hG
            have V_ := V.same (g' := g) (ar' := ar5) ⟨rfl, rfl, rfl⟩ (fun k hk => hG.1 k (by omega))
            have bs1 := (b6_ _ (s_mem hi0)).1
            have bs2 := (b6_ _ (s_mem hj0)).1
            refine wp_pure k_116 rfl rfl ?_
            refine wp_pure k_116 rfl rfl ?_
            refine wm_ga 21 M5 k_116 rfl rfl rfl (by decide) ?_
            refine wp_pure k_116 rfl rfl ?_
            refine wm_al 21 M5 k_116 rfl rfl (by decide) rfl (show k < 60 by omega) (v := nI (stP E.1 k).length) (V_.sc k (by omega)) ?_
            refine wp_br k_116 rfl rfl rfl rfl (fun z => absurd z (nI_ge hj0 (by omega))) (fun _ => ?_)
            refine wp_pure k_116 rfl rfl ?_
            refine wp_pure k_116 rfl rfl ?_
            refine wm_ga 22 M5 k_116 rfl rfl rfl (by decide) ?_
            refine wp_kn k_116 rfl rfl ?_
            refine wp_pure k_116 rfl rfl ?_
            refine wp_mulN k_116 rfl ?_
            refine wp_pure k_116 rfl rfl ?_
            refine wp_addN k_116 rfl ?_
            refine wm_al 22 M5 k_116 rfl rfl (by decide) rfl (show (4 * k) + i < 240 by omega) (v := nI ((stP E.1 k).getD i 0)) (V_.sv k (by omega) i (by omega)) ?_
            refine wp_pure k_116 rfl rfl ?_
            refine wm_ga 22 M5 k_116 rfl rfl rfl (by decide) ?_
            refine wp_kn k_116 rfl rfl ?_
            refine wp_pure k_116 rfl rfl ?_
            refine wp_mulN k_116 rfl ?_
            refine wp_pure k_116 rfl rfl ?_
            refine wp_addN k_116 rfl ?_
            refine wm_al 22 M5 k_116 rfl rfl (by decide) rfl (show (4 * k) + j < 240 by omega) (v := nI ((stP E.1 k).getD j 0)) (V_.sv k (by omega) j (by omega)) ?_
            refine wm_iv k_116 rfl rfl M5 [.int (nI ((stP E.1 k).getD i 0)), .int (nI ((stP E.1 k).getD j 0))] rfl (r := []) (Nat.le_of_ble_eq_true rfl) (Nat.le_of_ble_eq_true rfl) rfl ?_
            refine m_step M5 (by omega) (by omega) (fun h6 ar6 M6 p6 s6 => ⟨rfl, ?_⟩)
            have V6 := V_.same (g' := g) (ar' := ar6) ⟨rfl, rfl, rfl⟩ (fun k hk => p6 k (by omega))
            have pz116 := p6
            have sz116 := s6
            refine wp_inc k_116 rfl rfl rfl ?_
            refine wp_br k_116 rfl rfl rfl rfl (fun _ => ?_) (fun z => absurd trivial z)
            refine ih2 _ _ M6 ⟨fun k hk => (pz116 k hk).trans (hG.1 k hk), hG.2.step hn sz116 (fun x y _ => ?_)⟩
            constructor
            · rintro (q | q | q | ⟨j', h1, h2, h3⟩)
              · exact Or.inl (Or.inl q)
              · exact Or.inl (Or.inr (Or.inl q))
              · exact Or.inl (Or.inr (Or.inr (Or.inl q)))
              · by_cases e : j' = j
                · subst e; exact Or.inr ⟨h2, h3⟩
                · exact Or.inl (Or.inr (Or.inr (Or.inr ⟨j', by omega, h2, h3⟩)))
            · rintro ((q | q | q | ⟨j', h1, h2, h3⟩) | ⟨h2, h3⟩)
              · exact Or.inl q
              · exact Or.inr (Or.inl q)
              · exact Or.inr (Or.inr (Or.inl q))
              · exact Or.inr (Or.inr (Or.inr ⟨j', by omega, h2, h3⟩))
              · exact Or.inr (Or.inr (Or.inr ⟨j, by omega, h2, h3⟩))
    · intro i hi0 ih0 h2 ar2 M2 hC
      have V_ := V.same (g' := g) (ar' := ar2) ⟨rfl, rfl, rfl⟩ (fun k hk => hC.1 k (by omega))
      obtain ⟨bw1, bw2, bw3, _⟩ := hW.2.2.1 _ _ _ (w_mem hi0)
      have bT := Bool.toNat_le (wT E.2.1 i)
      refine wp_pure k_116 rfl rfl ?_
      refine wp_pure k_116 rfl rfl ?_
      refine wm_gi 14 M2 k_116 rfl rfl rfl rfl V_.h14 ?_
      refine wp_br k_116 rfl rfl rfl rfl (fun z => absurd z (nI_ge hi0 (by omega))) (fun _ => ?_)
      refine wp_pure k_116 rfl rfl ?_
      refine wp_pure k_116 rfl rfl ?_
      refine wm_ga 15 M2 k_116 rfl rfl rfl (by decide) ?_
      refine wp_pure k_116 rfl rfl ?_
      refine wm_al 15 M2 k_116 rfl rfl (by decide) rfl (show i < 60 by omega) (v := nI (wA E.2.1 i)) (V_.w15 i (by omega)) ?_
      refine wp_pure k_116 rfl rfl ?_
      refine wm_ga 16 M2 k_116 rfl rfl rfl (by decide) ?_
      refine wp_pure k_116 rfl rfl ?_
      refine wm_al 16 M2 k_116 rfl rfl (by decide) rfl (show i < 60 by omega) (v := nI (wB E.2.1 i)) (V_.w16 i (by omega)) ?_
      refine wm_iv k_116 rfl rfl M2 [.int (nI (wA E.2.1 i)), .int (nI (wB E.2.1 i))] rfl (r := []) (Nat.le_of_ble_eq_true rfl) (Nat.le_of_ble_eq_true rfl) rfl ?_
      refine m_step M2 (by omega) (by omega) (fun h7 ar7 M7 p7 s7 => ⟨rfl, ?_⟩)
      have V7 := V_.same (g' := g) (ar' := ar7) ⟨rfl, rfl, rfl⟩ (fun k hk => p7 k (by omega))
      have pz116 := p7
      have sz116 := s7
      refine wp_pure k_116 rfl rfl ?_
      refine wm_ga 17 M7 k_116 rfl rfl rfl (by decide) ?_
      refine wp_pure k_116 rfl rfl ?_
      refine wm_bl 17 M7 k_116 rfl rfl (by decide) rfl (show i < 60 by omega) (v := nI (wT E.2.1 i).toNat) (V7.w17 i (by omega)) ?_
      refine wp_br k_116 rfl rfl rfl rfl (fun (z84 : nI (wT E.2.1 i).toNat = 0) => ?_) (fun (z84 : ¬ (nI (wT E.2.1 i).toNat = 0)) => ?_)
      · have y84 : (wT E.2.1 i).toNat = 0 := yE (by omega) (by omega) (show nI (wT E.2.1 i).toNat = nI 0 from z84)
        refine wp_inc k_116 rfl rfl rfl ?_
        refine wp_br k_116 rfl rfl rfl rfl (fun _ => ?_) (fun z => absurd trivial z)
        refine ih0 _ _ M7 ⟨fun k hk => (pz116 k hk).trans (hC.1 k hk), hC.2.step hn sz116 (fun x y _ => ?_)⟩
        rw [wsX_succ]
        have bf : ¬ wT E.2.1 i = true := fun q => by rw [q] at y84; exact absurd y84 (by decide)
        constructor
        · rintro (q | q | q)
          · exact Or.inl q
          · exact Or.inr q
          · exact absurd q.1 bf
        · rintro (q | q)
          · exact Or.inl q
          · exact Or.inr (Or.inl q)
      · have y84 : ¬ (wT E.2.1 i).toNat = 0 := yNE (by omega) (by omega) (show ¬ (nI (wT E.2.1 i).toNat = nI 0) from z84)
        have pA := pz116
        have sA := sz116
        refine wp_pure k_116 rfl rfl ?_
        refine wp_pure k_116 rfl rfl ?_
        refine wm_ga 16 M7 k_116 rfl rfl rfl (by decide) ?_
        refine wp_pure k_116 rfl rfl ?_
        refine wm_al 16 M7 k_116 rfl rfl (by decide) rfl (show i < 60 by omega) (v := nI (wB E.2.1 i)) (V7.w16 i (by omega)) ?_
        refine wp_pure k_116 rfl rfl ?_
        refine wm_ga 15 M7 k_116 rfl rfl rfl (by decide) ?_
        refine wp_pure k_116 rfl rfl ?_
        refine wm_al 15 M7 k_116 rfl rfl (by decide) rfl (show i < 60 by omega) (v := nI (wA E.2.1 i)) (V7.w15 i (by omega)) ?_
        refine wm_iv k_116 rfl rfl M7 [.int (nI (wB E.2.1 i)), .int (nI (wA E.2.1 i))] rfl (r := []) (Nat.le_of_ble_eq_true rfl) (Nat.le_of_ble_eq_true rfl) rfl ?_
        refine m_step M7 (by omega) (by omega) (fun h8 ar8 M8 p8 s8 => ⟨rfl, ?_⟩)
        have V8 := V7.same (g' := g) (ar' := ar8) ⟨rfl, rfl, rfl⟩ (fun k hk => p8 k (by omega))
        have pz116 := p8
        have sz116 := s8
        refine wp_inc k_116 rfl rfl rfl ?_
        refine wp_br k_116 rfl rfl rfl rfl (fun _ => ?_) (fun z => absurd trivial z)
        have bt : wT E.2.1 i = true := by
          cases q : wT E.2.1 i with
          | true => rfl
          | false => rw [q] at y84; exact absurd rfl y84
        refine ih0 _ _ M8 ⟨fun k hk => (pz116 k hk).trans ((pA k hk).trans (hC.1 k hk)), (hC.2.step (Y := fun x y => wsX E.2.1 i x y ∨ (x = wA E.2.1 i ∧ y = wB E.2.1 i)) hn sA (fun x y _ => Iff.rfl)).step hn sz116 (fun x y _ => ?_)⟩
        rw [wsX_succ]
        constructor
        · rintro (q | q | q)
          · exact Or.inl (Or.inl q)
          · exact Or.inl (Or.inr q)
          · exact Or.inr q.2
        · rintro ((q | q) | q)
          · exact Or.inl q
          · exact Or.inr (Or.inl q)
          · exact Or.inr (Or.inr ⟨bt, q⟩)
  · intro i hi0 ih0 x3 h1 ar1 M1 hA
    have V_ := V.same (g' := g) (ar' := ar1) ⟨rfl, rfl, rfl⟩ (fun k hk => hA.1 k (by omega))
    refine wp_pure k_116 rfl rfl ?_
    refine wp_pure k_116 rfl rfl ?_
    refine wp_br k_116 rfl rfl rfl rfl (fun z => absurd z (nI_ge hi0 (by omega))) (fun _ => ?_)
    refine wp_kn k_116 rfl rfl ?_
    refine wp_pure k_116 rfl rfl ?_
    refine dn (n := E.1.length) (P := fun j => ∀ (h9 : sm_H) (ar9 : Nat → Nat → Int32), MS h0 h9 m g ar9 → ((∀ k, k ≠ 62 → ar9 k = ar k) ∧ (∀ x y, x < i → y < E.1.length → ar9 62 (60 * x + y) = eO (D0 (fun _ _ => False) x y)) ∧ ∀ y, y < j → ar9 62 (60 * i + y) = eO (D0 (fun _ _ => False) i y)) → sm_wp 116 14 [.ref m, .int (nI E.1.length), .int (nI i), .int (nI j), jk] [] h9 Q) ?_ ?_ 0 (Nat.zero_le _) _ _ M1 (⟨hA.1, hA.2, fun y hy => absurd hy (Nat.not_lt_zero y)⟩)
    · intro h9 ar9 M9 hB
      refine wp_pure k_116 rfl rfl ?_
      refine wp_pure k_116 rfl rfl ?_
      refine wp_br k_116 rfl rfl rfl rfl (fun _ => ?_) (fun z => absurd (Int32.le_refl _) z)
      refine wp_inc k_116 rfl rfl rfl ?_
      refine wp_br k_116 rfl rfl rfl rfl (fun _ => ?_) (fun z => absurd trivial z)
      refine ih0 (.int (nI (E.1.length))) _ _ M9 ⟨hB.1, fun x y hx hy => ?_⟩
      by_cases q : x = i
      · rw [q]; exact hB.2.2 y hy
      · exact hB.2.1 x y (by omega) hy
    · intro j hj0 ih1 h9 ar9 M9 hB
      refine wp_pure k_116 rfl rfl ?_
      refine wp_pure k_116 rfl rfl ?_
      refine wp_br k_116 rfl rfl rfl rfl (fun z => absurd z (nI_ge hj0 (by omega))) (fun _ => ?_)
      refine wp_pure k_116 rfl rfl ?_
      refine wm_ga 62 M9 k_116 rfl rfl rfl (by decide) ?_
      refine wp_kn k_116 rfl rfl ?_
      refine wp_pure k_116 rfl rfl ?_
      refine wp_mulN k_116 rfl ?_
      refine wp_pure k_116 rfl rfl ?_
      refine wp_addN k_116 rfl ?_
      refine wp_pure k_116 rfl rfl ?_
      refine wp_pure k_116 rfl rfl ?_
      refine wp_br k_116 rfl rfl rfl rfl (fun (z31 : ¬ nI i = nI j) => ?_) (fun (z31 : ¬ (¬ nI i = nI j)) => ?_)
      · have y31 : ¬ i = j := yNE (by omega) (by omega) z31
        refine wp_km k_116 rfl rfl ?_
        refine wm_as 62 M9 k_116 rfl rfl (by decide) rfl (show (60 * i) + j < 3600 by omega) (fun h10 M10 => ?_)
        refine wp_inc k_116 rfl rfl rfl ?_
        refine wp_br k_116 rfl rfl rfl rfl (fun _ => ?_) (fun z => absurd trivial z)
        refine ih1 _ _ M10 ⟨fun k hk => (uA_ne hk).trans (hB.1 k hk), fun x y hx hy => (uA_nn (by omega)).trans (hB.2.1 x y hx hy), fun y hy => ?_⟩
        by_cases q : y = j
        · rw [q]
          refine uA_at.trans ?_
          unfold D0
          rw [if_neg y31, if_neg (fun q => q)]
          rfl
        · exact (uA_nn (by omega)).trans (hB.2.2 y (by omega))
      · have y31 : i = j := yNNE (by omega) (by omega) z31
        refine wp_kn k_116 rfl rfl ?_
        refine wp_br k_116 rfl rfl rfl rfl (fun _ => ?_) (fun z => absurd trivial z)
        refine wm_as 62 M9 k_116 rfl rfl (by decide) rfl (show (60 * i) + j < 3600 by omega) (fun h11 M11 => ?_)
        refine wp_inc k_116 rfl rfl rfl ?_
        refine wp_br k_116 rfl rfl rfl rfl (fun _ => ?_) (fun z => absurd trivial z)
        refine ih1 _ _ M11 ⟨fun k hk => (uA_ne hk).trans (hB.1 k hk), fun x y hx hy => (uA_nn (by omega)).trans (hB.2.1 x y hx hy), fun y hy => ?_⟩
        by_cases q : y = j
        · rw [q]
          refine uA_at.trans ?_
          unfold D0
          rw [if_pos y31]
          rfl
        · exact (uA_nn (by omega)).trans (hB.2.2 y (by omega))
