/-! WHERE CLASS AND REFERENCE GO OTHER WAYS TO THE SAME ANSWER -/
theorem EdW.pl {E : Ed} (h : EdW E) {k : Nat} (hk : k < E.1.length) : ∃ kd x y w hh lv : Nat, kd ≤ 6 ∧ lv ≤ 9 ∧ atP E.1 1 k = nI kd ∧ atP E.1 2 k = nI x ∧ atP E.1 3 k = nI y ∧ atP E.1 4 k = nI w ∧ atP E.1 5 k = nI hh ∧ atP E.1 6 k = nI lv ∧ 1 ≤ w ∧ x + w ≤ 40 ∧ 1 ≤ hh ∧ y + hh ≤ 20 ∧ (kd = 0 ∨ kd = 2 → atP E.1 7 k = -1 ∧ lv = 0) ∧ (kd = 2 → w = 1 ∧ hh = 1) ∧ (kd ≠ 6 → stP E.1 k = []) ∧ (kd = 1 → ∃ r, atP E.1 7 k = nI r ∧ r < E.1.length ∧ atP E.1 1 r = nI 0) ∧ (3 ≤ kd → w = 1 ∧ hh = 1 ∧ lv = 0 ∧ ∃ r, atP E.1 7 k = nI r ∧ r < E.1.length ∧ atP E.1 1 r = nI 2 ∧ atP E.1 2 k = atP E.1 2 r ∧ atP E.1 3 k = atP E.1 3 r) ∧ (kd = 6 → 1 ≤ (stP E.1 k).length ∧ (stP E.1 k).length ≤ 4 ∧ atP E.1 7 k = nI ((stP E.1 k).getD 0 0) ∧ ∀ a ∈ stP E.1 k, a < E.1.length ∧ atP E.1 1 a = nI 2) := by
  have e := List.getElem?_eq_getElem hk
  have := h.1 k _ e
  rw [atP_some e, atP_some e, atP_some e, atP_some e, atP_some e, atP_some e, atP_some e, stP_some e]
  exact this
theorem nI6 {a b : Nat} (ha : a ≤ 6) (hb : b ≤ 6) (h : nI a = nI b) : a = b := (nI_eq (by omega) (by omega)).mp h
theorem EdW.st0 {E : Ed} (h : EdW E) {k : Nat} (hk : k < E.1.length) (hne : atP E.1 1 k ≠ nI 6) : stP E.1 k = [] := by
  obtain ⟨kd, x, y, w, hh, lv, a1, a2, a3, a4, a5, a6, a7, a8, a9, b1, b2, b3, b4, b5, b6, b7⟩ := h.pl hk
  exact b6 (fun e => hne (by rw [a3, e]))
theorem EdW.w0 {E : Ed} (h : EdW E) {k : Nat} (hne : atP E.1 1 k ≠ nI 2) : cntP E.2.1.length (fun i => wA E.2.1 i = k ∨ wB E.2.1 i = k) = 0 := by
  refine cntP_0 _ (fun i hi q => ?_)
  obtain ⟨a1, a2, a3, a4, a5⟩ := h.2.2.1 _ _ _ (w_mem hi)
  rcases q with q | q
  · exact hne (q ▸ a4)
  · exact hne (q ▸ a5)
theorem EdW.v0 {E : Ed} (h : EdW E) {k : Nat} (hne : atP E.1 1 k ≠ nI 1) : cntP E.2.2.length (fun i => vA E.2.2 i = k) = 0 := by
  refine cntP_0 _ (fun i hi q => ?_)
  obtain ⟨a1, a2, a4, a5⟩ := h.2.2.2 _ _ (v_mem hi)
  exact hne (q ▸ a4)
theorem linE_6 {E : Ed} (h : EdW E) {k : Nat} (hk : atP E.1 1 k = nI 6) : linE E k = (stP E.1 k).length := by
  unfold linE
  rw [h.w0 (by rw [hk]; decide), h.v0 (by rw [hk]; decide)]
  rfl
theorem linE_2 {E : Ed} (h : EdW E) {k : Nat} (hl : k < E.1.length) (hk : atP E.1 1 k = nI 2) : linE E k = cntP E.2.1.length (fun i => wA E.2.1 i = k ∨ wB E.2.1 i = k) := by
  unfold linE
  rw [h.st0 hl (by rw [hk]; decide), h.v0 (by rw [hk]; decide)]
  show 0 + _ + 0 = _
  omega
theorem linE_1 {E : Ed} (h : EdW E) {k : Nat} (hl : k < E.1.length) (hk : atP E.1 1 k = nI 1) : linE E k = cntP E.2.2.length (fun i => vA E.2.2 i = k) := by
  unfold linE
  rw [h.st0 hl (by rw [hk]; decide), h.w0 (by rw [hk]; decide)]
  show 0 + 0 + _ = _
  omega
theorem linE_0 {E : Ed} (h : EdW E) {k : Nat} (hl : k < E.1.length) (h6 : atP E.1 1 k ≠ nI 6) (h2 : atP E.1 1 k ≠ nI 2) (h1 : atP E.1 1 k ≠ nI 1) : linE E k = 0 := by
  unfold linE
  rw [h.st0 hl h6, h.w0 h2, h.v0 h1]
  rfl
theorem likE_ref {E : Ed} (h : EdW E) {k i : Nat} (hk : k < E.1.length) (hi : i < E.1.length) : likE E.1 k i ↔ atP E.1 1 k = atP E.1 1 i ∧ (atP E.1 1 i = nI 0 ∨ (atP E.1 7 k = atP E.1 7 i ∧ atP E.1 6 k = atP E.1 6 i)) := by
  constructor
  · rintro ⟨a, b, c⟩; exact ⟨a, Or.inr ⟨b, c⟩⟩
  · rintro ⟨a, b | b⟩
    · obtain ⟨kd, x, y, w, hh, lv, a1, a2, a3, a4, a5, a6, a7, a8, a9, b1, b2, b3, b4, b5⟩ := h.pl hk
      obtain ⟨kd', x', y', w', hh', lv', a1', a2', a3', a4', a5', a6', a7', a8', a9', b1', b2', b3', b4', b5'⟩ := h.pl hi
      have e' := nI6 a1' (by omega) (a3'.symm.trans b)
      have e := nI6 a1 (by omega) (a3.symm.trans (a.trans b))
      obtain ⟨c1, c2⟩ := b4 (Or.inl e)
      obtain ⟨c1', c2'⟩ := b4' (Or.inl e')
      exact ⟨a, by rw [c1, c1'], by rw [a8, a8', c2, c2']⟩
    · exact ⟨a, b.1, b.2⟩
theorem kepE_find {E : Ed} (h : EdW E) {old : List Pl} {i : Nat} : (fI (atP E.1 0) E.1.length (atP old 0 i) = none → ¬ kepE E.1 old i) ∧ ∀ k, fI (atP E.1 0) E.1.length (atP old 0 i) = some k → (kepE E.1 old i ↔ atP E.1 1 k = nI 1 ∧ atP E.1 6 k = atP old 6 i ∧ atP E.1 2 k = atP old 2 i ∧ atP E.1 3 k = atP old 3 i ∧ atP E.1 4 k = atP old 4 i ∧ atP E.1 5 k = atP old 5 i ∧ rkN E.1 k = rkN old i) := by
  refine ⟨fun hn hk => ?_, fun k hk => ⟨fun hq => ?_, fun hq => ?_⟩⟩
  · obtain ⟨k, a, b, c, _⟩ := hk
    exact fI_none_iff.mp hn k a c
  · obtain ⟨k', a, b, c, d⟩ := hq
    obtain ⟨e1, e2⟩ := fI_spec hk
    have hkk : k' = k := by
      have g1 := List.getElem?_eq_getElem a
      have g2 := List.getElem?_eq_getElem e1
      refine h.2.1 k' k _ _ g1 g2 ?_
      rw [← atP_some g1 0, ← atP_some g2 0, c, e2]
    subst hkk
    exact ⟨b, d⟩
  · obtain ⟨e1, e2⟩ := fI_spec hk
    exact ⟨k, e1, hq.1, e2, hq.2⟩
/-- the reference's sign at a point -/
def thE (ps : List Pl) (x y k : Nat) : Prop := (atP ps 1 k = nI 6 ∧ ∃ s, s ∈ stP ps k ∧ covE ps s x y) ∨ (atP ps 1 k ≠ nI 6 ∧ covE ps k x y)
def rkO (c : Int32) : Nat := if c = nI 3 then 0 else if c = nI 4 then 1 else if c = nI 5 then 2 else if c = nI 6 then 3 else if c = nI 2 then 4 else if c = nI 1 then 5 else 6
def sgO (r : Nat) : Int32 := if r = 0 then nI 68 else if r = 1 then nI 83 else if r = 2 then nI 67 else if r = 3 then nI 69 else if r = 4 then nI 43 else if r = 5 then nI 98 else if r = 6 then nI 35 else nI 46
noncomputable def bsN (ps : List Pl) (x y : Nat) : Nat → Nat
  | 0 => 7
  | n + 1 => @ite _ (thE ps x y n ∧ rkO (atP ps 1 n) < bsN ps x y n) (Classical.propDecidable _) (rkO (atP ps 1 n)) (bsN ps x y n)
theorem bsN_le {ps : List Pl} {x y r : Nat} (hr : r < 7) : ∀ n, bsN ps x y n ≤ r ↔ ∃ k, k < n ∧ thE ps x y k ∧ rkO (atP ps 1 k) ≤ r
  | 0 => ⟨fun h => by have : 7 ≤ r := h; omega, fun ⟨k, hk, _⟩ => absurd hk (Nat.not_lt_zero k)⟩
  | n + 1 => by
    have ih := @bsN_le ps x y r hr n
    by_cases h : thE ps x y n ∧ rkO (atP ps 1 n) < bsN ps x y n
    · rw [show bsN ps x y (n + 1) = rkO (atP ps 1 n) from if_pos h]
      constructor
      · intro q; exact ⟨n, by omega, h.1, q⟩
      · rintro ⟨k, a, b, c⟩
        by_cases e : k = n
        · exact e ▸ c
        · have := ih.mpr ⟨k, by omega, b, c⟩; omega
    · rw [show bsN ps x y (n + 1) = bsN ps x y n from if_neg h, ih]
      constructor
      · rintro ⟨k, a, b, c⟩; exact ⟨k, by omega, b, c⟩
      · rintro ⟨k, a, b, c⟩
        by_cases e : k = n
        · subst e
          have : bsN ps x y k ≤ r := by
            have : ¬ rkO (atP ps 1 k) < bsN ps x y k := fun q => h ⟨b, q⟩
            omega
          exact ih.mp this
        · exact ⟨k, by omega, b, c⟩
theorem bsN_7 {ps : List Pl} {x y : Nat} : ∀ n, bsN ps x y n ≤ 7
  | 0 => Nat.le_refl _
  | n + 1 => by
    have := @bsN_7 ps x y n
    by_cases h : thE ps x y n ∧ rkO (atP ps 1 n) < bsN ps x y n
    · rw [show bsN ps x y (n + 1) = rkO (atP ps 1 n) from if_pos h]; omega
    · rw [show bsN ps x y (n + 1) = bsN ps x y n from if_neg h]; exact this
theorem pit_y {c : Prop} {a b : Int32} (h : c) : pit c a b = a := if_pos h
theorem pit_n {c : Prop} {a b : Int32} (h : ¬ c) : pit c a b = b := if_neg h
theorem sgn_best {E : Ed} (h : EdW E) (x y : Nat) : sgO (bsN E.1 x y E.1.length) = sgnE E.1 x y := by
  generalize hb : bsN E.1 x y E.1.length = b
  have h7 : b ≤ 7 := hb ▸ bsN_7 _
  have hle : ∀ r, r < 7 → (b ≤ r ↔ ∃ k, k < E.1.length ∧ thE E.1 x y k ∧ rkO (atP E.1 1 k) ≤ r) := fun r hr => hb ▸ bsN_le hr _
  -- which kinds there are
  have key : ∀ r, r < 7 → (b ≤ r ↔ ∃ k, k < E.1.length ∧ thE E.1 x y k ∧ ∃ kd, kd ≤ 6 ∧ atP E.1 1 k = nI kd ∧ [6, 5, 4, 0, 1, 2, 3].getD kd 0 ≤ r) := by
    intro r hr
    rw [hle r hr]
    constructor
    · rintro ⟨k, a, t, c⟩
      obtain ⟨kd, _, _, _, _, _, a1, _, a3, _⟩ := h.pl a
      refine ⟨k, a, t, kd, a1, a3, ?_⟩
      rw [a3] at c
      have : ∀ kd, kd ≤ 6 → rkO (nI kd) = [6, 5, 4, 0, 1, 2, 3].getD kd 0 := by decide
      rw [← this kd a1]; exact c
    · rintro ⟨k, a, t, kd, a1, a3, c⟩
      refine ⟨k, a, t, ?_⟩
      have : ∀ kd, kd ≤ 6 → rkO (nI kd) = [6, 5, 4, 0, 1, 2, 3].getD kd 0 := by decide
      rw [a3, this kd a1]; exact c
  have hk : ∀ kd, kd ≤ 5 → kcv E.1 kd x y → b ≤ [6, 5, 4, 0, 1, 2, 3].getD kd 0 := by
    rintro kd hkd ⟨k, a, c, d⟩
    have hlt : ∀ kd, kd ≤ 5 → [6, 5, 4, 0, 1, 2, 3].getD kd 0 < 7 := by decide
    refine (key _ (hlt kd hkd)).mpr ⟨k, a, Or.inr ⟨?_, d⟩, kd, by omega, c, Nat.le_refl _⟩
    rw [c]; intro q; have := nI6 (by omega) (by omega) q; omega
  have hs : scv E.1 x y → b ≤ 3 := by
    rintro ⟨k, s, a, c, d, e⟩
    exact (key 3 (by omega)).mpr ⟨k, a, Or.inl ⟨c, s, d, e⟩, 6, by omega, c, by decide⟩
  have hi : ∀ r, r < 7 → b = r → (∃ kd, kd ≤ 5 ∧ [6, 5, 4, 0, 1, 2, 3].getD kd 0 = r ∧ kcv E.1 kd x y) ∨ (r = 3 ∧ scv E.1 x y) := by
    intro r hr e
    obtain ⟨k, a, t, kd, a1, a3, c⟩ := (key r hr).mp (by omega)
    have hr2 : [6, 5, 4, 0, 1, 2, 3].getD kd 0 = r := by
      have hlt : ∀ kd, kd ≤ 6 → [6, 5, 4, 0, 1, 2, 3].getD kd 0 < 7 := by decide
      have := (key _ (hlt kd a1)).mpr ⟨k, a, t, kd, a1, a3, Nat.le_refl _⟩
      omega
    rcases t with ⟨t1, s, t2, t3⟩ | ⟨t1, t2⟩
    · have e6 := nI6 a1 (by omega) (a3.symm.trans t1)
      subst e6
      exact Or.inr ⟨hr2.symm, k, s, a, t1, t2, t3⟩
    · by_cases e6 : kd = 6
      · exact absurd (by rw [a3, e6]) t1
      · exact Or.inl ⟨kd, by omega, hr2, k, a, a3, t2⟩
  have inv : ∀ kd, kd ≤ 5 → ∀ kd', kd' ≤ 5 → [6, 5, 4, 0, 1, 2, 3].getD kd 0 = [6, 5, 4, 0, 1, 2, 3].getD kd' 0 → kd = kd' := by decide
  have hno : ∀ kd, kd ≤ 5 → [6, 5, 4, 0, 1, 2, 3].getD kd 0 < b → ¬ kcv E.1 kd x y := fun kd h1 h2 q => by have := hk kd h1 q; omega
  have hyes : ∀ kd, kd ≤ 5 → b = [6, 5, 4, 0, 1, 2, 3].getD kd 0 → kcv E.1 kd x y := by
    intro kd h1 h2
    have hlt : ∀ kd, kd ≤ 5 → [6, 5, 4, 0, 1, 2, 3].getD kd 0 < 7 ∧ [6, 5, 4, 0, 1, 2, 3].getD kd 0 ≠ 3 := by decide
    rcases hi b (by rw [h2]; exact (hlt kd h1).1) rfl with ⟨kd', a, c, d⟩ | ⟨a, c⟩
    · rw [inv kd h1 kd' a (by rw [← h2, c])]; exact d
    · exact absurd (h2.symm.trans a) (hlt kd h1).2
  unfold sgnE
  match b, h7, hno, hyes, hs, hi with
  | 0, _, hno, hyes, hs, hi => rw [pit_y (hyes 3 (by omega) rfl)]; rfl
  | 1, _, hno, hyes, hs, hi => rw [pit_n (hno 3 (by omega) (by decide)), pit_y (hyes 4 (by omega) rfl)]; rfl
  | 2, _, hno, hyes, hs, hi => rw [pit_n (hno 3 (by omega) (by decide)), pit_n (hno 4 (by omega) (by decide)), pit_y (hyes 5 (by omega) rfl)]; rfl
  | 3, _, hno, hyes, hs, hi =>
    have q : scv E.1 x y := by
      rcases hi 3 (by omega) rfl with ⟨kd', a, c, d⟩ | ⟨a, c⟩
      · have : ∀ kd, kd ≤ 5 → [6, 5, 4, 0, 1, 2, 3].getD kd 0 ≠ 3 := by decide
        exact absurd c (this kd' a)
      · exact c
    rw [pit_n (hno 3 (by omega) (by decide)), pit_n (hno 4 (by omega) (by decide)), pit_n (hno 5 (by omega) (by decide)), pit_y q]; rfl
  | 4, _, hno, hyes, hs, hi => rw [pit_n (hno 3 (by omega) (by decide)), pit_n (hno 4 (by omega) (by decide)), pit_n (hno 5 (by omega) (by decide)), pit_n (fun q => absurd (hs q) (by decide)), pit_y (hyes 2 (by omega) rfl)]; rfl
  | 5, _, hno, hyes, hs, hi => rw [pit_n (hno 3 (by omega) (by decide)), pit_n (hno 4 (by omega) (by decide)), pit_n (hno 5 (by omega) (by decide)), pit_n (fun q => absurd (hs q) (by decide)), pit_n (hno 2 (by omega) (by decide)), pit_y (hyes 1 (by omega) rfl)]; rfl
  | 6, _, hno, hyes, hs, hi => rw [pit_n (hno 3 (by omega) (by decide)), pit_n (hno 4 (by omega) (by decide)), pit_n (hno 5 (by omega) (by decide)), pit_n (fun q => absurd (hs q) (by decide)), pit_n (hno 2 (by omega) (by decide)), pit_n (hno 1 (by omega) (by decide)), pit_y (hyes 0 (by omega) rfl)]; rfl
  | 7, _, hno, hyes, hs, hi => rw [pit_n (hno 3 (by omega) (by decide)), pit_n (hno 4 (by omega) (by decide)), pit_n (hno 5 (by omega) (by decide)), pit_n (fun q => absurd (hs q) (by decide)), pit_n (hno 2 (by omega) (by decide)), pit_n (hno 1 (by omega) (by decide)), pit_n (hno 0 (by omega) (by decide))]; rfl
