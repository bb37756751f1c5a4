/-! SETS OF PLACES as numbers, and how the class spreads them -/
def wdN (st : Nat → Nat) (s : Nat) : Nat → Nat
  | 0 => s
  | i + 1 => if s.testBit i then wdN st s i ||| st i else wdN st s i
theorem wdN_bit {st : Nat → Nat} {s y : Nat} : ∀ k, (wdN st s k).testBit y = true ↔ s.testBit y = true ∨ ∃ i, i < k ∧ s.testBit i = true ∧ (st i).testBit y = true
  | 0 => ⟨Or.inl, fun h => h.elim id (fun ⟨i, hi, _⟩ => absurd hi (Nat.not_lt_zero i))⟩
  | k + 1 => by
    have ih := @wdN_bit st s y k
    unfold wdN
    by_cases h : s.testBit k = true
    · rw [if_pos h, Nat.testBit_or, Bool.or_eq_true, ih]
      constructor
      · rintro ((q | ⟨i, a, b, c⟩) | q)
        · exact Or.inl q
        · exact Or.inr ⟨i, by omega, b, c⟩
        · exact Or.inr ⟨k, by omega, h, q⟩
      · rintro (q | ⟨i, a, b, c⟩)
        · exact Or.inl (Or.inl q)
        · by_cases e : i = k
          · exact Or.inr (e ▸ c)
          · exact Or.inl (Or.inr ⟨i, by omega, b, c⟩)
    · rw [if_neg h, ih]
      constructor
      · rintro (q | ⟨i, a, b, c⟩)
        · exact Or.inl q
        · exact Or.inr ⟨i, by omega, b, c⟩
      · rintro (q | ⟨i, a, b, c⟩)
        · exact Or.inl q
        · exact Or.inr ⟨i, by
            have : i ≠ k := fun e => h (e ▸ b)
            omega, b, c⟩
theorem wdN_lt {st : Nat → Nat} {s N : Nat} (hs : s < 2 ^ N) (ht : ∀ i, st i < 2 ^ N) : ∀ k, wdN st s k < 2 ^ N
  | 0 => hs
  | k + 1 => by
    unfold wdN
    split
    · exact Nat.or_lt_two_pow (wdN_lt hs ht k) (ht k)
    · exact wdN_lt hs ht k
def blN (st : Nat → Nat) (n s : Nat) : Nat → Nat
  | 0 => s
  | k + 1 => wdN st (blN st n s k) n
def stR (st : Nat → Nat) (n i y : Nat) : Prop := i < n ∧ (st i).testBit y = true
theorem blN_bit {st : Nat → Nat} {n s : Nat} : ∀ k y, (blN st n s k).testBit y = true ↔ ∃ l a, l ≤ k ∧ s.testBit a = true ∧ Wk (stR st n) l a y
  | 0, y => by
    constructor
    · intro h; exact ⟨0, y, Nat.le_refl _, h, rfl⟩
    · rintro ⟨l, a, h1, h2, h3⟩
      have : l = 0 := by omega
      subst this
      have e : a = y := h3
      exact e ▸ h2
  | k + 1, y => by
    show (wdN st (blN st n s k) n).testBit y = true ↔ _
    rw [wdN_bit]
    constructor
    · rintro (h | ⟨i, h1, h2, h3⟩)
      · obtain ⟨l, a, q1, q2, q3⟩ := (blN_bit k y).mp h
        exact ⟨l, a, by omega, q2, q3⟩
      · obtain ⟨l, a, q1, q2, q3⟩ := (blN_bit k i).mp h2
        exact ⟨l + 1, a, by omega, q2, wk_join l 1 a i y q3 (wk_one ⟨h1, h3⟩)⟩
    · rintro ⟨l, a, q1, q2, q3⟩
      by_cases e : l ≤ k
      · exact Or.inl ((blN_bit k y).mpr ⟨l, a, e, q2, q3⟩)
      · have e2 : l = k + 1 := by omega
        subst e2
        obtain ⟨z, w1, w2⟩ := wk_snoc k a y q3
        exact Or.inr ⟨z, w2.1, (blN_bit k z).mpr ⟨k, a, Nat.le_refl _, q2, w1⟩, w2.2⟩
theorem blN_lt {st : Nat → Nat} {n s N : Nat} (hs : s < 2 ^ N) (ht : ∀ i, st i < 2 ^ N) : ∀ k, blN st n s k < 2 ^ N
  | 0 => hs
  | k + 1 => wdN_lt (blN_lt hs ht k) ht n
/-- all that can be gone to -/
theorem blN_full {st : Nat → Nat} {n s k y : Nat} (hn : n ≤ 60) (ht : ∀ i, st i < 2 ^ n) (hs : s < 2 ^ n) (hk : k = 60 ∨ wdN st (blN st n s k) n = blN st n s k) : (blN st n s k).testBit y = true ↔ ∃ l a, s.testBit a = true ∧ Wk (stR st n) l a y := by
  have hb : ∀ x z, x < 2 ^ n → x.testBit z = true → z < n := fun x z hx h => Nat.not_le.mp (fun q => by
    have : x < 2 ^ z := Nat.lt_of_lt_of_le hx (Nat.pow_le_pow_right (by decide) q)
    rw [Nat.testBit_lt_two_pow this] at h
    cases h)
  constructor
  · intro h
    obtain ⟨l, a, q1, q2, q3⟩ := (blN_bit k y).mp h
    exact ⟨l, a, q2, q3⟩
  · rintro ⟨l, a, q2, q3⟩
    rcases hk with hk | hk
    · obtain ⟨l', w1, w2, w3⟩ := wk_near (fun u v (h : stR st n u v) => hb _ v (ht u) h.2) (hb s a hs q2) q3
      exact (blN_bit k y).mpr ⟨l', a, by omega, q2, w3⟩
    · have hcl : ∀ l z, Wk (stR st n) l a z → (blN st n s k).testBit z = true := by
        intro l
        induction l with
        | zero =>
          intro z w
          have e : a = z := w
          exact (blN_bit k z).mpr ⟨0, a, Nat.zero_le _, q2, e⟩
        | succ l ih =>
          intro z w
          obtain ⟨u, w1, w2⟩ := wk_snoc l a z w
          rw [← hk]
          exact wdN_bit n |>.mpr (Or.inr ⟨u, w2.1, ih u w1, w2.2⟩)
      exact hcl l y q3
theorem wk_self {r e : Nat → Nat → Prop} (h : ∀ a b, r a b → a = b ∨ e a b) : ∀ l a b, Wk r l a b → ∃ l', l' ≤ l ∧ Wk e l' a b
  | 0, a, b, w => ⟨0, Nat.le_refl _, w⟩
  | l + 1, a, b, ⟨x, w1, w2⟩ => by
    obtain ⟨l', q1, q2⟩ := wk_self h l x b w2
    rcases h a x w1 with z | z
    · exact ⟨l', by omega, z ▸ q2⟩
    · exact ⟨l' + 1, by omega, x, z, q2⟩
theorem wk_rev {r r' : Nat → Nat → Prop} (h : ∀ a b, r a b → r' b a) : ∀ l a b, Wk r l a b → Wk r' l b a
  | 0, a, b, w => Eq.symm w
  | l + 1, a, b, ⟨x, w1, w2⟩ => wk_join l 1 b x a (wk_rev h l x b w2) (wk_one (h _ _ w1))
