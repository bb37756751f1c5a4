/-! WHERE ONE CAN GO: the class's sets, the reference's table -/
def onB (E : Ed) (x y : Nat) : Prop := (∃ t, (x, y, t) ∈ E.2.1) ∨ (y, x, true) ∈ E.2.1 ∨ ∃ k, atP E.1 1 k = nI 6 ∧ x ∈ stP E.1 k ∧ y ∈ stP E.1 k
theorem onB_lt {E : Ed} (h : EdW E) {a b : Nat} (e : onB E a b) : a < E.1.length ∧ b < E.1.length := by
  rcases e with ⟨t, q⟩ | q | ⟨k, q1, q2, q3⟩
  · have := h.2.2.1 a b t q; exact ⟨this.1, this.2.1⟩
  · have := h.2.2.1 b a true q; exact ⟨this.2.1, this.1⟩
  · obtain ⟨kd, x, y, w, hh, lv, a1, a2, a3, a4, a5, a6, a7, a8, a9, b1, b2, b3, b4, b5, b6, b7, b8, b9⟩ := h.pl (stP_lt q2)
    rw [a3] at q1
    have := b9 (nI6 a1 (by omega) q1)
    exact ⟨(this.2.2.2 a q2).1, (this.2.2.2 b q3).1⟩
theorem onB_eg {E : Ed} {a b : Nat} (h : onB E a b) : a = b ∨ egE E a b := by
  by_cases e : a = b
  · exact Or.inl e
  · exact Or.inr ⟨e, h⟩
theorem wk_onB {E : Ed} (h : EdW E) {r : Nat → Nat → Prop} (hr : ∀ x y, r x y ↔ onB E x y) {l a b : Nat} : (Wk r l a b → ∃ l', l' ≤ l ∧ Wk (egE E) l' a b) ∧ (Wk (egE E) l a b → Wk r l a b) :=
  ⟨fun w => wk_self (fun x y q => onB_eg ((hr x y).mp q)) l a b w, fun w => wk_mono (fun x y q => (hr x y).mpr q.2) l a b w⟩
theorem stR_on {E : Ed} (h : EdW E) {on : Nat → Nat} (ho : ∀ x y, (on x).testBit y = true ↔ onB E x y) (x y : Nat) : stR on E.1.length x y ↔ onB E x y :=
  ⟨fun q => (ho x y).mp q.2, fun q => ⟨(onB_lt h q).1, (ho x y).mpr q⟩⟩
theorem stR_bk {E : Ed} (h : EdW E) {bk : Nat → Nat} (ho : ∀ x y, (bk x).testBit y = true ↔ onB E y x) (x y : Nat) : stR bk E.1.length x y ↔ onB E y x :=
  ⟨fun q => (ho x y).mp q.2, fun q => ⟨(onB_lt h q).2, (ho x y).mpr q⟩⟩
theorem lt_pow {n x : Nat} (h : ∀ y, x.testBit y = true → y < n) : x < 2 ^ n := Nat.lt_pow_two_of_testBit _ (fun i hi => by
  cases e : x.testBit i with
  | false => rfl
  | true => have := h i e; omega)
theorem rch_bits {E : Ed} (h : EdW E) (hn : E.1.length ≤ 60) {on : Nat → Nat} {dk k p : Nat} (ho : ∀ x y, (on x).testBit y = true ↔ onB E x y) (hd : ∀ d, dk.testBit d = true ↔ dkE E d) (hk : k = 60 ∨ wdN on (blN on E.1.length dk k) E.1.length = blN on E.1.length dk k) : (blN on E.1.length dk k).testBit p = true ↔ rchE E p := by
  have hw := fun l a b => wk_onB (l := l) (a := a) (b := b) h (stR_on h ho)
  rw [blN_full hn (fun i => lt_pow (fun y q => (onB_lt h ((ho i y).mp q)).2)) (lt_pow (fun y q => by obtain ⟨k, _, _, _, z⟩ := (hd y).mp q; exact z)) hk]
  constructor
  · rintro ⟨l, a, q1, q2⟩
    obtain ⟨l', _, w⟩ := (hw l a p).1 q2
    exact ⟨a, l', (hd a).mp q1, w⟩
  · rintro ⟨d, l, q1, q2⟩
    exact ⟨l, d, (hd d).mpr q1, (hw l d p).2 q2⟩
theorem ext_bits {E : Ed} (h : EdW E) (hn : E.1.length ≤ 60) {bk : Nat → Nat} {dk k p : Nat} (ho : ∀ x y, (bk x).testBit y = true ↔ onB E y x) (hd : ∀ d, dk.testBit d = true ↔ dkE E d) (hk : k = 60 ∨ wdN bk (blN bk E.1.length dk k) E.1.length = blN bk E.1.length dk k) : (blN bk E.1.length dk k).testBit p = true ↔ extE E p := by
  have hw := fun l a b => wk_onB (l := l) (a := a) (b := b) (r := fun x y => stR bk E.1.length y x) h (fun x y => stR_bk h ho y x)
  rw [blN_full hn (fun i => lt_pow (fun y q => (onB_lt h ((ho i y).mp q)).1)) (lt_pow (fun y q => by obtain ⟨k, _, _, _, z⟩ := (hd y).mp q; exact z)) hk]
  constructor
  · rintro ⟨l, a, q1, q2⟩
    obtain ⟨l', _, w⟩ := (hw l p a).1 (wk_rev (fun _ _ q => q) l a p q2)
    exact ⟨a, l', (hd a).mp q1, w⟩
  · rintro ⟨d, l, q1, q2⟩
    exact ⟨l, d, (hd d).mpr q1, wk_rev (fun _ _ q => q) l p d ((hw l p d).2 q2)⟩
theorem cntP_one {p : Nat} {f : Nat → Prop} (hp : f p) : ∀ n, p < n → cntP n f = cntP n (fun k => k ≠ p ∧ f k) + 1
  | 0, h => absurd h (Nat.not_lt_zero p)
  | n + 1, h => by
    by_cases e : n = p
    · subst e
      rw [cntP_y hp, cntP_n (show ¬ (n ≠ n ∧ f n) from fun q => q.1 rfl)]
      congr 1
      exact cntP_eq n (fun i hi => ⟨fun q => ⟨by omega, q⟩, fun q => q.2⟩)
    · have ih := cntP_one hp n (by omega)
      by_cases q : f n
      · rw [cntP_y q, cntP_y (show n ≠ p ∧ f n from ⟨e, q⟩), ih]
      · rw [cntP_n q, cntP_n (show ¬ (n ≠ p ∧ f n) from fun z => q z.2), ih]
theorem cntP_up {f : Nat → Prop} {a : Nat} (h : ∀ i, f i → i < a) : ∀ b, cntP (a + b) f = cntP a f
  | 0 => rfl
  | b + 1 => by
    rw [show a + (b + 1) = (a + b) + 1 from rfl, cntP_n (fun q => by have := h _ q; omega)]
    exact cntP_up h b
theorem bit1 {p y : Nat} : (2 ^ p).testBit y = true ↔ y = p := by
  rw [Nat.testBit_two_pow]
  constructor
  · intro h; exact (of_decide_eq_true h).symm
  · intro h; exact decide_eq_true h.symm
theorem pow_lt {p n : Nat} (h : p < n) : 2 ^ p < 2 ^ n := Nat.pow_lt_pow_right (by decide) h
theorem onw_bits {E : Ed} (h : EdW E) (hn : E.1.length ≤ 60) {on : Nat → Nat} {k p : Nat} (hp : p < E.1.length) (ho : ∀ x y, (on x).testBit y = true ↔ onB E x y) (hk : k = 60 ∨ wdN on (blN on E.1.length (2 ^ p) k) E.1.length = blN on E.1.length (2 ^ p) k) : cntP 64 (fun i => (blN on E.1.length (2 ^ p) k).testBit i = true) = onwE E p + 1 := by
  have hw := fun l a b => wk_onB (l := l) (a := a) (b := b) h (stR_on h ho)
  have hb : ∀ y, (blN on E.1.length (2 ^ p) k).testBit y = true ↔ ∃ l, Wk (egE E) l p y := by
    intro y
    rw [blN_full hn (fun i => lt_pow (fun y q => (onB_lt h ((ho i y).mp q)).2)) (pow_lt hp) hk]
    constructor
    · rintro ⟨l, a, q1, q2⟩
      obtain ⟨l', _, w⟩ := (hw l a y).1 q2
      rw [bit1.mp q1] at w
      exact ⟨l', w⟩
    · rintro ⟨l, q⟩
      exact ⟨l, p, bit1.mpr rfl, (hw l p y).2 q⟩
  have hlt : ∀ i, (∃ l, Wk (egE E) l p i) → i < E.1.length := by
    rintro i ⟨l, w⟩
    cases l with
    | zero => have e : p = i := w; omega
    | succ l => obtain ⟨y, _, w2⟩ := wk_snoc l p i w; exact (egE_lt h w2).2
  rw [cntP_eq 64 (fun i _ => hb i), show 64 = E.1.length + (64 - E.1.length) by omega, cntP_up hlt, cntP_one ⟨0, rfl⟩ _ hp]
  rfl
theorem std_bits {E : Ed} (h : EdW E) (hn : E.1.length ≤ 60) {on : Nat → Nat} {p : Nat} {dk : Nat} (hp : p < E.1.length) (ho : ∀ x y, (on x).testBit y = true ↔ onB E x y) (hd : ∀ d, dk.testBit d = true ↔ dkE E d) :
    (∀ s, s < 60 → (∀ s', s' < s → (blN on E.1.length (2 ^ p) s') &&& dk = 0) → ¬ (blN on E.1.length (2 ^ p) s) &&& dk = 0 → stdE E p = nI s) ∧ ((∀ s', s' < 60 → (blN on E.1.length (2 ^ p) s') &&& dk = 0) → stdE E p = -1) := by
  have hw := fun l a b => wk_onB (l := l) (a := a) (b := b) h (stR_on h ho)
  have hb : ∀ k y, (blN on E.1.length (2 ^ p) k).testBit y = true ↔ ∃ l, l ≤ k ∧ Wk (egE E) l p y := by
    intro k y
    rw [blN_bit]
    constructor
    · rintro ⟨l, a, q0, q1, q2⟩
      obtain ⟨l', q3, w⟩ := (hw l a y).1 q2
      rw [bit1.mp q1] at w
      exact ⟨l', by omega, w⟩
    · rintro ⟨l, q0, q⟩
      exact ⟨l, p, q0, bit1.mpr rfl, (hw l p y).2 q⟩
  have hz : ∀ k, (blN on E.1.length (2 ^ p) k) &&& dk = 0 ↔ ∀ d l, dkE E d → l ≤ k → ¬ Wk (egE E) l p d := by
    intro k
    constructor
    · intro q d l q1 q2 q3
      have : ((blN on E.1.length (2 ^ p) k) &&& dk).testBit d = true := by
        rw [Nat.testBit_and, (hb k d).mpr ⟨l, q2, q3⟩, (hd d).mpr q1]; rfl
      rw [q, Nat.zero_testBit] at this
      cases this
    · intro q
      apply Nat.eq_of_testBit_eq
      intro i
      rw [Nat.zero_testBit, Nat.testBit_and]
      cases e1 : (blN on E.1.length (2 ^ p) k).testBit i with
      | false => rfl
      | true =>
        cases e2 : dk.testBit i with
        | false => rfl
        | true =>
          obtain ⟨l, q1, q2⟩ := (hb k i).mp e1
          exact absurd q2 (q i l ((hd i).mp e2) q1)
  refine ⟨fun s hs h1 h2 => ?_, fun h1 => ?_⟩
  · have h3 : ∃ d l, dkE E d ∧ l ≤ s ∧ Wk (egE E) l p d := by
      apply Classical.byContradiction
      intro q
      exact h2 ((hz s).mpr (fun d l a b c => q ⟨d, l, a, b, c⟩))
    obtain ⟨d, l, a, b, c⟩ := h3
    have hmin : ∀ l' d', dkE E d' → Wk (egE E) l' p d' → s ≤ l' := fun l' d' q1 q2 => Nat.not_lt.mp (fun q3 => (hz l').mp (h1 l' q3) d' l' q1 (Nat.le_refl _) q2)
    have e : l = s := by have := hmin l d a c; omega
    subst e
    exact stdE_eq (Or.inr ⟨l, d, hs, rfl, a, c, hmin⟩)
  · refine stdE_eq (Or.inl ⟨rfl, ?_⟩)
    rintro ⟨d, l, a, c⟩
    obtain ⟨l', q1, q2, q3⟩ := wk_near (fun u v (q : egE E u v) => (egE_lt h q).2) hp c
    exact (hz l').mp (h1 l' (by omega)) d l' a (Nat.le_refl _) q3
/-- the reference's table, measured -/
def FarE (E : Ed) (f : Nat → Nat → Int32) : Prop := ∀ a b, a < E.1.length → b < E.1.length → (f a b = -1 ∧ ∀ l, ¬ Wk (egE E) l a b) ∨ ∃ v, v < 60 ∧ f a b = nI v ∧ Wk (egE E) v a b ∧ ∀ l, Wk (egE E) l a b → v ≤ l
theorem FarE_m1 {E : Ed} {f : Nat → Nat → Int32} (F : FarE E f) {a b : Nat} (ha : a < E.1.length) (hb : b < E.1.length) : f a b ≠ -1 ↔ ∃ l, Wk (egE E) l a b := by
  rcases F a b ha hb with ⟨q1, q2⟩ | ⟨v, q1, q2, q3, q4⟩
  · exact ⟨fun q => absurd q1 q, fun ⟨l, w⟩ => absurd w (q2 l)⟩
  · exact ⟨fun _ => ⟨v, q3⟩, fun _ => by rw [q2]; exact nI_nm1 (by omega)⟩
def eO (o : Option Nat) : Int32 := match o with
  | some k => nI k
  | none => -1
/-- the table before it is measured: x holds the steps -/
noncomputable def D0 (e : Nat → Nat → Prop) (a b : Nat) : Option Nat := if a = b then some 0 else @ite _ (e a b) (Classical.propDecidable _) (some 1) none
theorem FW0 {E : Ed} (h : EdW E) : FW (egE E) E.1.length 0 (D0 (egE E)) := by
  refine ⟨fun a _ => if_pos rfl, fun a b e => ?_, fun a b c i j _ _ hc => absurd hc (Nat.not_lt_zero c), fun a b v _ _ q => ?_⟩
  · unfold D0
    by_cases q : a = b
    · exact absurd q e.1
    · rw [if_neg q, if_pos e]; exact ⟨1, Nat.le_refl _, rfl⟩
  · unfold D0 at q
    split at q
    · rename_i e; cases q; exact e
    · split at q
      · rename_i e; cases q; exact wk_one ⟨e, Or.inl rfl⟩
      · cases q
theorem FW_Far {E : Ed} (h : EdW E) (hn : E.1.length ≤ 60) {D : Nat → Nat → Option Nat} (F : FW (egE E) E.1.length E.1.length D) {f : Nat → Nat → Int32} (hf : ∀ a b, a < E.1.length → b < E.1.length → f a b = eO (D a b)) : FarE E f := by
  intro a b ha hb
  have he := fun a b => @egE_lt E h a b
  obtain ⟨h1, h2⟩ := F.done he ha hb
  cases e : D a b with
  | none =>
    refine Or.inl ⟨by rw [hf a b ha hb, e]; rfl, fun l w => ?_⟩
    obtain ⟨w', _, q⟩ := h2 l w
    rw [e] at q
    cases q
  | some v =>
    refine Or.inr ⟨v, ?_, by rw [hf a b ha hb, e]; rfl, h1 v e, fun l w => ?_⟩
    · have := F.lt (Nat.le_refl _) he ha hb e; omega
    · obtain ⟨w', q1, q⟩ := h2 l w
      rw [e] at q
      cases q
      exact q1
