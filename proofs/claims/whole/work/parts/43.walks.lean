/-! WALKS, and the reference's way of measuring them -/
def Wk (r : Nat → Nat → Prop) : Nat → Nat → Nat → Prop
  | 0, a, b => a = b
  | l + 1, a, b => ∃ x, r a x ∧ Wk r l x b
theorem wk_mono {r r' : Nat → Nat → Prop} (h : ∀ a b, r a b → r' a b) : ∀ l a b, Wk r l a b → Wk r' l a b
  | 0, _, _, w => w
  | l + 1, _, _, ⟨x, w1, w2⟩ => ⟨x, h _ _ w1, wk_mono h l _ _ w2⟩
theorem wk_join {r : Nat → Nat → Prop} : ∀ l k a b c, Wk r l a b → Wk r k b c → Wk r (l + k) a c
  | 0, k, a, b, c, w, v => by
    have e : a = b := w
    rw [e, Nat.zero_add]; exact v
  | l + 1, k, a, b, c, ⟨x, w1, w2⟩, v => by
    rw [Nat.add_right_comm]
    exact ⟨x, w1, wk_join l k _ _ _ w2 v⟩
theorem wk_one {r : Nat → Nat → Prop} {a b : Nat} (h : r a b) : Wk r 1 a b := ⟨b, h, rfl⟩
theorem wk_snoc {r : Nat → Nat → Prop} : ∀ l a b, Wk r (l + 1) a b → ∃ y, Wk r l a y ∧ r y b
  | 0, a, b, ⟨x, w1, w2⟩ => by
    have e : x = b := w2
    exact ⟨a, rfl, e ▸ w1⟩
  | l + 1, a, b, ⟨x, w1, w2⟩ => by
    obtain ⟨y, q1, q2⟩ := wk_snoc l _ _ w2
    exact ⟨y, ⟨x, w1, q1⟩, q2⟩
theorem wk_last {r : Nat → Nat → Prop} {x b : Nat} : ∀ l y, Wk r l y b → ∃ l', l' ≤ l ∧ (Wk (fun u v => r u v ∧ v ≠ x) l' y b ∨ Wk (fun u v => r u v ∧ v ≠ x) l' x b)
  | 0, y, w => ⟨0, Nat.le_refl _, Or.inl w⟩
  | l + 1, y, ⟨z, w1, w2⟩ => by
    obtain ⟨l', h1, h2⟩ := wk_last (x := x) l z w2
    rcases h2 with h2 | h2
    · by_cases e : z = x
      · exact ⟨l', by omega, Or.inr (e ▸ h2)⟩
      · exact ⟨l' + 1, by omega, Or.inl ⟨z, ⟨w1, e⟩, h2⟩⟩
    · exact ⟨l', by omega, Or.inr h2⟩
theorem filt_lt {x : Nat} : ∀ vs : List Nat, x ∈ vs → (vs.filter (fun v => decide (v ≠ x))).length < vs.length
  | [], h => absurd h List.not_mem_nil
  | v :: vs, h => by
    by_cases e : v = x
    · have h0 : (vs.filter (fun v => decide (v ≠ x))).length ≤ vs.length := List.length_filter_le _ _
      rw [List.filter_cons, if_neg (by simp [e])]
      show _ < vs.length + 1
      omega
    · have h1 : x ∈ vs := by
        rcases List.mem_cons.mp h with h | h
        · exact absurd h.symm e
        · exact h
      have := filt_lt vs h1
      rw [List.filter_cons, if_pos (by simp [e])]
      show _ + 1 < vs.length + 1
      omega
theorem wk_short : ∀ (k : Nat) (vs : List Nat), vs.length ≤ k → ∀ (r : Nat → Nat → Prop), (∀ u v, r u v → v ∈ vs) → ∀ l a b, Wk r l a b → ∃ l', l' ≤ k ∧ l' ≤ l ∧ Wk r l' a b
  | k, vs, hk, r, hr, 0, a, b, w => ⟨0, Nat.zero_le _, Nat.le_refl _, w⟩
  | 0, vs, hk, r, hr, l + 1, a, b, ⟨x, w1, w2⟩ => by
    have := hr _ _ w1
    have e : vs = [] := List.length_eq_zero_iff.mp (by omega)
    rw [e] at this
    exact absurd this List.not_mem_nil
  | k + 1, vs, hk, r, hr, l + 1, a, b, ⟨x, w1, w2⟩ => by
    obtain ⟨l2, q1, q2⟩ := wk_last (x := x) l x w2
    have q3 : Wk (fun u v => r u v ∧ v ≠ x) l2 x b := by rcases q2 with q | q <;> exact q
    have hx := hr _ _ w1
    obtain ⟨l3, q4, q5, q6⟩ := wk_short k (vs.filter (fun v => decide (v ≠ x))) (by have := filt_lt vs hx; omega) _ (fun u v h => List.mem_filter.mpr ⟨hr u v h.1, by simp [h.2]⟩) l2 x b q3
    exact ⟨l3 + 1, by omega, by omega, x, w1, wk_mono (fun _ _ h => h.1) _ _ _ q6⟩
theorem wk_near {r : Nat → Nat → Prop} {n : Nat} (hr : ∀ u v, r u v → v < n) {l a b : Nat} (ha : a < n) (w : Wk r l a b) : ∃ l', l' < n ∧ l' ≤ l ∧ Wk r l' a b := by
  obtain ⟨l2, q1, q2⟩ := wk_last (x := a) l a w
  have q3 : Wk (fun u v => r u v ∧ v ≠ a) l2 a b := by rcases q2 with q | q <;> exact q
  have hm : a ∈ List.range n := List.mem_range.mpr ha
  have h0 := filt_lt (x := a) _ hm
  rw [List.length_range] at h0
  obtain ⟨l3, q4, q5, q6⟩ := wk_short (n - 1) ((List.range n).filter (fun v => decide (v ≠ a))) (by omega) _ (fun u v h => List.mem_filter.mpr ⟨List.mem_range.mpr (hr u v h.1), by simp [h.2]⟩) l2 a b q3
  exact ⟨l3, by omega, by omega, wk_mono (fun _ _ h => h.1) _ _ _ q6⟩
/-- one round of the reference's measuring -/
def fwU (D : Nat → Nat → Option Nat) (m a b : Nat) : Option Nat := match D a m, D m b with
  | some x, some y => (match D a b with
    | none => some (x + y)
    | some z => if x + y < z then some (x + y) else some z)
  | _, _ => D a b
def fwE (e : Nat → Nat → Prop) (m a : Nat) (x y : Nat) : Prop := e x y ∧ (x = a ∨ x < m)
def FW (e : Nat → Nat → Prop) (n m : Nat) (D : Nat → Nat → Option Nat) : Prop :=
  (∀ a, a < n → D a a = some 0) ∧ (∀ a b, e a b → ∃ v, v ≤ 1 ∧ D a b = some v) ∧
  (∀ a b c i j, a < n → b < n → c < m → D a c = some i → D c b = some j → ∃ v, v ≤ i + j ∧ D a b = some v) ∧
  (∀ a b v, a < n → b < n → D a b = some v → Wk (fwE e m a) v a b)
theorem fwU_le {D : Nat → Nat → Option Nat} {m a b z : Nat} (h : D a b = some z) : ∃ v, v ≤ z ∧ fwU D m a b = some v := by
  unfold fwU
  split
  · rw [h]; dsimp only; split
    · exact ⟨_, by omega, rfl⟩
    · exact ⟨_, by omega, rfl⟩
  · exact ⟨z, Nat.le_refl _, h⟩
theorem fwU_via {D : Nat → Nat → Option Nat} {m a b x y : Nat} (h1 : D a m = some x) (h2 : D m b = some y) : ∃ v, v ≤ x + y ∧ fwU D m a b = some v := by
  unfold fwU
  rw [h1, h2]
  dsimp only
  split
  · exact ⟨_, by omega, rfl⟩
  · split
    · exact ⟨_, by omega, rfl⟩
    · exact ⟨_, by omega, rfl⟩
theorem fwU_in {D : Nat → Nat → Option Nat} {m a b v : Nat} (h : fwU D m a b = some v) : D a b = some v ∨ ∃ x y, D a m = some x ∧ D m b = some y ∧ v = x + y := by
  unfold fwU at h
  split at h
  · rename_i x y h1 h2
    split at h
    · cases h; exact Or.inr ⟨x, y, h1, h2, rfl⟩
    · rename_i z h3
      split at h
      · cases h; exact Or.inr ⟨x, y, h1, h2, rfl⟩
      · cases h; exact Or.inl h3
  · exact Or.inl h
theorem fwU_row {D : Nat → Nat → Option Nat} {m a : Nat} (h : D m m = some 0) : fwU D m a m = D a m := by
  unfold fwU
  rw [h]
  cases hx : D a m with
  | none => rfl
  | some x => dsimp only; rw [if_neg (by omega)]
theorem fwU_col {D : Nat → Nat → Option Nat} {m b : Nat} (h : D m m = some 0) : fwU D m m b = D m b := by
  unfold fwU
  rw [h]
  cases hx : D m b with
  | none => rfl
  | some x => dsimp only; rw [if_neg (by omega)]
theorem FW.step {e : Nat → Nat → Prop} {n m : Nat} {D : Nat → Nat → Option Nat} (hm : m < n) (F : FW e n m D) : FW e n (m + 1) (fwU D m) := by
  obtain ⟨f0, f1, f2, f3⟩ := F
  refine ⟨fun a ha => ?_, fun a b h => ?_, fun a b c i j ha hb hc h1 h2 => ?_, fun a b v ha hb h => ?_⟩
  · obtain ⟨v, h1, h2⟩ := fwU_le (m := m) (f0 a ha)
    have : v = 0 := by omega
    rw [h2, this]
  · obtain ⟨v, h1, h2⟩ := f1 a b h
    obtain ⟨w, h3, h4⟩ := fwU_le (m := m) h2
    exact ⟨w, by omega, h4⟩
  · by_cases ec : c = m
    · subst ec
      rw [fwU_row (f0 c hm)] at h1
      rw [fwU_col (f0 c hm)] at h2
      exact fwU_via h1 h2
    · have hc' : c < m := by omega
      rcases fwU_in h1 with k1 | ⟨x, y, k1, k1', rfl⟩
      · rcases fwU_in h2 with k2 | ⟨x', y', k2, k2', rfl⟩
        · obtain ⟨v, q1, q2⟩ := f2 a b c i j ha hb hc' k1 k2
          obtain ⟨w, q3, q4⟩ := fwU_le (m := m) q2
          exact ⟨w, by omega, q4⟩
        · obtain ⟨v, q1, q2⟩ := f2 a m c i x' ha hm hc' k1 k2
          obtain ⟨w, q3, q4⟩ := fwU_via q2 k2'
          exact ⟨w, by omega, q4⟩
      · rcases fwU_in h2 with k2 | ⟨x', y', k2, k2', rfl⟩
        · obtain ⟨v, q1, q2⟩ := f2 m b c y j hm hb hc' k1' k2
          obtain ⟨w, q3, q4⟩ := fwU_via k1 q2
          exact ⟨w, by omega, q4⟩
        · obtain ⟨w, q3, q4⟩ := fwU_via k1 k2'
          exact ⟨w, by omega, q4⟩
  · rcases fwU_in h with h | ⟨x, y, h1, h2, rfl⟩
    · exact wk_mono (fun u w q => ⟨q.1, q.2.imp id (fun z => by omega)⟩) _ _ _ (f3 a b v ha hb h)
    · have w1 := f3 a m x ha hm h1
      have w2 := f3 m b y hm hb h2
      exact wk_join _ _ _ _ _ (wk_mono (fun u w q => ⟨q.1, q.2.imp id (fun z => by omega)⟩) _ _ _ w1) (wk_mono (fun u w q => ⟨q.1, Or.inr (by rcases q.2 with z | z <;> omega)⟩) _ _ _ w2)
theorem FW.opt {e : Nat → Nat → Prop} {n m : Nat} {D : Nat → Nat → Option Nat} (hm : m ≤ n) (he : ∀ a b, e a b → a < n ∧ b < n) (F : FW e n m D) {a : Nat} (ha : a < n) : ∀ l b, Wk (fwE e m a) l a b → ∃ w, w ≤ l ∧ D a b = some w
  | 0, b, w => by
    have q : a = b := w
    exact ⟨0, Nat.le_refl _, q ▸ F.1 a ha⟩
  | l + 1, b, w => by
    obtain ⟨y, w1, w2⟩ := wk_snoc l a b w
    obtain ⟨v, q1, q2⟩ := FW.opt hm he F ha l y w1
    obtain ⟨u, q3, q4⟩ := F.2.1 y b w2.1
    rcases w2.2 with z | z
    · rw [z] at q4
      exact ⟨u, by omega, q4⟩
    · obtain ⟨t, q5, q6⟩ := F.2.2.1 a b y v u ha (he _ _ w2.1).2 z q2 q4
      exact ⟨t, by omega, q6⟩
/-- what was measured stays small -/
theorem FW.lt {e : Nat → Nat → Prop} {n m : Nat} {D : Nat → Nat → Option Nat} (hm : m ≤ n) (he : ∀ a b, e a b → a < n ∧ b < n) (F : FW e n m D) {a b v : Nat} (ha : a < n) (hb : b < n) (h : D a b = some v) : v < n := by
  obtain ⟨l, q1, q2, q3⟩ := wk_near (fun u v (h : fwE e m a u v) => (he u v h.1).2) ha (F.2.2.2 a b v ha hb h)
  obtain ⟨w, q4, q5⟩ := F.opt hm he ha l b q3
  rw [h] at q5
  cases q5
  omega
theorem FW.done {e : Nat → Nat → Prop} {n : Nat} {D : Nat → Nat → Option Nat} (he : ∀ a b, e a b → a < n ∧ b < n) (F : FW e n n D) {a b : Nat} (ha : a < n) (hb : b < n) : (∀ v, D a b = some v → Wk e v a b) ∧ ∀ l, Wk e l a b → ∃ w, w ≤ l ∧ D a b = some w :=
  ⟨fun v h => wk_mono (fun _ _ q => q.1) _ _ _ (F.2.2.2 a b v ha hb h), fun l w => F.opt (Nat.le_refl _) he ha l b (wk_mono (fun u x q => ⟨q, Or.inr (he u x q).1⟩) _ _ _ w)⟩
