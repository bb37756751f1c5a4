/-! WELL-MADE EDITIONS: what every text that is read brings with it -/
def plW (ps : List Pl) (P : Pl) : Prop := ∃ kd x y w h lv : Nat, kd ≤ 6 ∧ lv ≤ 9 ∧ P.1 1 = nI kd ∧ P.1 2 = nI x ∧ P.1 3 = nI y ∧ P.1 4 = nI w ∧ P.1 5 = nI h ∧ P.1 6 = nI lv ∧ 1 ≤ w ∧ x + w ≤ 40 ∧ 1 ≤ h ∧ y + h ≤ 20 ∧
  (kd = 0 ∨ kd = 2 → P.1 7 = -1 ∧ lv = 0) ∧ (kd = 2 → w = 1 ∧ h = 1) ∧ (kd ≠ 6 → P.2 = []) ∧
  (kd = 1 → ∃ r, P.1 7 = nI r ∧ r < ps.length ∧ atP ps 1 r = nI 0) ∧
  (3 ≤ kd → w = 1 ∧ h = 1 ∧ lv = 0 ∧ ∃ r, P.1 7 = nI r ∧ r < ps.length ∧ atP ps 1 r = nI 2 ∧ P.1 2 = atP ps 2 r ∧ P.1 3 = atP ps 3 r) ∧
  (kd = 6 → 1 ≤ P.2.length ∧ P.2.length ≤ 4 ∧ P.1 7 = nI (P.2.getD 0 0) ∧ ∀ a ∈ P.2, a < ps.length ∧ atP ps 1 a = nI 2)
def EdW (E : Ed) : Prop := (∀ (k : Nat) (P : Pl), E.1[k]? = some P → plW E.1 P) ∧ (∀ (i j : Nat) (P P' : Pl), E.1[i]? = some P → E.1[j]? = some P' → P.1 0 = P'.1 0 → i = j) ∧
  (∀ a b t, (a, b, t) ∈ E.2.1 → a < E.1.length ∧ b < E.1.length ∧ a ≠ b ∧ atP E.1 1 a = nI 2 ∧ atP E.1 1 b = nI 2) ∧
  (∀ a b, (a, b) ∈ E.2.2 → a < E.1.length ∧ b < E.1.length ∧ atP E.1 1 a = nI 1 ∧ atP E.1 1 b = nI 2)
theorem plW.more {ps : List Pl} {P P' : Pl} (h : plW ps P) : plW (ps ++ [P']) P := by
  have hl : (ps ++ [P']).length = ps.length + 1 := by rw [List.length_append]; rfl
  obtain ⟨kd, x, y, w, hh, lv, a1, a2, a3, a4, a5, a6, a7, a8, a9, b1, b2, b3, b4, b5, b6, b7, b8, b9⟩ := h
  refine ⟨kd, x, y, w, hh, lv, a1, a2, a3, a4, a5, a6, a7, a8, a9, b1, b2, b3, b4, b5, b6, fun e => ?_, fun e => ?_, fun e => ?_⟩
  · obtain ⟨r, c1, c2, c3⟩ := b7 e
    exact ⟨r, c1, by omega, by rw [atP_old c2]; exact c3⟩
  · obtain ⟨c0, c1, c2, r, c3, c4, c5, c6, c7⟩ := b8 e
    exact ⟨c0, c1, c2, r, c3, by omega, by rw [atP_old c4]; exact c5, by rw [atP_old c4]; exact c6, by rw [atP_old c4]; exact c7⟩
  · obtain ⟨c0, c1, c2, c3⟩ := b9 e
    exact ⟨c0, c1, c2, fun a ha => ⟨by have := (c3 a ha).1; omega, by rw [atP_old (c3 a ha).1]; exact (c3 a ha).2⟩⟩
theorem EdW.nil : EdW ([], [], []) := ⟨fun k P h => by simp at h, fun i j P P' h => by simp at h, fun a b t h => absurd h List.not_mem_nil, fun a b h => absurd h List.not_mem_nil⟩
theorem EdW.place {E : Ed} {P : Pl} (h : EdW E) (hp : plW (E.1 ++ [P]) P) (hn : fI (atP E.1 0) E.1.length (P.1 0) = none) : EdW (E.1 ++ [P], E.2.1, E.2.2) := by
  obtain ⟨h1, h2, h3, h4⟩ := h
  have hl : (E.1 ++ [P]).length = E.1.length + 1 := by rw [List.length_append]; rfl
  have hn' := fI_none_iff.mp hn
  have hg : ∀ k P', (E.1 ++ [P])[k]? = some P' → E.1[k]? = some P' ∨ (k = E.1.length ∧ P' = P) := by
    intro k P' hk
    by_cases e : k < E.1.length
    · rw [List.getElem?_append_left e] at hk; exact Or.inl hk
    · have := (List.getElem?_eq_some_iff.mp hk).1
      have e2 : k = E.1.length := by omega
      subst e2
      rw [List.getElem?_append_right (Nat.le_refl _), Nat.sub_self] at hk
      cases hk
      exact Or.inr ⟨rfl, rfl⟩
  have hq : ∀ i Q, E.1[i]? = some Q → i < E.1.length ∧ ¬ Q.1 0 = P.1 0 := fun i Q hi => by
    have hi' := (List.getElem?_eq_some_iff.mp hi).1
    have := hn' i hi'
    rw [atP_some hi] at this
    exact ⟨hi', this⟩
  refine ⟨fun k P' hk => ?_, fun i j P1 P2 hi hj e => ?_, fun a b t hw => ?_, fun a b hw => ?_⟩
  · rcases hg k P' hk with z | ⟨z, z'⟩
    · exact (h1 k P' z).more
    · rw [z']; exact hp
  · rcases hg i P1 hi with z | ⟨z, z'⟩ <;> rcases hg j P2 hj with y | ⟨y, y'⟩
    · exact h2 i j P1 P2 z y e
    · exact absurd (by rw [← y']; exact e) (hq i P1 z).2
    · exact absurd (by rw [← z']; exact e.symm) (hq j P2 y).2
    · rw [z, y]
  · obtain ⟨a1, a2, a3, a4, a5⟩ := h3 a b t hw
    exact ⟨by show a < (E.1 ++ [P]).length; omega, by show b < (E.1 ++ [P]).length; omega, a3, (atP_old a1 1).trans a4, (atP_old a2 1).trans a5⟩
  · obtain ⟨a1, a2, a4, a5⟩ := h4 a b hw
    exact ⟨by show a < (E.1 ++ [P]).length; omega, by show b < (E.1 ++ [P]).length; omega, (atP_old a1 1).trans a4, (atP_old a2 1).trans a5⟩
theorem EdW.at {E : Ed} (h : EdW E) {v : Int32} {kd r : Nat} {st : List Nat} (h3 : 3 ≤ kd) (h6 : kd ≤ 6) (hr : r < E.1.length) (hk : atP E.1 1 r = nI 2) (hv : fI (atP E.1 0) E.1.length v = none) (hst : (kd ≠ 6 → st = []) ∧ (kd = 6 → 1 ≤ st.length ∧ st.length ≤ 4 ∧ r = st.getD 0 0 ∧ ∀ a ∈ st, a < E.1.length ∧ atP E.1 1 a = nI 2)) : EdW (E.1 ++ [plA E.1 v kd r st], E.2.1, E.2.2) := by
  refine h.place ?_ hv
  have hl : (E.1 ++ [plA E.1 v kd r st]).length = E.1.length + 1 := by rw [List.length_append]; rfl
  obtain ⟨kd', x, y, w, hh, lv, a1, a2, a3, a4, a5, a6, a7, a8, a9, b1, b2, b3, b4, b5, b6, b7, b8, b9⟩ := h.1 r _ (List.getElem?_eq_getElem hr)
  have e := List.getElem?_eq_getElem hr
  have x1 := atP_some e 2
  have x2 := atP_some e 3
  rw [a4] at x1
  rw [a5] at x2
  refine ⟨kd, x, y, 1, 1, 0, h6, by omega, rfl, x1, x2, rfl, rfl, rfl, by omega, by omega, by omega, by omega, fun z => by omega, fun z => by omega, hst.1, fun z => by omega, fun _ => ⟨rfl, rfl, rfl, r, rfl, by omega, by rw [atP_old hr]; exact hk, by rw [atP_old hr]; rfl, by rw [atP_old hr]; rfl⟩, fun z => ?_⟩
  obtain ⟨c1, c2, c3, c4⟩ := hst.2 z
  exact ⟨c1, c2, congrArg nI c3, fun a ha => ⟨by have := (c4 a ha).1; omega, by rw [atP_old (c4 a ha).1]; exact (c4 a ha).2⟩⟩
theorem EdW.line {tx : Nat → Int32} {len p q : Nat} {E : Ed} {r : LR} (h : EdW E) (hl : lineM tx len E.1 p = .ok (r, q)) : EdW (addL E r) := by
  have hat : ∀ kd, 3 ≤ kd → kd ≤ 5 → atL tx len E.1 kd (p + 1) = .ok (r, q) → EdW (addL E r) := by
    intro kd k3 k5 e
    unfold atL at e
    split at e
    · cases e
    · rename_i v r' q' e1
      cases e
      have o := atpM_ok e1
      exact h.at k3 (by omega) o.2.2.1 o.2.2.2.1 o.2.2.2.2 ⟨fun _ => rfl, fun z => by omega⟩
  unfold lineM at hl
  split at hl
  · split at hl
    · cases hl
    · rename_i v x y w hh q' e1
      cases hl
      obtain ⟨o1, o2, o3, o4, o5, o6, o7, o8, o9⟩ := rackM_ok e1
      exact h.place ⟨0, x, y, w, hh, 0, by omega, by omega, rfl, rfl, rfl, rfl, rfl, rfl, o5, o6, o7, o8, fun _ => ⟨rfl, rfl⟩, fun z => by omega, fun _ => rfl, fun z => by omega, fun z => by omega, fun z => by omega⟩ o9
  split at hl
  · split at hl
    · cases hl
    · rename_i v r' l x y w hh q' e1
      cases hl
      obtain ⟨o1, o2, o3, o4, o5, o6, o7, o8, o9, p1, p2, p3, p4⟩ := binM_ok e1
      exact h.place ⟨1, x, y, w, hh, l, by omega, by omega, rfl, rfl, rfl, rfl, rfl, rfl, o5, o6, o7, o8, fun z => by omega, fun z => by omega, fun _ => rfl, fun _ => ⟨r', rfl, by rw [List.length_append]; omega, (atP_old p1 1).trans p2⟩, fun z => by omega, fun z => by omega⟩ o9
  split at hl
  · split at hl
    · cases hl
    · rename_i v x y q' e1
      cases hl
      obtain ⟨o1, o2, o3, o4, o9⟩ := pieceM_ok e1
      exact h.place ⟨2, x, y, 1, 1, 0, by omega, by omega, rfl, rfl, rfl, rfl, rfl, rfl, by omega, by omega, by omega, by omega, fun _ => ⟨rfl, rfl⟩, fun z => ⟨rfl, rfl⟩, fun _ => rfl, fun z => by omega, fun z => by omega, fun z => by omega⟩ o9
  split at hl
  · exact hat 3 (by omega) (by omega) hl
  split at hl
  · exact hat 4 (by omega) (by omega) hl
  split at hl
  · exact hat 5 (by omega) (by omega) hl
  split at hl
  · split at hl
    · cases hl
    · rename_i v l q' e1
      cases hl
      obtain ⟨o1, o2, o3, o4, o5, o6⟩ := lftM_ok e1
      have hm : l.getD 0 0 ∈ l := by
        cases l with
        | nil => exact absurd o3 (by decide)
        | cons a l => exact List.mem_cons_self
      exact h.at (by omega) (by omega) (o5 _ hm).1 (o5 _ hm).2 o6 ⟨fun z => absurd rfl z, fun _ => ⟨o3, o4, rfl, o5⟩⟩
  split at hl
  · split at hl
    · cases hl
    · rename_i a b t q' e1
      cases hl
      obtain ⟨o1, o2, o3, o4, o5, o6, o7⟩ := wayM_ok e1
      refine ⟨h.1, h.2.1, fun a' b' t' hw => ?_, h.2.2.2⟩
      rcases List.mem_append.mp hw with z | z
      · exact h.2.2.1 a' b' t' z
      · have z' := List.mem_singleton.mp z
        cases z'
        exact ⟨o3, o4, Ne.symm o7, o5, o6⟩
  split at hl
  · split at hl
    · cases hl
    · rename_i a b q' e1
      cases hl
      obtain ⟨o1, o2, o3, o4, o5, o6⟩ := srvM_ok e1
      refine ⟨h.1, h.2.1, h.2.2.1, fun a' b' hw => ?_⟩
      rcases List.mem_append.mp hw with z | z
      · exact h.2.2.2 a' b' z
      · have z' := List.mem_singleton.mp z
        cases z'
        exact ⟨o3, o4, o5, o6⟩
  cases hl
theorem EdW.text {tx : Nat → Int32} {len : Nat} : ∀ (f p : Nat) (E E' : Ed), EdW E → textM tx len f E p = .ok E' → EdW E'
  | 0, p, E, E', h, e => by cases e; exact h
  | f + 1, p, E, E', h, e => by
    unfold textM at e
    split at e
    · split at e
      · cases e
      · rename_i r q hl
        exact EdW.text f q _ E' (h.line hl) e
    · cases e; exact h
