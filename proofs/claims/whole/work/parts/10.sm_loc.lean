/-! MY OWN LAYER: a small machine over the bytecode, with real values and real addresses; one theorem says that what it does the JVM's model does. Here: junk, local variables, and the instructions that move locals and operand stack alone. -/
/-- what a local variable holds of which nothing is known -/
abbrev jk : Value := .retAddr 0
/-- a long that stands at i is lost -/
def sm_kl (L : List Value) (i : Nat) : List Value := match L[i]? with
  | some v => if v.category = 2 then L.set i jk else L
  | none => L
def sm_pk (L : List Value) (i : Nat) : List Value := match i with
  | 0 => L
  | k + 1 => sm_kl L k
def sm_s1 (L : List Value) (i : Nat) (v : Value) : List Value := (sm_pk L i).set i v
def sm_s2 (L : List Value) (i : Nat) (v : Value) : List Value := ((sm_pk L i).set i v).set (i + 1) jk
def sm_as : Nat → List Value → List (Nat × Value)
  | _, [] => []
  | i, v :: vs => if v = jk then sm_as (i + 1) vs else (i, v) :: sm_as (i + 1) vs
theorem sm_mem : ∀ (L : List Value) (i j : Nat) (w : Value), (j, w) ∈ sm_as i L ↔ i ≤ j ∧ L[j - i]? = some w ∧ w ≠ jk
  | [], i, j, w => by simp [sm_as]
  | v :: vs, i, j, w => by
    have ih := sm_mem vs (i + 1) j w
    unfold sm_as
    by_cases hv : v = jk
    · rw [if_pos hv, ih]
      constructor
      · rintro ⟨h1, h2, h3⟩
        have e : j - i = (j - (i + 1)) + 1 := by omega
        exact ⟨by omega, by rw [e, List.getElem?_cons_succ]; exact h2, h3⟩
      · rintro ⟨h1, h2, h3⟩
        have hne : j ≠ i := by
          intro e
          subst e
          rw [Nat.sub_self, List.getElem?_cons_zero] at h2
          exact h3 ((Option.some.inj h2).symm.trans hv)
        have e : j - i = (j - (i + 1)) + 1 := by omega
        rw [e, List.getElem?_cons_succ] at h2
        exact ⟨by omega, h2, h3⟩
    · rw [if_neg hv, List.mem_cons, ih]
      constructor
      · rintro (h | ⟨h1, h2, h3⟩)
        · cases h
          exact ⟨Nat.le_refl _, by rw [Nat.sub_self, List.getElem?_cons_zero], hv⟩
        · have e : j - i = (j - (i + 1)) + 1 := by omega
          exact ⟨by omega, by rw [e, List.getElem?_cons_succ]; exact h2, h3⟩
      · rintro ⟨h1, h2, h3⟩
        by_cases hne : j = i
        · subst hne
          rw [Nat.sub_self, List.getElem?_cons_zero] at h2
          rw [Option.some.inj h2]
          exact Or.inl rfl
        · have e : j - i = (j - (i + 1)) + 1 := by omega
          rw [e, List.getElem?_cons_succ] at h2
          exact Or.inr ⟨by omega, h2, h3⟩
/-- the machine's local variables hold the list -/
def sm_lc (ls : Array Slot) (nL : Nat) (L : List Value) : Prop := L.length = nL ∧ lv_has ls nL (sm_as 0 L)
theorem sm_lc.get {ls : Array Slot} {nL : Nat} {L : List Value} (h : sm_lc ls nL L) {i : Nat} {v : Value} (hi : L[i]? = some v) (hv : v ≠ jk) : ls[i]? = some (.val v) :=
  h.2.2.2 (i, v) ((sm_mem L 0 i v).mpr ⟨Nat.zero_le _, by rw [Nat.sub_zero]; exact hi, hv⟩)
theorem sm_kl_len (L : List Value) (i : Nat) : (sm_kl L i).length = L.length := by
  unfold sm_kl
  split
  · split
    · exact List.length_set
    · rfl
  · rfl
theorem sm_pk_len (L : List Value) (i : Nat) : (sm_pk L i).length = L.length := by
  unfold sm_pk
  split
  · rfl
  · exact sm_kl_len _ _
theorem sm_kl_get {L : List Value} {i j : Nat} {w : Value} (h : (sm_kl L i)[j]? = some w) (hw : w ≠ jk) : L[j]? = some w ∧ (j = i → ¬ w.category = 2) := by
  unfold sm_kl at h
  split at h
  · rename_i v hv
    split at h
    · rename_i hc
      by_cases e : j = i
      · subst e
        have hlt : j < L.length := (List.getElem?_eq_some_iff.mp hv).1
        rw [List.getElem?_set_self hlt] at h
        exact absurd (Option.some.inj h).symm hw
      · rw [List.getElem?_set_ne (fun q => e q.symm)] at h
        exact ⟨h, fun q => absurd q e⟩
    · rename_i hc
      refine ⟨h, fun q => ?_⟩
      subst q
      rw [hv] at h
      rw [← Option.some.inj h]
      exact hc
  · rename_i hv
    refine ⟨h, fun q => ?_⟩
    subst q
    rw [hv] at h
    cases h
theorem sm_pk_get {L : List Value} {i j : Nat} {w : Value} (h : (sm_pk L i)[j]? = some w) (hw : w ≠ jk) : L[j]? = some w ∧ (j + 1 = i → ¬ w.category = 2) := by
  unfold sm_pk at h
  split at h
  · exact ⟨h, fun q => absurd q (by omega)⟩
  · obtain ⟨h1, h2⟩ := sm_kl_get h hw
    exact ⟨h1, fun q => h2 (by omega)⟩
theorem sm_lc.s1 {ls' : Array Slot} {nL i : Nat} {v : Value} {L : List Value} (hL : L.length = nL) (h : lv_has ls' nL ((i, v) :: (sm_as 0 L).filter (fun q => !(q.1 == i) && !(q.1 + 1 == i && q.2.category == 2)))) : sm_lc ls' nL (sm_s1 L i v) := by
  refine ⟨by unfold sm_s1; rw [List.length_set, sm_pk_len, hL], h.1, h.2.1, fun q hq => h.2.2 q ?_⟩
  obtain ⟨j, w⟩ := q
  obtain ⟨-, hj, hw⟩ := (sm_mem _ 0 j w).mp hq
  rw [Nat.sub_zero] at hj
  unfold sm_s1 at hj
  by_cases e : j = i
  · subst e
    rw [List.getElem?_set] at hj
    split at hj
    · split at hj
      · rw [Option.some.inj hj]
        exact List.mem_cons_self
      · cases hj
    · exact absurd rfl ‹_›
  · rw [List.getElem?_set_ne (fun q => e q.symm)] at hj
    obtain ⟨h1, h2⟩ := sm_pk_get hj hw
    refine List.mem_cons_of_mem _ (List.mem_filter.mpr ⟨(sm_mem L 0 j w).mpr ⟨Nat.zero_le _, by rw [Nat.sub_zero]; exact h1, hw⟩, ?_⟩)
    by_cases e2 : j + 1 = i
    · simp [e, h2 e2]
    · simp [e, e2]
theorem sm_lc.s2 {ls' : Array Slot} {nL i : Nat} {v : Value} {L : List Value} (hL : L.length = nL) (h : lv_has ls' nL ((i, v) :: (sm_as 0 L).filter (fun q => !(q.1 == i) && (!(q.1 == i + 1) && !(q.1 + 1 == i && q.2.category == 2))))) : sm_lc ls' nL (sm_s2 L i v) := by
  refine ⟨by unfold sm_s2; rw [List.length_set, List.length_set, sm_pk_len, hL], h.1, h.2.1, fun q hq => h.2.2 q ?_⟩
  obtain ⟨j, w⟩ := q
  obtain ⟨-, hj, hw⟩ := (sm_mem _ 0 j w).mp hq
  rw [Nat.sub_zero] at hj
  unfold sm_s2 at hj
  by_cases e1 : j = i + 1
  · subst e1
    rw [List.getElem?_set] at hj
    split at hj
    · split at hj
      · exact absurd (Option.some.inj hj).symm hw
      · cases hj
    · exact absurd rfl ‹_›
  · rw [List.getElem?_set_ne (fun q => e1 q.symm)] at hj
    by_cases e : j = i
    · subst e
      rw [List.getElem?_set] at hj
      split at hj
      · split at hj
        · rw [Option.some.inj hj]
          exact List.mem_cons_self
        · cases hj
      · exact absurd rfl ‹_›
    · rw [List.getElem?_set_ne (fun q => e q.symm)] at hj
      obtain ⟨h1, h2⟩ := sm_pk_get hj hw
      refine List.mem_cons_of_mem _ (List.mem_filter.mpr ⟨(sm_mem L 0 j w).mpr ⟨Nat.zero_le _, by rw [Nat.sub_zero]; exact h1, hw⟩, ?_⟩)
      by_cases e2 : j + 1 = i
      · simp [e, e1, h2 e2]
      · simp [e, e1, e2]
