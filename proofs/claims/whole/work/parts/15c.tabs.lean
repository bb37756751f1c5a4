/-! the code of each method as a list of (pc, instruction, what the tables tell of it); k_j: it is what xat tells -/
def sm_lk (pc : Nat) : List (Nat × Instr × Nat × Nat) → Option (Instr × Nat × Nat)
  | [] => none
  | e :: l => cond (Nat.beq e.1 pc) (some e.2) (sm_lk pc l)
theorem sm_lk_mem {pc : Nat} {x : Instr × Nat × Nat} : ∀ {l : List (Nat × Instr × Nat × Nat)}, sm_lk pc l = some x → (pc, x) ∈ l
  | [], h => by cases h
  | e :: l, h => by
    unfold sm_lk at h
    cases hb : Nat.beq e.1 pc with
    | true =>
      rw [hb] at h
      have h1 : e.1 = pc := Nat.eq_of_beq_eq_true hb
      have h2 : e.2 = x := Option.some.inj h
      rw [← h1, ← h2]
      exact List.mem_cons_self
    | false =>
      rw [hb] at h
      exact List.mem_cons_of_mem _ (sm_lk_mem h)
/-- a table of method j's code -/
def sm_tab (j : Nat) (t : Nat → Option (Instr × Nat × Nat)) : Prop := ∀ pc e, t pc = some e → xat j pc = some e
theorem sm_tabOf {j : Nat} {l : List (Nat × Instr × Nat × Nat)} (h : l.all (fun e => decide (xat j e.1 = some e.2)) = true) : sm_tab j (fun pc => sm_lk pc l) := by
  intro pc e he
  have h1 := List.all_eq_true.mp h (pc, e) (sm_lk_mem he)
  dsimp only at h1
  exact of_decide_eq_true h1
