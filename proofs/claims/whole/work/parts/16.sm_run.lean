/-! THE SMALL MACHINE: n steps at the most; method j at pc, locals L, operand stack S, heap h; the answer: 0 and what came back (or 1 + the number of what was thrown), the heap -/
def sm_fl : List Value → List Value
  | [] => []
  | v :: vs => if v.category = 2 then v :: jk :: sm_fl vs else v :: sm_fl vs
def sm_en (As : List Value) (n : Nat) : List Value := sm_fl As ++ List.replicate (n - (sm_fl As).length) jk
/-- a call: the callee, its arguments, the rest of the stack -/
def sm_cl (i : Instr) (d : Nat × Nat) (S : List Value) (h : sm_H) : Option (Nat × List Value × List Value) := match i with
  | .invokestatic _ => if d.2 < 4 ∧ xna d.1 ≤ S.length ∧ ((S.drop (xna d.1)).map fun v => v.category).sum ≤ 8 ∧ (sm_fl (S.take (xna d.1)).reverse).length ≤ xml d.1 then some (d.1, (S.take (xna d.1)).reverse, S.drop (xna d.1)) else none
  | .invokevirtual _ => match S.drop (xna d.1) with
    | .ref b :: r => if xna d.1 ≤ S.length ∧ hC h b = 16 + xrc d.1 ∧ (r.map fun v => v.category).sum ≤ 8 ∧ (sm_fl (.ref b :: (S.take (xna d.1)).reverse)).length ≤ xml d.1 then some (d.1, .ref b :: (S.take (xna d.1)).reverse, r) else none
    | _ => none
  | .invokespecial _ => if d.2 = 2 then none else match S.drop (xna d.1) with
    | .ref b :: r => if xna d.1 ≤ S.length ∧ (r.map fun v => v.category).sum ≤ 8 ∧ (sm_fl (.ref b :: (S.take (xna d.1)).reverse)).length ≤ xml d.1 then some (d.1, .ref b :: (S.take (xna d.1)).reverse, r) else none
    | _ => none
  | _ => none
/-- Object's constructor -/
def sm_oi (i : Instr) (d : Nat × Nat) (S : List Value) : Option (List Value) := match i, S with
  | .invokespecial _, .ref _ :: r => if d.2 = 2 ∧ (r.map fun v => v.category).sum ≤ 8 then some r else none
  | _, _ => none
/-- Math.max, Math.min -/
def sm_mm (i : Instr) (d : Nat × Nat) (S : List Value) : Option (List Value) := match i, S with
  | .invokestatic _, .int y :: .int x :: r => if (r.map fun v => v.category).sum ≤ 8 then (if d.2 = 4 then some (.int (if x < y then y else x) :: r) else (if d.2 = 5 then some (.int (if y < x then y else x) :: r) else none)) else none
  | _, _ => none
/-- Arrays.copyOf of an array of references, into more places -/
def cpA (h : sm_H) (a n : Nat) : sm_H := (hT h + 1, hU h + n, fun b => if b = hT h then 7 else hC h b, fun b => if b = hT h then n else hL h b, hF h, fun b j => if b = hT h then (if j < hL h a then hA h a j else .null) else hA h b j, hZ h)
/-- every place of the array holds nothing or an object of a known class -/
def cpE (h : sm_H) (a : Nat) : Prop := ∀ i, i < hL h a → hA h a i = .null ∨ ∃ b, hA h a i = .ref b ∧ 16 ≤ hC h b ∧ hC h b < 16 + xob
def cpC (d : Nat × Nat) (h : sm_H) (a : Nat) (n : Int32) (r : List Value) : Prop := d.2 = 6 ∧ hC h a = 7 ∧ ¬ n < 0 ∧ hL h a ≤ n.toNatClampNeg ∧ n.toNatClampNeg * 4 ≤ 536870912 ∧ (r.map fun v => v.category).sum ≤ 8 ∧ cpE h a
noncomputable def sm_ex (i : Instr) (d : Nat × Nat) (S : List Value) (h : sm_H) : Option (List Value × sm_H) := match i, S with
  | .invokestatic _, .int n :: .ref a :: r => @ite _ (cpC d h a n r) (Classical.propDecidable _) (some (.ref (hT h) :: r, cpA h a n.toNatClampNeg)) none
  | _, _ => none
/-- 'throw new ..' begins -/
def sm_th (i : Instr) (d : Nat × Nat) (S : List Value) : Option Nat := match i with
  | .new _ => if d.2 = 1 then (match S with
    | [] => some d.1
    | _ => none) else none
  | _ => none
/-- what lies there then -/
def thH (h : sm_H) (ci : Nat) : sm_H := newO h ci 6 (fun _ => .null)
/-- where a call at pc is caught -/
def xhi (i : Instr) (j pc k : Nat) : Option Nat := match i with
  | .invokevirtual _ => xhd j pc k
  | _ => none
noncomputable def sm_run : Nat → Nat → Nat → List Value → List Value → sm_H → Option (Nat × Option Value × sm_H)
  | 0, _, _, _, _, _ => none
  | n + 1, j, pc, L, S, h => match xat j pc with
    | none => none
    | some (i, d) => match sm_th i d S with
     | some ci => some (ci + 1, some (.ref (hT h)), thH h ci)
     | none => match sm_ps i d L S with
      | some (L', S') => sm_run n j (pc + sm_len i) L' S' h
      | none => match sm_br i d pc S with
        | some (C, t, f, S') => @ite _ C (Classical.propDecidable C) (sm_run n j t L S' h) (sm_run n j f L S' h)
        | none => match sm_sw i pc S with
          | some (t, S') => sm_run n j t L S' h
          | none => match sm_hp i d S h with
            | some (S', h') => sm_run n j (pc + sm_len i) L S' h'
            | none => match sm_rt i (xrt j) S with
              | some v => some (0, v, h)
              | none => match sm_oi i d S with
                | some r => sm_run n j (pc + 3) L r h
                | none => match sm_mm i d S with
                 | some r => sm_run n j (pc + 3) L r h
                 | none => match sm_ex i d S h with
                 | some (S', h') => sm_run n j (pc + 3) L S' h'
                 | none => match sm_cl i d S h with
                  | some (j', As, r) => match sm_run n j' 0 (sm_en As (xml j')) [] h with
                    | some (0, v, h') => sm_run n j (pc + 3) L (v.toList ++ r) h'
                    | some (k + 1, some (.ref a), h') => match xhi i j pc k with
                      | some hp => sm_run n j hp L [.ref a] h'
                      | none => none
                    | _ => none
                  | none => none
theorem sm_hp_mono {i : Instr} {d : Nat × Nat} {S S' : List Value} {h h' : sm_H} (hh : sm_hp i d S h = some (S', h')) : hT h ≤ hT h' ∧ hU h ≤ hU h' := by
  have e0 : hT h ≤ hT h ∧ hU h ≤ hU h := ⟨Nat.le_refl _, Nat.le_refl _⟩
  have e1 : ∀ ci n dv, hT h ≤ hT (newO h ci n dv) ∧ hU h ≤ hU (newO h ci n dv) := fun ci n dv => ⟨Nat.le_add_right _ _, Nat.le_add_right _ _⟩
  have e2 : ∀ t n dv, hT h ≤ hT (newA h t n dv) ∧ hU h ≤ hU (newA h t n dv) := fun t n dv => ⟨Nat.le_add_right _ _, Nat.le_add_right _ _⟩
  cases i with
  | getfield x => replace hh : sm_gf d.1 (d.2 / 2) S h = some (S', h') := hh; unfold sm_gf at hh; split at hh <;> (try split at hh) <;> cases hh <;> exact e0
  | putfield x => replace hh : sm_pf d.1 (d.2 / 2) S h = some (S', h') := hh; unfold sm_pf at hh; split at hh <;> (try split at hh) <;> cases hh <;> exact e0
  | new x => replace hh : (if d.2 = 0 then sm_nw d.1 S h else none) = some (S', h') := hh; unfold sm_nw at hh; split at hh <;> (try split at hh) <;> cases hh <;> exact e1 _ _ _
  | newarray t => replace hh : sm_na t S h = some (S', h') := hh; unfold sm_na at hh; split at hh <;> (try split at hh) <;> cases hh <;> exact e2 _ _ _
  | arraylength => replace hh : sm_le S h = some (S', h') := hh; unfold sm_le at hh; split at hh <;> (try split at hh) <;> cases hh <;> exact e0
  | iaload => replace hh : sm_al .int S h = some (S', h') := hh; unfold sm_al at hh; split at hh <;> (try split at hh) <;> cases hh <;> exact e0
  | laload => replace hh : sm_al .long S h = some (S', h') := hh; unfold sm_al at hh; split at hh <;> (try split at hh) <;> cases hh <;> exact e0
  | caload => replace hh : sm_al .char S h = some (S', h') := hh; unfold sm_al at hh; split at hh <;> (try split at hh) <;> cases hh <;> exact e0
  | baload => replace hh : sm_bl2 S h = some (S', h') := hh; unfold sm_bl2 at hh; split at hh <;> (try split at hh) <;> cases hh <;> exact e0
  | iastore => replace hh : sm_ai S h = some (S', h') := hh; unfold sm_ai at hh; split at hh <;> (try split at hh) <;> cases hh <;> exact e0
  | lastore => replace hh : sm_aj S h = some (S', h') := hh; unfold sm_aj at hh; split at hh <;> (try split at hh) <;> cases hh <;> exact e0
  | castore => replace hh : sm_ac S h = some (S', h') := hh; unfold sm_ac at hh; split at hh <;> (try split at hh) <;> cases hh <;> exact e0
  | bastore => replace hh : sm_ab S h = some (S', h') := hh; unfold sm_ab at hh; split at hh <;> (try split at hh) <;> (try split at hh) <;> cases hh <;> exact e0
  | checkcast x => replace hh : sm_cc d.1 S h = some (S', h') := hh; unfold sm_cc at hh; split at hh <;> (try split at hh) <;> cases hh <;> exact e0
  | anewarray x => replace hh : sm_an S h = some (S', h') := hh; unfold sm_an at hh; split at hh <;> (try split at hh) <;> cases hh <;> exact e2 _ _ _
  | aaload => replace hh : sm_al (.object "java/lang/Object") S h = some (S', h') := hh; unfold sm_al at hh; split at hh <;> (try split at hh) <;> cases hh <;> exact e0
  | aastore => replace hh : sm_aa S h = some (S', h') := hh; unfold sm_aa at hh; split at hh <;> (try split at hh) <;> cases hh <;> exact e0
  | ldc x => cases hh; exact e0
  | ldc2_w x => cases hh; exact e0
  | getstatic x => cases hh; exact e0
  | _ => cases hh
theorem sm_ex_some {i : Instr} {d : Nat × Nat} {S S' : List Value} {h h' : sm_H} (hh : sm_ex i d S h = some (S', h')) : ∃ (x : Nat) (n : Int32) (a : Nat) (r : List Value), i = .invokestatic x ∧ S = .int n :: .ref a :: r ∧ cpC d h a n r ∧ S' = .ref (hT h) :: r ∧ h' = cpA h a n.toNatClampNeg := by
  unfold sm_ex at hh
  split at hh
  · split at hh
    · rename_i hq; cases hh; exact ⟨_, _, _, _, rfl, rfl, hq, rfl, rfl⟩
    · cases hh
  · cases hh
theorem sm_ex_mono {i : Instr} {d : Nat × Nat} {S S' : List Value} {h h' : sm_H} (hh : sm_ex i d S h = some (S', h')) : hT h ≤ hT h' ∧ hU h ≤ hU h' := by
  unfold sm_ex at hh
  split at hh
  · split at hh
    · cases hh; exact ⟨Nat.le_add_right _ _, Nat.le_add_right _ _⟩
    · cases hh
  · cases hh
theorem sm_mono : ∀ (n j pc : Nat) (L S : List Value) (h : sm_H) (k : Nat) (v : Option Value) (h' : sm_H), sm_run n j pc L S h = some (k, v, h') → hT h ≤ hT h' ∧ hU h ≤ hU h'
  | 0, j, pc, L, S, h, k, v, h', r => by cases r
  | n + 1, j, pc, L, S, h, k, v, h', r => by
    have ih := sm_mono n
    unfold sm_run at r
    split at r
    · cases r
    · split at r
      · cases r; exact ⟨Nat.le_add_right _ _, Nat.le_add_right _ _⟩
      split at r
      · exact ih _ _ _ _ _ _ _ _ r
      · split at r
        · rename_i C t f S' _
          by_cases hC : C
          · rw [if_pos hC] at r; exact ih _ _ _ _ _ _ _ _ r
          · rw [if_neg hC] at r; exact ih _ _ _ _ _ _ _ _ r
        · split at r
          · exact ih _ _ _ _ _ _ _ _ r
          · split at r
            · rename_i hh
              have e1 := sm_hp_mono hh
              have e2 := ih _ _ _ _ _ _ _ _ r
              exact ⟨Nat.le_trans e1.1 e2.1, Nat.le_trans e1.2 e2.2⟩
            · split at r
              · cases r; exact ⟨Nat.le_refl _, Nat.le_refl _⟩
              · split at r
                · exact ih _ _ _ _ _ _ _ _ r
                · split at r
                  · exact ih _ _ _ _ _ _ _ _ r
                  · split at r
                    · rename_i hh
                      have e1 := sm_ex_mono hh
                      have e2 := ih _ _ _ _ _ _ _ _ r
                      exact ⟨Nat.le_trans e1.1 e2.1, Nat.le_trans e1.2 e2.2⟩
                    · split at r
                      · split at r
                        · rename_i hc
                          have e1 := ih _ _ _ _ _ _ _ _ hc
                          have e2 := ih _ _ _ _ _ _ _ _ r
                          exact ⟨Nat.le_trans e1.1 e2.1, Nat.le_trans e1.2 e2.2⟩
                        · rename_i hc
                          split at r
                          · have e1 := ih _ _ _ _ _ _ _ _ hc
                            have e2 := ih _ _ _ _ _ _ _ _ r
                            exact ⟨Nat.le_trans e1.1 e2.1, Nat.le_trans e1.2 e2.2⟩
                          · cases r
                        · cases r
                      · cases r
/-- more steps don't change an answer -/
theorem sm_more : ∀ (n : Nat) (j pc : Nat) (L S : List Value) (h : sm_H) (x : Nat × Option Value × sm_H), sm_run n j pc L S h = some x → sm_run (n + 1) j pc L S h = some x
  | 0, j, pc, L, S, h, x, r => by cases r
  | n + 1, j, pc, L, S, h, x, r => by
    have ih := sm_more n
    unfold sm_run at r
    unfold sm_run
    split at r
    · cases r
    · rename_i i d hx
      split at r
      · exact r
      split at r
      · exact ih _ _ _ _ _ _ r
      · split at r
        · rename_i C t f S' _
          by_cases hC : C
          · rw [if_pos hC] at r ⊢; exact ih _ _ _ _ _ _ r
          · rw [if_neg hC] at r ⊢; exact ih _ _ _ _ _ _ r
        · split at r
          · exact ih _ _ _ _ _ _ r
          · split at r
            · exact ih _ _ _ _ _ _ r
            · split at r
              · exact r
              · split at r
                · exact ih _ _ _ _ _ _ r
                · split at r
                  · exact ih _ _ _ _ _ _ r
                  · split at r
                    · exact ih _ _ _ _ _ _ r
                    · split at r
                      · split at r
                        · rename_i hc
                          rw [ih _ _ _ _ _ _ hc]
                          exact ih _ _ _ _ _ _ r
                        · rename_i hc
                          rw [ih _ _ _ _ _ _ hc]
                          dsimp only
                          split at r
                          · exact ih _ _ _ _ _ _ r
                          · cases r
                        · cases r
                      · cases r
