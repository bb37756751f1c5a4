section
def xcl : List vw_C := []
def xty (_ _ : Nat) : FieldType := .int
def xat (_ _ : Nat) : Option (Instr × Nat × Nat) := none
def xmn (_ : Nat) : MethodName := ⟨"", "", ""⟩
def xcc (_ : Nat) : ByteArray := ⟨#[]⟩
def xml (_ : Nat) : Nat := 0
def xrt (_ : Nat) : Option FieldType := none
def xrk (_ : Nat) : Nat := 0
def xna (_ : Nat) : Nat := 0
def xrc (_ : Nat) : Nat := 0
def xrl (_ : Nat) : Nat := 0
def xob : Nat := 0
theorem xob_le : xob ≤ xcl.length := Nat.zero_le _
end
section
/-! MY OWN LAYER: a small machine over the bytecode, with real values and real addresses; one theorem says that what it does the JVM's model does. Here: junk, local variables, and the instructions that move locals and operand stack alone. -/
/-- what a local variable holds of which nothing is known -/
abbrev jk : Value := .retAddr 0
/-- a long that stands at i is lost -/
def sm_kl (L : List Value) (i : Nat) : List Value := match L[i]? with
  | some v => if v.category = 2 then L.set i jk else L
  | none => L
def sm_pk (L : List Value) (i : Nat) : List Value := match i with
  | 0 => L
  | k + 1 => sm_kl L k
def sm_s1 (L : List Value) (i : Nat) (v : Value) : List Value := (sm_pk L i).set i v
def sm_s2 (L : List Value) (i : Nat) (v : Value) : List Value := ((sm_pk L i).set i v).set (i + 1) jk
def sm_as : Nat → List Value → List (Nat × Value)
  | _, [] => []
  | i, v :: vs => if v = jk then sm_as (i + 1) vs else (i, v) :: sm_as (i + 1) vs
theorem sm_mem : ∀ (L : List Value) (i j : Nat) (w : Value), (j, w) ∈ sm_as i L ↔ i ≤ j ∧ L[j - i]? = some w ∧ w ≠ jk
  | [], i, j, w => by simp [sm_as]
  | v :: vs, i, j, w => by
    have ih := sm_mem vs (i + 1) j w
    unfold sm_as
    by_cases hv : v = jk
    · rw [if_pos hv, ih]
      constructor
      · rintro ⟨h1, h2, h3⟩
        have e : j - i = (j - (i + 1)) + 1 := by omega
        exact ⟨by omega, by rw [e, List.getElem?_cons_succ]; exact h2, h3⟩
      · rintro ⟨h1, h2, h3⟩
        have hne : j ≠ i := by
          intro e
          subst e
          rw [Nat.sub_self, List.getElem?_cons_zero] at h2
          exact h3 ((Option.some.inj h2).symm.trans hv)
        have e : j - i = (j - (i + 1)) + 1 := by omega
        rw [e, List.getElem?_cons_succ] at h2
        exact ⟨by omega, h2, h3⟩
    · rw [if_neg hv, List.mem_cons, ih]
      constructor
      · rintro (h | ⟨h1, h2, h3⟩)
        · cases h
          exact ⟨Nat.le_refl _, by rw [Nat.sub_self, List.getElem?_cons_zero], hv⟩
        · have e : j - i = (j - (i + 1)) + 1 := by omega
          exact ⟨by omega, by rw [e, List.getElem?_cons_succ]; exact h2, h3⟩
      · rintro ⟨h1, h2, h3⟩
        by_cases hne : j = i
        · subst hne
          rw [Nat.sub_self, List.getElem?_cons_zero] at h2
          rw [Option.some.inj h2]
          exact Or.inl rfl
        · have e : j - i = (j - (i + 1)) + 1 := by omega
          rw [e, List.getElem?_cons_succ] at h2
          exact Or.inr ⟨by omega, h2, h3⟩
/-- the machine's local variables hold the list -/
def sm_lc (ls : Array Slot) (nL : Nat) (L : List Value) : Prop := L.length = nL ∧ lv_has ls nL (sm_as 0 L)
theorem sm_lc.get {ls : Array Slot} {nL : Nat} {L : List Value} (h : sm_lc ls nL L) {i : Nat} {v : Value} (hi : L[i]? = some v) (hv : v ≠ jk) : ls[i]? = some (.val v) :=
  h.2.2.2 (i, v) ((sm_mem L 0 i v).mpr ⟨Nat.zero_le _, by rw [Nat.sub_zero]; exact hi, hv⟩)
theorem sm_kl_len (L : List Value) (i : Nat) : (sm_kl L i).length = L.length := by
  unfold sm_kl
  split
  · split
    · exact List.length_set
    · rfl
  · rfl
theorem sm_pk_len (L : List Value) (i : Nat) : (sm_pk L i).length = L.length := by
  unfold sm_pk
  split
  · rfl
  · exact sm_kl_len _ _
theorem sm_kl_get {L : List Value} {i j : Nat} {w : Value} (h : (sm_kl L i)[j]? = some w) (hw : w ≠ jk) : L[j]? = some w ∧ (j = i → ¬ w.category = 2) := by
  unfold sm_kl at h
  split at h
  · rename_i v hv
    split at h
    · rename_i hc
      by_cases e : j = i
      · subst e
        have hlt : j < L.length := (List.getElem?_eq_some_iff.mp hv).1
        rw [List.getElem?_set_self hlt] at h
        exact absurd (Option.some.inj h).symm hw
      · rw [List.getElem?_set_ne (fun q => e q.symm)] at h
        exact ⟨h, fun q => absurd q e⟩
    · rename_i hc
      refine ⟨h, fun q => ?_⟩
      subst q
      rw [hv] at h
      rw [← Option.some.inj h]
      exact hc
  · rename_i hv
    refine ⟨h, fun q => ?_⟩
    subst q
    rw [hv] at h
    cases h
theorem sm_pk_get {L : List Value} {i j : Nat} {w : Value} (h : (sm_pk L i)[j]? = some w) (hw : w ≠ jk) : L[j]? = some w ∧ (j + 1 = i → ¬ w.category = 2) := by
  unfold sm_pk at h
  split at h
  · exact ⟨h, fun q => absurd q (by omega)⟩
  · obtain ⟨h1, h2⟩ := sm_kl_get h hw
    exact ⟨h1, fun q => h2 (by omega)⟩
theorem sm_lc.s1 {ls' : Array Slot} {nL i : Nat} {v : Value} {L : List Value} (hL : L.length = nL) (h : lv_has ls' nL ((i, v) :: (sm_as 0 L).filter (fun q => !(q.1 == i) && !(q.1 + 1 == i && q.2.category == 2)))) : sm_lc ls' nL (sm_s1 L i v) := by
  refine ⟨by unfold sm_s1; rw [List.length_set, sm_pk_len, hL], h.1, h.2.1, fun q hq => h.2.2 q ?_⟩
  obtain ⟨j, w⟩ := q
  obtain ⟨-, hj, hw⟩ := (sm_mem _ 0 j w).mp hq
  rw [Nat.sub_zero] at hj
  unfold sm_s1 at hj
  by_cases e : j = i
  · subst e
    rw [List.getElem?_set] at hj
    split at hj
    · split at hj
      · rw [Option.some.inj hj]
        exact List.mem_cons_self
      · cases hj
    · exact absurd rfl ‹_›
  · rw [List.getElem?_set_ne (fun q => e q.symm)] at hj
    obtain ⟨h1, h2⟩ := sm_pk_get hj hw
    refine List.mem_cons_of_mem _ (List.mem_filter.mpr ⟨(sm_mem L 0 j w).mpr ⟨Nat.zero_le _, by rw [Nat.sub_zero]; exact h1, hw⟩, ?_⟩)
    by_cases e2 : j + 1 = i
    · simp [e, h2 e2]
    · simp [e, e2]
theorem sm_lc.s2 {ls' : Array Slot} {nL i : Nat} {v : Value} {L : List Value} (hL : L.length = nL) (h : lv_has ls' nL ((i, v) :: (sm_as 0 L).filter (fun q => !(q.1 == i) && (!(q.1 == i + 1) && !(q.1 + 1 == i && q.2.category == 2))))) : sm_lc ls' nL (sm_s2 L i v) := by
  refine ⟨by unfold sm_s2; rw [List.length_set, List.length_set, sm_pk_len, hL], h.1, h.2.1, fun q hq => h.2.2 q ?_⟩
  obtain ⟨j, w⟩ := q
  obtain ⟨-, hj, hw⟩ := (sm_mem _ 0 j w).mp hq
  rw [Nat.sub_zero] at hj
  unfold sm_s2 at hj
  by_cases e1 : j = i + 1
  · subst e1
    rw [List.getElem?_set] at hj
    split at hj
    · split at hj
      · exact absurd (Option.some.inj hj).symm hw
      · cases hj
    · exact absurd rfl ‹_›
  · rw [List.getElem?_set_ne (fun q => e1 q.symm)] at hj
    by_cases e : j = i
    · subst e
      rw [List.getElem?_set] at hj
      split at hj
      · split at hj
        · rw [Option.some.inj hj]
          exact List.mem_cons_self
        · cases hj
      · exact absurd rfl ‹_›
    · rw [List.getElem?_set_ne (fun q => e q.symm)] at hj
      obtain ⟨h1, h2⟩ := sm_pk_get hj hw
      refine List.mem_cons_of_mem _ (List.mem_filter.mpr ⟨(sm_mem L 0 j w).mpr ⟨Nat.zero_le _, by rw [Nat.sub_zero]; exact h1, hw⟩, ?_⟩)
      by_cases e2 : j + 1 = i
      · simp [e, e1, h2 e2]
      · simp [e, e1, e2]
end
section
/-! the instructions that move locals and operand stack alone; d: what a table tells of a constant (d.2 = 0: the number d.1; else its negative) -/
def sm_k : Nat × Nat → Int32
  | (n, 0) => nI n
  | (n, _ + 1) => -(nI n)
def sm_ld (t : Nat) (L S : List Value) (i : Nat) : Option (List Value × List Value) := match t, L[i]? with
  | 0, some (.int x) => some (L, .int x :: S)
  | 1, some (.long x) => some (L, .long x :: S)
  | 2, some (.ref x) => some (L, .ref x :: S)
  | 2, some .null => some (L, .null :: S)
  | _, _ => none
def sm_si (L S : List Value) (i : Nat) : Option (List Value × List Value) := match S with
  | .int x :: r => if i < L.length then some (sm_s1 L i (.int x), r) else none
  | _ => none
def sm_sl (L S : List Value) (i : Nat) : Option (List Value × List Value) := match S with
  | .long x :: r => if i + 1 < L.length then some (sm_s2 L i (.long x), r) else none
  | _ => none
def sm_sr (L S : List Value) (i : Nat) : Option (List Value × List Value) := match S with
  | .ref x :: r => if i < L.length then some (sm_s1 L i (.ref x), r) else none
  | .null :: r => if i < L.length then some (sm_s1 L i .null, r) else none
  | _ => none
def sm_b2 (f : Int32 → Int32 → Int32) (L S : List Value) : Option (List Value × List Value) := match S with
  | .int y :: .int x :: r => some (L, .int (f x y) :: r)
  | _ => none
def sm_bl (f : Int64 → Int64 → Int64) (L S : List Value) : Option (List Value × List Value) := match S with
  | .long y :: .long x :: r => some (L, .long (f x y) :: r)
  | _ => none
def sm_sh (f : Int64 → Int32 → Int64) (L S : List Value) : Option (List Value × List Value) := match S with
  | .int y :: .long x :: r => some (L, .long (f x y) :: r)
  | _ => none
def sm_u1 (f : Int32 → Value) (L S : List Value) : Option (List Value × List Value) := match S with
  | .int x :: r => some (L, f x :: r)
  | _ => none
def sm_dv (f : Int32 → Int32 → Int32) (L S : List Value) : Option (List Value × List Value) := match S with
  | .int y :: .int x :: r => if y = 0 then none else some (L, .int (f x y) :: r)
  | _ => none
def sm_lf (f : Int64 → Int32) (L S : List Value) : Option (List Value × List Value) := match S with
  | .long x :: r => some (L, .int (f x) :: r)
  | _ => none
def sm_lc2 (L S : List Value) : Option (List Value × List Value) := match S with
  | .long y :: .long x :: r => some (L, .int (lg_cmp x y) :: r)
  | _ => none
def sm_du (L S : List Value) : Option (List Value × List Value) := match S with
  | a :: r => if a.category = 1 then some (L, a :: a :: r) else none
  | _ => none
def sm_po (L S : List Value) : Option (List Value × List Value) := match S with
  | a :: r => if a.category = 1 then some (L, r) else none
  | _ => none
def sm_dx (L S : List Value) : Option (List Value × List Value) := match S with
  | a :: b :: r => if a.category = 1 ∧ b.category = 1 then some (L, a :: b :: a :: r) else none
  | _ => none
def sm_d2 (L S : List Value) : Option (List Value × List Value) := match S with
  | a :: b :: r => if a.category = 1 ∧ b.category = 1 then some (L, a :: b :: a :: b :: r) else none
  | _ => none
def sm_inc (L S : List Value) (i : Nat) (c : Int32) : Option (List Value × List Value) := match L[i]? with
  | some (.int x) => some (sm_s1 L i (.int (x + c)), S)
  | _ => none
def sm_ps (i : Instr) (d : Nat × Nat) (L S : List Value) : Option (List Value × List Value) := match i with
  | .iconst _ => some (L, .int (sm_k d) :: S)
  | .bipush _ => some (L, .int (sm_k d) :: S)
  | .sipush _ => some (L, .int (sm_k d) :: S)
  | .lconst n => some (L, .long (lN n) :: S)
  | .aconst_null => some (L, .null :: S)
  | .iload_n k => sm_ld 0 L S k
  | .iload k => sm_ld 0 L S k
  | .lload_n k => sm_ld 1 L S k
  | .lload k => sm_ld 1 L S k
  | .aload_n k => sm_ld 2 L S k
  | .aload k => sm_ld 2 L S k
  | .istore_n k => sm_si L S k
  | .istore k => sm_si L S k
  | .lstore_n k => sm_sl L S k
  | .lstore k => sm_sl L S k
  | .astore_n k => sm_sr L S k
  | .astore k => sm_sr L S k
  | .iinc k _ => sm_inc L S k (sm_k d)
  | .iadd => sm_b2 (fun x y => x + y) L S
  | .isub => sm_b2 (fun x y => x - y) L S
  | .imul => sm_b2 (fun x y => x * y) L S
  | .iand => sm_b2 (fun x y => x &&& y) L S
  | .ior => sm_b2 (fun x y => x ||| y) L S
  | .ixor => sm_b2 (fun x y => x ^^^ y) L S
  | .ishl => sm_b2 (fun x y => x <<< (y &&& 31)) L S
  | .ishr => sm_b2 (fun x y => x >>> (y &&& 31)) L S
  | .ineg => sm_u1 (fun x => .int (-x)) L S
  | .idiv => sm_dv (fun x y => x / y) L S
  | .irem => sm_dv (fun x y => x - x / y * y) L S
  | .ladd => sm_bl (fun x y => x + y) L S
  | .lsub => sm_bl (fun x y => x - y) L S
  | .lmul => sm_bl (fun x y => x * y) L S
  | .land => sm_bl (fun x y => x &&& y) L S
  | .lor => sm_bl (fun x y => x ||| y) L S
  | .lxor => sm_bl (fun x y => x ^^^ y) L S
  | .lshl => sm_sh (fun x y => x <<< (y.toInt64 &&& 63)) L S
  | .lushr => sm_sh (fun x y => (x.toUInt64 >>> (y.toInt64.toUInt64 &&& Int64.toUInt64 63)).toInt64) L S
  | .i2l => sm_u1 (fun x => .long x.toInt64) L S
  | .i2c => sm_u1 (fun x => .int (x.toUInt32 % 65536).toInt32) L S
  | .l2i => sm_lf (fun x => x.toInt32) L S
  | .lcmp => sm_lc2 L S
  | .dup => sm_du L S
  | .pop => sm_po L S
  | .dup_x1 => sm_dx L S
  | .dup2 => sm_d2 L S
  | _ => none
/-- what the constants' table owes -/
def sm_kok (i : Instr) (d : Nat × Nat) : Prop := match i with
  | .iconst n => Int32.ofInt n = sm_k d
  | .bipush n => (Int8.ofInt n).toInt32 = sm_k d
  | .sipush n => (Int16.ofInt n).toInt32 = sm_k d
  | .iinc _ n => Int32.ofInt n = sm_k d
  | _ => True
/-- how long an instruction is -/
def sm_len (i : Instr) : Nat := match i with
  | .bipush _ | .iload _ | .lload _ | .aload _ | .istore _ | .lstore _ | .astore _ | .newarray _ | .ldc _ => 2
  | .sipush _ | .iinc _ _ | .getfield _ | .putfield _ | .getstatic _ | .invokevirtual _ | .invokespecial _ | .invokestatic _ | .new _ | .anewarray _ | .checkcast _ | .instanceof _ | .goto _ | .if_icmp _ _ | .ifCond _ _ | .if_acmp _ _ | .ifnull _ | .ifnonnull _ | .ldc2_w _ | .ldc_w _ => 3
  | _ => 1
section SMP
variable {p : Program} {l : Launch} {e : Env} {R : Room} {s : State} {m : MethodId} {args : Array Value} {below : List Frame} {meth : Method} {c : Code} {H : Heap} {locs : List Loc} {cells slots : Nat} {Q : State → Prop} {cc : ByteArray} {pc nL : Nat} {ls : Array Slot} {L S L' S' : List Value}
theorem sm_ld_some {t i : Nat} (h : sm_ld t L S i = some (L', S')) : L' = L ∧ ∃ v, L[i]? = some v ∧ S' = v :: S ∧ ((t = 0 ∧ ∃ x, v = .int x) ∨ (t = 1 ∧ ∃ x, v = .long x) ∨ (t = 2 ∧ ((∃ x, v = .ref x) ∨ v = .null))) := by
  unfold sm_ld at h
  split at h
  · rename_i x hx; cases h; exact ⟨rfl, _, hx, rfl, Or.inl ⟨rfl, _, rfl⟩⟩
  · rename_i x hx; cases h; exact ⟨rfl, _, hx, rfl, Or.inr (Or.inl ⟨rfl, _, rfl⟩)⟩
  · rename_i x hx; cases h; exact ⟨rfl, _, hx, rfl, Or.inr (Or.inr ⟨rfl, Or.inl ⟨_, rfl⟩⟩)⟩
  · rename_i hx; cases h; exact ⟨rfl, _, hx, rfl, Or.inr (Or.inr ⟨rfl, Or.inr rfl⟩)⟩
  · cases h
theorem sm_si_some {i : Nat} (h : sm_si L S i = some (L', S')) : ∃ x, S = .int x :: S' ∧ i < L.length ∧ L' = sm_s1 L i (.int x) := by
  unfold sm_si at h
  split at h
  · split at h
    · rename_i hi; cases h; exact ⟨_, rfl, hi, rfl⟩
    · cases h
  · cases h
theorem sm_sl_some {i : Nat} (h : sm_sl L S i = some (L', S')) : ∃ x, S = .long x :: S' ∧ i + 1 < L.length ∧ L' = sm_s2 L i (.long x) := by
  unfold sm_sl at h
  split at h
  · split at h
    · rename_i hi; cases h; exact ⟨_, rfl, hi, rfl⟩
    · cases h
  · cases h
theorem sm_sr_some {i : Nat} (h : sm_sr L S i = some (L', S')) : (∃ x, S = .ref x :: S' ∧ i < L.length ∧ L' = sm_s1 L i (.ref x)) ∨ (S = .null :: S' ∧ i < L.length ∧ L' = sm_s1 L i .null) := by
  unfold sm_sr at h
  split at h
  · split at h
    · rename_i hi; cases h; exact Or.inl ⟨_, rfl, hi, rfl⟩
    · cases h
  · split at h
    · rename_i hi; cases h; exact Or.inr ⟨rfl, hi, rfl⟩
    · cases h
  · cases h
theorem sm_b2_some {f : Int32 → Int32 → Int32} (h : sm_b2 f L S = some (L', S')) : ∃ x y r, S = .int y :: .int x :: r ∧ L' = L ∧ S' = .int (f x y) :: r := by
  unfold sm_b2 at h
  split at h
  · cases h; exact ⟨_, _, _, rfl, rfl, rfl⟩
  · cases h
theorem sm_bl_some {f : Int64 → Int64 → Int64} (h : sm_bl f L S = some (L', S')) : ∃ x y r, S = .long y :: .long x :: r ∧ L' = L ∧ S' = .long (f x y) :: r := by
  unfold sm_bl at h
  split at h
  · cases h; exact ⟨_, _, _, rfl, rfl, rfl⟩
  · cases h
theorem sm_sh_some {f : Int64 → Int32 → Int64} (h : sm_sh f L S = some (L', S')) : ∃ x y r, S = .int y :: .long x :: r ∧ L' = L ∧ S' = .long (f x y) :: r := by
  unfold sm_sh at h
  split at h
  · cases h; exact ⟨_, _, _, rfl, rfl, rfl⟩
  · cases h
theorem sm_u1_some {f : Int32 → Value} (h : sm_u1 f L S = some (L', S')) : ∃ x r, S = .int x :: r ∧ L' = L ∧ S' = f x :: r := by
  unfold sm_u1 at h
  split at h
  · cases h; exact ⟨_, _, rfl, rfl, rfl⟩
  · cases h
theorem sm_dv_some {f : Int32 → Int32 → Int32} (h : sm_dv f L S = some (L', S')) : ∃ x y r, S = .int y :: .int x :: r ∧ ¬ y = 0 ∧ L' = L ∧ S' = .int (f x y) :: r := by
  unfold sm_dv at h
  split at h
  · split at h
    · cases h
    · rename_i hy; cases h; exact ⟨_, _, _, rfl, hy, rfl, rfl⟩
  · cases h
theorem sm_lf_some {f : Int64 → Int32} (h : sm_lf f L S = some (L', S')) : ∃ x r, S = .long x :: r ∧ L' = L ∧ S' = .int (f x) :: r := by
  unfold sm_lf at h
  split at h
  · cases h; exact ⟨_, _, rfl, rfl, rfl⟩
  · cases h
theorem sm_lc2_some (h : sm_lc2 L S = some (L', S')) : ∃ x y r, S = .long y :: .long x :: r ∧ L' = L ∧ S' = .int (lg_cmp x y) :: r := by
  unfold sm_lc2 at h
  split at h
  · cases h; exact ⟨_, _, _, rfl, rfl, rfl⟩
  · cases h
theorem sm_du_some (h : sm_du L S = some (L', S')) : ∃ a r, S = a :: r ∧ a.category = 1 ∧ L' = L ∧ S' = a :: a :: r := by
  unfold sm_du at h
  split at h
  · split at h
    · rename_i hc; cases h; exact ⟨_, _, rfl, hc, rfl, rfl⟩
    · cases h
  · cases h
theorem sm_po_some (h : sm_po L S = some (L', S')) : ∃ a, S = a :: S' ∧ a.category = 1 ∧ L' = L := by
  unfold sm_po at h
  split at h
  · split at h
    · rename_i hc; cases h; exact ⟨_, rfl, hc, rfl⟩
    · cases h
  · cases h
theorem sm_dx_some (h : sm_dx L S = some (L', S')) : ∃ a b r, S = a :: b :: r ∧ (a.category = 1 ∧ b.category = 1) ∧ L' = L ∧ S' = a :: b :: a :: r := by
  unfold sm_dx at h
  split at h
  · split at h
    · rename_i hc; cases h; exact ⟨_, _, _, rfl, hc, rfl, rfl⟩
    · cases h
  · cases h
theorem sm_d2_some (h : sm_d2 L S = some (L', S')) : ∃ a b r, S = a :: b :: r ∧ (a.category = 1 ∧ b.category = 1) ∧ L' = L ∧ S' = a :: b :: a :: b :: r := by
  unfold sm_d2 at h
  split at h
  · split at h
    · rename_i hc; cases h; exact ⟨_, _, _, rfl, hc, rfl, rfl⟩
    · cases h
  · cases h
theorem sm_inc_some {i : Nat} {c : Int32} (h : sm_inc L S i c = some (L', S')) : ∃ x, L[i]? = some (.int x) ∧ L' = sm_s1 L i (.int (x + c)) ∧ S' = S := by
  unfold sm_inc at h
  split at h
  · rename_i hx; cases h; exact ⟨_, hx, rfl, rfl⟩
  · cases h
theorem sm_pure (hexec : p.tables.exec = Jvm.exec) (hb : c.code = cc) {i : Instr} {d : Nat × Nat} (hdg : decode cc pc = .ok (i, sm_len i)) (hk : sm_kok i d) (hl : sm_lc ls nL L) (h : sm_ps i d L S = some (L', S'))
    (k : ∀ ls' : Array Slot, sm_lc ls' nL L' → W p l e R s m args below meth c H locs cells slots Q (F0 m (pc + sm_len i) ls' S')) : W p l e R s m args below meth c H locs cells slots Q (F0 m pc ls S) := by
  cases i with
  | iconst n => cases h; exact lv_iconst hexec hb hdg hk (k _ hl)
  | bipush n => cases h; exact lv_bipush hexec hb hdg hk (k _ hl)
  | sipush n => cases h; exact lv_sipush hexec hb hdg hk (k _ hl)
  | lconst n => cases h; exact lv_lconst hexec hb hdg rfl (k _ hl)
  | aconst_null => cases h; exact lv_null hexec hb hdg (k _ hl)
  | iload_n n =>
    obtain ⟨rfl, v, hv, rfl, (⟨-, x, rfl⟩ | ⟨q, -⟩ | ⟨q, -⟩)⟩ := sm_ld_some h
    · exact lv_iload_n hexec hb hdg rfl (hl.get hv (fun q => by cases q)) (k _ hl)
    · cases q
    · cases q
  | iload n =>
    obtain ⟨rfl, v, hv, rfl, (⟨-, x, rfl⟩ | ⟨q, -⟩ | ⟨q, -⟩)⟩ := sm_ld_some h
    · exact lv_iload hexec hb hdg (hl.get hv (fun q => by cases q)) (k _ hl)
    · cases q
    · cases q
  | lload_n n =>
    obtain ⟨rfl, v, hv, rfl, (⟨q, -⟩ | ⟨-, x, rfl⟩ | ⟨q, -⟩)⟩ := sm_ld_some h
    · cases q
    · exact lv_lload_n hexec hb hdg rfl (hl.get hv (fun q => by cases q)) (k _ hl)
    · cases q
  | lload n =>
    obtain ⟨rfl, v, hv, rfl, (⟨q, -⟩ | ⟨-, x, rfl⟩ | ⟨q, -⟩)⟩ := sm_ld_some h
    · cases q
    · exact lv_lload hexec hb hdg (hl.get hv (fun q => by cases q)) (k _ hl)
    · cases q
  | aload_n n =>
    obtain ⟨rfl, v, hv, rfl, (⟨q, -⟩ | ⟨q, -⟩ | ⟨-, (⟨x, rfl⟩ | rfl)⟩)⟩ := sm_ld_some h
    · cases q
    · cases q
    · exact lv_aload_n hexec hb hdg rfl (hl.get hv (fun q => by cases q)) (k _ hl)
    · exact lv_aload_nN hexec hb hdg rfl (hl.get hv (fun q => by cases q)) (k _ hl)
  | aload n =>
    obtain ⟨rfl, v, hv, rfl, (⟨q, -⟩ | ⟨q, -⟩ | ⟨-, (⟨x, rfl⟩ | rfl)⟩)⟩ := sm_ld_some h
    · cases q
    · cases q
    · exact lv_aload hexec hb hdg (hl.get hv (fun q => by cases q)) (k _ hl)
    · exact lv_aloadN hexec hb hdg (hl.get hv (fun q => by cases q)) (k _ hl)
  | istore_n n =>
    obtain ⟨x, rfl, hi, rfl⟩ := sm_si_some h
    exact lv_istore_n hexec hb hdg rfl hl.2 (by have := hl.1; omega) rfl (fun ls' h' => k ls' (sm_lc.s1 hl.1 h'))
  | istore n =>
    obtain ⟨x, rfl, hi, rfl⟩ := sm_si_some h
    exact lv_istore hexec hb hdg hl.2 (by have := hl.1; omega) rfl (fun ls' h' => k ls' (sm_lc.s1 hl.1 h'))
  | lstore_n n =>
    obtain ⟨x, rfl, hi, rfl⟩ := sm_sl_some h
    exact lv_lstore_n hexec hb hdg rfl hl.2 (by have := hl.1; omega) rfl (fun ls' h' => k ls' (sm_lc.s2 hl.1 h'))
  | lstore n =>
    obtain ⟨x, rfl, hi, rfl⟩ := sm_sl_some h
    exact lv_lstore hexec hb hdg hl.2 (by have := hl.1; omega) rfl (fun ls' h' => k ls' (sm_lc.s2 hl.1 h'))
  | astore_n n =>
    obtain (⟨x, rfl, hi, rfl⟩ | ⟨rfl, hi, rfl⟩) := sm_sr_some h
    · exact lv_astore_n hexec hb hdg rfl hl.2 (by have := hl.1; omega) rfl (fun ls' h' => k ls' (sm_lc.s1 hl.1 h'))
    · exact lv_astore_nN hexec hb hdg rfl hl.2 (by have := hl.1; omega) rfl (fun ls' h' => k ls' (sm_lc.s1 hl.1 h'))
  | astore n =>
    obtain (⟨x, rfl, hi, rfl⟩ | ⟨rfl, hi, rfl⟩) := sm_sr_some h
    · exact lv_astore hexec hb hdg hl.2 (by have := hl.1; omega) rfl (fun ls' h' => k ls' (sm_lc.s1 hl.1 h'))
    · exact lv_astoreN hexec hb hdg hl.2 (by have := hl.1; omega) rfl (fun ls' h' => k ls' (sm_lc.s1 hl.1 h'))
  | iinc n z =>
    obtain ⟨x, hx, rfl, rfl⟩ := sm_inc_some h
    have hm := (sm_mem L 0 n (.int x)).mpr ⟨Nat.zero_le _, by rw [Nat.sub_zero]; exact hx, fun q => by cases q⟩
    obtain ⟨q, hq⟩ := List.getElem?_of_mem hm
    have hn : n < L.length := (List.getElem?_eq_some_iff.mp hx).1
    exact lv_iinc hexec hb hdg hl.2 hq (by rw [show Int32.ofInt z = sm_k d from hk]) (by have := hl.1; omega) rfl (fun ls' h' => k ls' (sm_lc.s1 hl.1 h'))
  | iadd => obtain ⟨x, y, r, rfl, rfl, rfl⟩ := sm_b2_some h; exact lv_iadd hexec hb hdg (k _ hl)
  | isub => obtain ⟨x, y, r, rfl, rfl, rfl⟩ := sm_b2_some h; exact lv_isub hexec hb hdg (k _ hl)
  | imul => obtain ⟨x, y, r, rfl, rfl, rfl⟩ := sm_b2_some h; exact lv_imul hexec hb hdg (k _ hl)
  | iand => obtain ⟨x, y, r, rfl, rfl, rfl⟩ := sm_b2_some h; exact lv_iand hexec hb hdg (k _ hl)
  | ior => obtain ⟨x, y, r, rfl, rfl, rfl⟩ := sm_b2_some h; exact lv_ior hexec hb hdg (k _ hl)
  | ixor => obtain ⟨x, y, r, rfl, rfl, rfl⟩ := sm_b2_some h; exact lv_ixor hexec hb hdg (k _ hl)
  | ishl => obtain ⟨x, y, r, rfl, rfl, rfl⟩ := sm_b2_some h; exact lv_ishl hexec hb hdg (k _ hl)
  | ishr => obtain ⟨x, y, r, rfl, rfl, rfl⟩ := sm_b2_some h; exact lv_ishr hexec hb hdg (k _ hl)
  | ineg => obtain ⟨x, r, rfl, rfl, rfl⟩ := sm_u1_some h; exact lv_ineg hexec hb hdg (k _ hl)
  | idiv => obtain ⟨x, y, r, rfl, hy, rfl, rfl⟩ := sm_dv_some h; exact lv_idiv hexec hb hdg hy (k _ hl)
  | irem => obtain ⟨x, y, r, rfl, hy, rfl, rfl⟩ := sm_dv_some h; exact lv_irem hexec hb hdg hy (k _ hl)
  | ladd => obtain ⟨x, y, r, rfl, rfl, rfl⟩ := sm_bl_some h; exact lv_ladd hexec hb hdg (k _ hl)
  | lsub => obtain ⟨x, y, r, rfl, rfl, rfl⟩ := sm_bl_some h; exact lv_lsub hexec hb hdg (k _ hl)
  | lmul => obtain ⟨x, y, r, rfl, rfl, rfl⟩ := sm_bl_some h; exact lv_lmul hexec hb hdg (k _ hl)
  | land => obtain ⟨x, y, r, rfl, rfl, rfl⟩ := sm_bl_some h; exact lv_land hexec hb hdg (k _ hl)
  | lor => obtain ⟨x, y, r, rfl, rfl, rfl⟩ := sm_bl_some h; exact lv_lor hexec hb hdg (k _ hl)
  | lxor => obtain ⟨x, y, r, rfl, rfl, rfl⟩ := sm_bl_some h; exact lv_lxor hexec hb hdg (k _ hl)
  | lshl => obtain ⟨x, y, r, rfl, rfl, rfl⟩ := sm_sh_some h; exact lv_lshl hexec hb hdg rfl (k _ hl)
  | lushr => obtain ⟨x, y, r, rfl, rfl, rfl⟩ := sm_sh_some h; exact lv_lushr hexec hb hdg rfl (k _ hl)
  | i2l => obtain ⟨x, r, rfl, rfl, rfl⟩ := sm_u1_some h; exact lv_i2l hexec hb hdg rfl (k _ hl)
  | i2c => obtain ⟨x, r, rfl, rfl, rfl⟩ := sm_u1_some h; exact lv_i2c hexec hb hdg rfl (k _ hl)
  | l2i => obtain ⟨x, r, rfl, rfl, rfl⟩ := sm_lf_some h; exact lv_l2i hexec hb hdg rfl (k _ hl)
  | lcmp => obtain ⟨x, y, r, rfl, rfl, rfl⟩ := sm_lc2_some h; exact W.lcmp hexec hb hdg (k _ hl)
  | dup => obtain ⟨a, r, rfl, hc, rfl, rfl⟩ := sm_du_some h; exact lv_dup hexec hb hdg hc (k _ hl)
  | pop => obtain ⟨a, rfl, hc, rfl⟩ := sm_po_some h; exact lv_pop hexec hb hdg hc (k _ hl)
  | dup_x1 => obtain ⟨a, b, r, rfl, hc, rfl, rfl⟩ := sm_dx_some h; exact lv_dup_x1 hexec hb hdg hc.1 hc.2 (k _ hl)
  | dup2 => obtain ⟨a, b, r, rfl, hc, rfl, rfl⟩ := sm_d2_some h; exact lv_dup2_11 hexec hb hdg hc.1 hc.2 (k _ hl)
  | _ => cases h
end SMP
end
section
/-! branches: d.1 is the target; the returns -/
def sm_cp (c : ClassFile.Cond) (x y : Int32) : Prop := match c with
  | .eq => x = y
  | .ne => ¬ x = y
  | .lt => x < y
  | .ge => y ≤ x
  | .gt => y < x
  | .le => x ≤ y
def sm_cz (c : ClassFile.Cond) (x : Int32) : Prop := match c with
  | .eq => x = 0
  | .ne => ¬ x = 0
  | .lt => x < 0
  | .ge => 0 ≤ x
  | .gt => 0 < x
  | .le => x ≤ 0
/-- where a branch goes: a condition, the target where it holds, the target else, the stack -/
def sm_br (i : Instr) (d : Nat × Nat) (pc : Nat) (S : List Value) : Option (Prop × Nat × Nat × List Value) := match i, S with
  | .goto _, S => some (True, d.1, d.1, S)
  | .if_icmp c _, .int y :: .int x :: r => some (sm_cp c x y, d.1, pc + 3, r)
  | .ifCond c _, .int x :: r => some (sm_cz c x, d.1, pc + 3, r)
  | .ifnull _, .null :: r => some (True, d.1, d.1, r)
  | .ifnull _, .ref _ :: r => some (True, pc + 3, pc + 3, r)
  | .ifnonnull _, .ref _ :: r => some (True, d.1, d.1, r)
  | .ifnonnull _, .null :: r => some (True, pc + 3, pc + 3, r)
  | .if_acmp .eq _, .ref y :: .ref x :: r => some (x = y, d.1, pc + 3, r)
  | .if_acmp .ne _, .ref y :: .ref x :: r => some (¬ x = y, d.1, pc + 3, r)
  | _, _ => none
def sm_tok (i : Instr) (d : Nat × Nat) (pc : Nat) : Prop := match i with
  | .goto o => (pc : Int) + o = (d.1 : Int)
  | .if_icmp _ o => (pc : Int) + o = (d.1 : Int)
  | .ifCond _ o => (pc : Int) + o = (d.1 : Int)
  | .ifnull o => (pc : Int) + o = (d.1 : Int)
  | .ifnonnull o => (pc : Int) + o = (d.1 : Int)
  | .if_acmp _ o => (pc : Int) + o = (d.1 : Int)
  | _ => True
/-- a switch: the target -/
def sm_sw (i : Instr) (pc : Nat) (S : List Value) : Option (Nat × List Value) := match i, S with
  | .tableswitch dflt lo hi offs, .int x :: r => if x.toInt < lo ∨ hi < x.toInt then (if 0 ≤ (pc : Int) + dflt then some (((pc : Int) + dflt).toNat, r) else none) else (match offs[(x.toInt - lo).toNat]? with
    | some o => if 0 ≤ (pc : Int) + o then some (((pc : Int) + o).toNat, r) else none
    | none => none)
  | .lookupswitch dflt ps, .int x :: r => if (ps.toList.zip (ps.toList.drop 1)).all (fun (a, next) => a.1 < next.1) = true ∧ 0 ≤ (pc : Int) + Op.lookupswitch.offset ps.toList dflt x.toInt then some (((pc : Int) + Op.lookupswitch.offset ps.toList dflt x.toInt).toNat, r) else none
  | _, _ => none
/-- what a method gives back -/
def sm_rt (i : Instr) (ret : Option FieldType) (S : List Value) : Option (Option Value) := match i, ret, S with
  | .ireturn, some ty, [.int x] => if narrow ty (.int x) = .int x then some (some (.int x)) else none
  | .lreturn, some .long, [.long x] => some (some (.long x))
  | .areturn, some (.object _), [.ref a] => some (some (.ref a))
  | .areturn, some (.object _), [.null] => some (some .null)
  | .areturn, some (.array _), [.ref a] => some (some (.ref a))
  | .areturn, some (.array _), [.null] => some (some .null)
  | .return_, none, [] => some none
  | _, _, _ => none
section SMB
variable {p : Program} {l : Launch} {e : Env} {R : Room} {s : State} {m : MethodId} {args : Array Value} {below : List Frame} {meth : Method} {c : Code} {H : Heap} {locs : List Loc} {cells slots : Nat} {Q : State → Prop} {cc : ByteArray} {pc : Nat} {ls : Array Slot} {S S' : List Value}
theorem sm_branch (hexec : p.tables.exec = Jvm.exec) (hb : c.code = cc) {i : Instr} {d : Nat × Nat} (hdg : decode cc pc = .ok (i, sm_len i)) (ht : sm_tok i d pc) {C : Prop} {t f : Nat} (h : sm_br i d pc S = some (C, t, f, S'))
    (k1 : C → W p l e R s m args below meth c H locs cells slots Q (F0 m t ls S')) (k2 : ¬ C → W p l e R s m args below meth c H locs cells slots Q (F0 m f ls S')) : W p l e R s m args below meth c H locs cells slots Q (F0 m pc ls S) := by
  unfold sm_br at h
  split at h
  · cases h; exact lv_goto hexec hb hdg ht (k1 trivial)
  · rename_i cd o y x r
    cases h
    cases cd
    · exact lv_icmp_eq hexec hb hdg ht k1 k2
    · exact lv_icmp_ne hexec hb hdg ht k1 (fun q => k2 (fun z => z q))
    · exact lv_icmp_lt hexec hb hdg ht k1 k2
    · exact lv_icmp_ge hexec hb hdg ht k1 k2
    · exact lv_icmp_gt hexec hb hdg ht k1 k2
    · exact lv_icmp_le hexec hb hdg ht k1 k2
  · rename_i cd o x r
    cases h
    cases cd
    · exact lv_if_eq hexec hb hdg ht k1 k2
    · exact lv_if_ne hexec hb hdg ht k1 (fun q => k2 (fun z => z q))
    · exact lv_if_lt hexec hb hdg ht k1 k2
    · exact lv_if_ge hexec hb hdg ht k1 k2
    · exact lv_if_gt hexec hb hdg ht k1 k2
    · exact lv_if_le hexec hb hdg ht k1 k2
  · cases h; exact lv_ifnullN hexec hb hdg ht (k1 trivial)
  · cases h; exact lv_ifnull hexec hb hdg (k1 trivial)
  · cases h; exact lv_ifnonnull hexec hb hdg ht (k1 trivial)
  · cases h; exact lv_ifnonnullN hexec hb hdg (k1 trivial)
  · rename_i o y x r
    cases h
    exact lv_acmp_eq (rx := some x) (ry := some y) hexec hb hdg ht (fun q => k1 (Option.some.inj q)) (fun q => k2 (fun z => q (congrArg some z)))
  · rename_i o y x r
    cases h
    exact lv_acmp_ne (rx := some x) (ry := some y) hexec hb hdg ht (fun q => k1 (fun z => q (congrArg some z))) (fun q => k2 (fun z => z (Option.some.inj q)))
  · cases h
theorem sm_switch (hexec : p.tables.exec = Jvm.exec) (hb : c.code = cc) {i : Instr} {len t : Nat} (hdg : decode cc pc = .ok (i, len)) (h : sm_sw i pc S = some (t, S'))
    (k : W p l e R s m args below meth c H locs cells slots Q (F0 m t ls S')) : W p l e R s m args below meth c H locs cells slots Q (F0 m pc ls S) := by
  unfold sm_sw at h
  split at h
  · rename_i dflt lo hi offs x r
    split at h
    · rename_i hq
      split at h
      · rename_i h0
        cases h
        exact lv_tableOut hexec hb hdg hq (by omega) k
      · cases h
    · rename_i hq
      split at h
      · rename_i o ho
        split at h
        · rename_i h0
          cases h
          exact lv_tableIn hexec hb hdg (fun z => hq (Or.inl z)) (fun z => hq (Or.inr z)) ho (by omega) k
        · cases h
      · cases h
  · rename_i dflt ps x r
    split at h
    · rename_i hq
      cases h
      exact lv_lookup hexec hb hdg hq.1 rfl (by have := hq.2; omega) k
    · cases h
  · cases h
theorem sm_return {Qc : Array Value → State → Outcome → State → Prop} {free : Addr → Prop} (hexec : p.tables.exec = Jvm.exec) (hb : c.code = cc) {i : Instr} (hdg : decode cc pc = .ok (i, sm_len i)) {ret : Option FieldType} (hr : meth.sig.returnType = ret) {v : Option Value} (h : sm_rt i ret S = some v) (hlocks : meth.locks = false)
    (hq : ∀ t : State, t.heap = H → s.WarmedH t.vm → Qc args s (.returned v) t) (hf : ∀ q ∈ locs, free q.base) : W p l e R s m args below meth c H locs cells slots (MQ below Qc args s cells slots free) (F0 m pc ls S) := by
  unfold sm_rt at h
  split at h
  · rename_i ty x
    split at h
    · rename_i hn
      cases h
      exact W.zret hexec hb hr hn hq hf hdg hlocks
    · cases h
  · cases h; exact W.lret hexec hb hr hq hf hdg hlocks
  · cases h; exact W.aret hexec hb hr (Or.inl ⟨_, rfl⟩) (Or.inr ⟨_, rfl⟩) hq hf hdg hlocks
  · cases h; exact W.aret hexec hb hr (Or.inl ⟨_, rfl⟩) (Or.inl rfl) hq hf hdg hlocks
  · cases h; exact W.aret hexec hb hr (Or.inr ⟨_, rfl⟩) (Or.inr ⟨_, rfl⟩) hq hf hdg hlocks
  · cases h; exact W.aret hexec hb hr (Or.inr ⟨_, rfl⟩) (Or.inl rfl) hq hf hdg hlocks
  · cases h; exact W.vret hexec hb hr hq hf hdg hlocks
  · cases h
end SMB
end
section
/-! THE HEAP of the small machine: where the next cell comes; how many slots; of an address its kind (0 nothing, 1 .. 15 an array, 16 + ci an object of class ci), its length, fields (number 128 * ci + k), elements; where the JDK's empty array lies -/
abbrev sm_H : Type := Nat × Nat × (Nat → Nat) × (Nat → Nat) × (Nat → Nat → Value) × (Nat → Nat → Value) × Nat
def hT (h : sm_H) : Nat := h.1
def hU (h : sm_H) : Nat := h.2.1
def hC (h : sm_H) (a : Nat) : Nat := h.2.2.1 a
def hL (h : sm_H) (a : Nat) : Nat := h.2.2.2.1 a
def hF (h : sm_H) (f a : Nat) : Value := h.2.2.2.2.1 f a
def hA (h : sm_H) (a i : Nat) : Value := h.2.2.2.2.2.1 a i
def hZ (h : sm_H) : Nat := h.2.2.2.2.2.2
def putF (h : sm_H) (f a : Nat) (v : Value) : sm_H := (hT h, hU h, hC h, hL h, fun g b => if g = f ∧ b = a then v else hF h g b, hA h, hZ h)
def putA (h : sm_H) (a i : Nat) (v : Value) : sm_H := (hT h, hU h, hC h, hL h, hF h, fun b j => if b = a ∧ j = i then v else hA h b j, hZ h)
def newO (h : sm_H) (ci n : Nat) (dv : Nat → Value) : sm_H := (hT h + 1, hU h + n, fun b => if b = hT h then 16 + ci else hC h b, hL h, fun g b => if b = hT h then dv g else hF h g b, hA h, hZ h)
def newA (h : sm_H) (t n : Nat) (dv : Value) : sm_H := (hT h + 1, hU h + n, fun b => if b = hT h then t else hC h b, fun b => if b = hT h then n else hL h b, hF h, fun b j => if b = hT h then dv else hA h b j, hZ h)
abbrev sm_in (i : Int32) (n : Nat) : Prop := ¬ i < 0 ∧ i.toNatClampNeg < n
/-- the component type of an array's kind -/
def sm_ty (t : Nat) : Option FieldType := match t with
  | 1 => some .int
  | 2 => some .long
  | 3 => some .char
  | 4 => some .byte
  | 5 => some .boolean
  | 7 => some (.object "java/lang/Object")
  | 14 => some (.object "java/lang/Object")
  | 15 => some .int
  | _ => none
def sm_nt (t : ArrayType) : Nat := match t with
  | .int => 1
  | .long => 2
  | .char => 3
  | .byte => 4
  | .boolean => 5
  | _ => 0
def sm_gf (ci k : Nat) (S : List Value) (h : sm_H) : Option (List Value × sm_H) := match S with
  | .ref a :: r => if hC h a = 16 + ci then some (hF h (128 * ci + k) a :: r, h) else none
  | _ => none
def sm_pf (ci k : Nat) (S : List Value) (h : sm_H) : Option (List Value × sm_H) := match S with
  | v :: .ref a :: r => if hC h a = 16 + ci ∧ narrow (xty ci k) v = v ∧ fits (xty ci k) v = true then some (r, putF h (128 * ci + k) a v) else none
  | _ => none
def sm_nw (ci : Nat) (S : List Value) (h : sm_H) : Option (List Value × sm_H) := match xcl[ci]? with
  | some q => some (.ref (hT h) :: S, newO h ci q.2.2 (fun g => defaultValue (xty ci (g - 128 * ci))))
  | none => none
def sm_na (t : ArrayType) (S : List Value) (h : sm_H) : Option (List Value × sm_H) := match S with
  | .int n :: r => if ¬ n < 0 ∧ n.toNatClampNeg * componentBytes (newarray.typeOf t) ≤ 536870912 ∧ sm_nt t ≠ 0 then some (.ref (hT h) :: r, newA h (sm_nt t) n.toNatClampNeg (defaultValue (newarray.typeOf t))) else none
  | _ => none
def sm_an (S : List Value) (h : sm_H) : Option (List Value × sm_H) := match S with
  | .int n :: r => if ¬ n < 0 ∧ n.toNatClampNeg * 4 ≤ 536870912 then some (.ref (hT h) :: r, newA h 7 n.toNatClampNeg .null) else none
  | _ => none
def sm_le (S : List Value) (h : sm_H) : Option (List Value × sm_H) := match S with
  | .ref a :: r => if (sm_ty (hC h a)).isSome = true then some (.int (nI (hL h a)) :: r, h) else none
  | _ => none
/-- a load out of an array whose component type is ty -/
def sm_al (ty : FieldType) (S : List Value) (h : sm_H) : Option (List Value × sm_H) := match S with
  | .int i :: .ref a :: r => if sm_ty (hC h a) = some ty ∧ sm_in i (hL h a) then some (hA h a i.toNatClampNeg :: r, h) else none
  | _ => none
def sm_ai (S : List Value) (h : sm_H) : Option (List Value × sm_H) := match S with
  | .int x :: .int i :: .ref a :: r => if hC h a = 1 ∧ sm_in i (hL h a) then some (r, putA h a i.toNatClampNeg (.int x)) else none
  | _ => none
def sm_aj (S : List Value) (h : sm_H) : Option (List Value × sm_H) := match S with
  | .long x :: .int i :: .ref a :: r => if hC h a = 2 ∧ sm_in i (hL h a) then some (r, putA h a i.toNatClampNeg (.long x)) else none
  | _ => none
def sm_ac (S : List Value) (h : sm_H) : Option (List Value × sm_H) := match S with
  | .int x :: .int i :: .ref a :: r => if hC h a = 3 ∧ sm_in i (hL h a) then some (r, putA h a i.toNatClampNeg (narrow .char (.int x))) else none
  | _ => none
def sm_ab (S : List Value) (h : sm_H) : Option (List Value × sm_H) := match S with
  | .int x :: .int i :: .ref a :: r => if hC h a = 4 ∧ sm_in i (hL h a) then some (r, putA h a i.toNatClampNeg (narrow .byte (.int x))) else (if hC h a = 5 ∧ sm_in i (hL h a) then some (r, putA h a i.toNatClampNeg (narrow .boolean (.int x))) else none)
  | _ => none
def sm_bl2 (S : List Value) (h : sm_H) : Option (List Value × sm_H) := match S with
  | .int i :: .ref a :: r => if (hC h a = 4 ∨ hC h a = 5) ∧ sm_in i (hL h a) then some (hA h a i.toNatClampNeg :: r, h) else none
  | _ => none
def sm_aa (S : List Value) (h : sm_H) : Option (List Value × sm_H) := match S with
  | .ref v :: .int i :: .ref a :: r => if hC h a = 7 ∧ sm_in i (hL h a) ∧ 16 ≤ hC h v ∧ hC h v < 16 + xob then some (r, putA h a i.toNatClampNeg (.ref v)) else none
  | .null :: .int i :: .ref a :: r => if hC h a = 7 ∧ sm_in i (hL h a) then some (r, putA h a i.toNatClampNeg .null) else none
  | _ => none
def sm_cc (ci : Nat) (S : List Value) (h : sm_H) : Option (List Value × sm_H) := match S with
  | .null :: r => some (.null :: r, h)
  | .ref a :: r => if hC h a = 16 + ci then some (.ref a :: r, h) else none
  | _ => none
/-- the instructions that read or write the heap -/
noncomputable def sm_hp (i : Instr) (d : Nat × Nat) (S : List Value) (h : sm_H) : Option (List Value × sm_H) := match i with
  | .getfield _ => sm_gf d.1 (d.2 / 2) S h
  | .putfield _ => sm_pf d.1 (d.2 / 2) S h
  | .new _ => if d.2 = 0 then sm_nw d.1 S h else none
  | .newarray t => sm_na t S h
  | .arraylength => sm_le S h
  | .iaload => sm_al .int S h
  | .laload => sm_al .long S h
  | .caload => sm_al .char S h
  | .baload => sm_bl2 S h
  | .iastore => sm_ai S h
  | .lastore => sm_aj S h
  | .castore => sm_ac S h
  | .bastore => sm_ab S h
  | .checkcast _ => sm_cc d.1 S h
  | .anewarray _ => sm_an S h
  | .aaload => sm_al (.object "java/lang/Object") S h
  | .aastore => sm_aa S h
  | .ldc _ => some (.int (sm_k d) :: S, h)
  | .ldc2_w _ => some (.long (lN d.1) :: S, h)
  | .getstatic _ => some (.ref (hZ h) :: S, h)
  | _ => none
end
section
/-! WHAT THE SMALL HEAP SAYS OF THE MACHINE's -/
def sm_ar (U : State) (H : Heap) (a : Nat) (ty : FieldType) (n : Nat) (f : Nat → Value) : Prop := ∃ cA : ClassId, ArrOfT U cA ty ∧ va_RA U cA ty ∧ H[a]? = some (arrV cA n f)
def sm_rd (U : State) (H : Heap) (a : Nat) (ty : FieldType) (n : Nat) (f : Nat → Value) : Prop := ∃ cell : Cell, H[a]? = some cell ∧ U.isArrayOf cell ty ∧ cell.vm ≠ .unknown ∧ cell.slots.size = n ∧ ∀ i, i < n → cell.slots[i]? = some (f i)
theorem sm_ar.rd {U : State} {H : Heap} {a : Nat} {ty : FieldType} {n : Nat} {f : Nat → Value} (h : sm_ar U H a ty n f) : sm_rd U H a ty n f := by
  obtain ⟨cA, h1, -, h3⟩ := h
  exact ⟨_, h3, h1 n f, fun q => (by cases q), arrV_size _ _ _, fun i hi => arrV_read _ _ hi⟩
theorem sm_ar.moved {u U : State} (hvm : u.vm.Alike U.vm) {H : Heap} {a : Nat} {ty : FieldType} {n : Nat} {f : Nat → Value} (h : sm_ar u H a ty n f) : sm_ar U H a ty n f := by
  obtain ⟨cA, h1, h2, h3⟩ := h
  exact ⟨cA, arrOfT_moved hvm h1, h2.moved hvm, h3⟩
theorem sm_rd.moved {u U : State} (hvm : u.vm.Alike U.vm) {H : Heap} {a : Nat} {ty : FieldType} {n : Nat} {f : Nat → Value} (h : sm_rd u H a ty n f) : sm_rd U H a ty n f := by
  obtain ⟨cell, h1, h2, h3⟩ := h
  exact ⟨cell, h1, State.isArrayOf_alike hvm h2, h3⟩
/-- the kinds that nobody writes: the script, the JDK's empty array -/
abbrev sm_ro (t : Nat) : Prop := t = 14 ∨ t = 15
def sm_R (D : va_G) (base : Nat) (U : State) (h : sm_H) (H : Heap) : Prop :=
  H.size = hT h ∧ (∀ a, hC h a ≠ 0 → ¬ sm_ro (hC h a) → base ≤ a) ∧
  (∀ a ci q, hC h a = 16 + ci → xcl[ci]? = some q → t_OB a (D.1 ci) q.2.2 (D.2 ci) H (fun k => hF h (128 * ci + k) a)) ∧
  (∀ a ty, ¬ sm_ro (hC h a) → sm_ty (hC h a) = some ty → sm_ar U H a ty (hL h a) (hA h a)) ∧
  (∀ a ty, sm_ro (hC h a) → sm_ty (hC h a) = some ty → sm_rd U H a ty (hL h a) (hA h a)) ∧
  va_Z "java/util/ArrayList" "DEFAULTCAPACITY_EMPTY_ELEMENTDATA" "[Ljava/lang/Object;" (.ref (hZ h)) (fun q => base ≤ q) U H
theorem sm_R.moved {D : va_G} {base : Nat} {u U : State} (hvm : u.vm.Alike U.vm) {h : sm_H} {H : Heap} (hR : sm_R D base u h H) : sm_R D base U h H := by
  obtain ⟨h1, h2, h3, h4, h5, h6⟩ := hR
  exact ⟨h1, h2, h3, fun a ty p q => (h4 a ty p q).moved hvm, fun a ty p q => (h5 a ty p q).moved hvm, h6.moved hvm⟩
theorem sm_R.rd {D : va_G} {base : Nat} {U : State} {h : sm_H} {H : Heap} (hR : sm_R D base U h H) {a : Nat} {ty : FieldType} (ht : sm_ty (hC h a) = some ty) : sm_rd U H a ty (hL h a) (hA h a) := by
  by_cases e : sm_ro (hC h a)
  · exact hR.2.2.2.2.1 a ty e ht
  · exact (hR.2.2.2.1 a ty e ht).rd
theorem sm_Zk {base : Nat} {U : State} {H H1 : Heap} {z : Value} {C n d : String} (h : va_Z C n d z (fun q => base ≤ q) U H) {a : Nat} (hb : base ≤ a) (e3 : ∀ q, q ≠ a → H1[q]? = H[q]?) : va_Z C n d z (fun q => base ≤ q) U H1 := h.kept (fun q _ h2 => e3 q (fun e => h2 (by rw [e]; exact hb)))
theorem sm_Zn {base : Nat} {U : State} {H H1 : Heap} {z : Value} {C n d : String} {k : Nat} (h : va_Z C n d z (fun q => base ≤ q) U H) (hk : H.size = k) (e3 : ∀ q, q < k → H1[q]? = H[q]?) : va_Z C n d z (fun q => base ≤ q) U H1 := h.kept (fun q h1 _ => e3 q (by omega))
/-- a cell is written that is an array -/
theorem sm_R.setA {D : va_G} {base : Nat} {U : State} {h : sm_H} {H H1 : Heap} (hR : sm_R D base U h H) {a i : Nat} {v : Value} {cA : ClassId} {ty : FieldType} (h15 : ¬ sm_ro (hC h a)) (ht : sm_ty (hC h a) = some ty) (hA1 : ArrOfT U cA ty) (hA2 : va_RA U cA ty)
    (e1 : H1[a]? = some (arrV cA (hL h a) (updV (hA h a) i v))) (e2 : H1.size = H.size) (e3 : ∀ q, q ≠ a → H1[q]? = H[q]?) : sm_R D base U (putA h a i v) H1 := by
  obtain ⟨r1, r2, r3, r4, r5, r6⟩ := hR
  have hba : base ≤ a := r2 a (fun z => by rw [z] at ht; cases ht) h15
  refine ⟨e2.trans r1, r2, fun b ci q hb hq => ?_, fun b ty' hb hb' => ?_, fun b ty' hb hb' => ?_, sm_Zk r6 hba e3⟩
  · replace hb : hC h b = 16 + ci := hb
    have hne : b ≠ a := by
      intro e
      subst e
      rw [hb] at ht
      unfold sm_ty at ht
      split at ht <;> first | omega | cases ht
    exact (r3 b ci q hb hq).kept (e3 b hne)
  · replace hb : ¬ sm_ro (hC h b) := hb
    replace hb' : sm_ty (hC h b) = some ty' := hb'
    by_cases e : b = a
    · subst e
      rw [ht] at hb'
      cases hb'
      refine ⟨cA, hA1, hA2, e1.trans ?_⟩
      congr 2
      funext j
      show updV (hA h b) i v j = if b = b ∧ j = i then v else hA h b j
      by_cases ej : j = i
      · rw [updV, if_pos ej, if_pos ⟨rfl, ej⟩]
      · rw [updV, if_neg ej, if_neg (fun q => ej q.2)]
    · obtain ⟨cB, k1, k2, k3⟩ := r4 b ty' hb hb'
      refine ⟨cB, k1, k2, (e3 b e).trans (k3.trans ?_)⟩
      congr 2
      funext j
      show hA h b j = if b = a ∧ j = i then v else hA h b j
      rw [if_neg (fun q => e q.1)]
  · replace hb : sm_ro (hC h b) := hb
    have e : b ≠ a := fun q => h15 (q ▸ hb)
    obtain ⟨cell, k1, k2, k3, k4, k5⟩ := r5 b ty' hb hb'
    refine ⟨cell, (e3 b e).trans k1, k2, k3, k4, fun j hj => (k5 j hj).trans ?_⟩
    show some (hA h b j) = some (if b = a ∧ j = i then v else hA h b j)
    rw [if_neg (fun q => e q.1)]
/-- an object's field is written -/
theorem sm_R.setF {D : va_G} {base : Nat} {U : State} {h : sm_H} {H H1 : Heap} (hR : sm_R D base U h H) {a ci k : Nat} {v : Value} {q : vw_C} (hC1 : hC h a = 16 + ci) (hq : xcl[ci]? = some q) (hN : ∀ (cj : Nat) (r : vw_C), xcl[cj]? = some r → r.2.2 ≤ 128) (hk : k < 128)
    (e1 : t_OB a (D.1 ci) q.2.2 (D.2 ci) H1 (updV (fun j => hF h (128 * ci + j) a) k v)) (e2 : H1.size = H.size) (e3 : ∀ q, q ≠ a → H1[q]? = H[q]?) : sm_R D base U (putF h (128 * ci + k) a v) H1 := by
  obtain ⟨r1, r2, r3, r4, r5, r6⟩ := hR
  have hba : base ≤ a := r2 a (by omega) (fun z => by omega)
  refine ⟨e2.trans r1, r2, fun b cj r hb hr => ?_, fun b ty' hb hb' => ?_, fun b ty' hb hb' => ?_, sm_Zk r6 hba e3⟩
  · replace hb : hC h b = 16 + cj := hb
    by_cases e : b = a
    · subst e
      have ec : cj = ci := by omega
      subst ec
      rw [hq] at hr
      cases hr
      refine e1.to (fun j _ => ?_)
      show updV (fun j => hF h (128 * cj + j) b) k v j = if 128 * cj + j = 128 * cj + k ∧ b = b then v else hF h (128 * cj + j) b
      by_cases ej : j = k
      · rw [updV, if_pos ej, if_pos ⟨by omega, rfl⟩]
      · rw [updV, if_neg ej, if_neg (fun q => ej (by omega))]
    · refine ((r3 b cj r hb hr).kept (e3 b e)).to (fun j _ => ?_)
      show hF h (128 * cj + j) b = if 128 * cj + j = 128 * ci + k ∧ b = a then v else hF h (128 * cj + j) b
      rw [if_neg (fun q => e q.2)]
  · replace hb : ¬ sm_ro (hC h b) := hb
    replace hb' : sm_ty (hC h b) = some ty' := hb'
    have e : b ≠ a := by
      intro e
      subst e
      rw [hC1] at hb'
      unfold sm_ty at hb'
      split at hb' <;> first | omega | cases hb'
    obtain ⟨cB, k1, k2, k3⟩ := r4 b ty' hb hb'
    exact ⟨cB, k1, k2, (e3 b e).trans k3⟩
  · replace hb : sm_ro (hC h b) := hb
    have e : b ≠ a := fun q => by subst q; omega
    obtain ⟨cell, k1, k2⟩ := r5 b ty' hb hb'
    exact ⟨cell, (e3 b e).trans k1, k2⟩
theorem sm_R.lt {D : va_G} {base : Nat} {U : State} {h : sm_H} {H : Heap} (hR : sm_R D base U h H) {a : Nat} : (∀ ci q, hC h a = 16 + ci → xcl[ci]? = some q → a < H.size) ∧ (∀ ty, sm_ty (hC h a) = some ty → a < H.size) := by
  refine ⟨fun ci q h1 h2 => ?_, fun ty h1 => ?_⟩
  · obtain ⟨cell, h3, -⟩ := hR.2.2.1 a ci q h1 h2
    exact (Array.getElem?_eq_some_iff.mp h3).1
  · obtain ⟨cell, h3, -⟩ := hR.rd h1
    exact (Array.getElem?_eq_some_iff.mp h3).1
/-- a new object -/
theorem sm_R.mkO {D : va_G} {base : Nat} {U : State} {h : sm_H} {H H1 : Heap} (hR : sm_R D base U h H) {ci n : Nat} {dv : Nat → Value} {q : vw_C} (hb : base ≤ hT h) (hq : xcl[ci]? = some q)
    (e1 : t_OB (hT h) (D.1 ci) q.2.2 (D.2 ci) H1 (fun k => dv (128 * ci + k))) (e2 : H1.size = hT h + 1) (e3 : ∀ q, q < hT h → H1[q]? = H[q]?) : sm_R D base U (newO h ci n dv) H1 := by
  have hlt := fun (a : Nat) => hR.lt (a := a)
  obtain ⟨r1, r2, r3, r4, r5, r6⟩ := hR
  have hc : ∀ b, b ≠ hT h → hC (newO h ci n dv) b = hC h b := fun b e => if_neg e
  refine ⟨e2, fun b h1 h2 => ?_, fun b cj r h1 h2 => ?_, fun b ty' h1 h2 => ?_, fun b ty' h1 h2 => ?_, sm_Zn r6 r1 e3⟩
  · by_cases e : b = hT h
    · rw [e]; exact hb
    · rw [hc b e] at h1 h2
      exact r2 b h1 h2
  · by_cases e : b = hT h
    · have h9 : hC (newO h ci n dv) b = 16 + ci := if_pos e
      have ec : cj = ci := by omega
      subst ec
      rw [hq] at h2
      cases h2
      subst e
      refine e1.to (fun j _ => ?_)
      show dv (128 * cj + j) = if hT h = hT h then dv (128 * cj + j) else _
      rw [if_pos rfl]
    · rw [hc b e] at h1
      have hl := (hlt b).1 cj r h1 h2
      rw [r1] at hl
      refine ((r3 b cj r h1 h2).kept (e3 b hl)).to (fun j _ => ?_)
      show hF h (128 * cj + j) b = if b = hT h then _ else hF h (128 * cj + j) b
      rw [if_neg e]
  · by_cases e : b = hT h
    · have h9 : hC (newO h ci n dv) b = 16 + ci := if_pos e
      rw [h9] at h2
      unfold sm_ty at h2
      split at h2 <;> first | omega | cases h2
    · rw [hc b e] at h1 h2
      have hl := (hlt b).2 ty' h2
      rw [r1] at hl
      obtain ⟨cB, k1, k2, k3⟩ := r4 b ty' h1 h2
      exact ⟨cB, k1, k2, (e3 b hl).trans k3⟩
  · by_cases e : b = hT h
    · have h9 : hC (newO h ci n dv) b = 16 + ci := if_pos e
      omega
    · rw [hc b e] at h1 h2
      have hl := (hlt b).2 ty' h2
      rw [r1] at hl
      obtain ⟨cell, k1, k2⟩ := r5 b ty' h1 h2
      exact ⟨cell, (e3 b hl).trans k1, k2⟩
/-- a new array -/
theorem sm_R.mkA {D : va_G} {base : Nat} {U : State} {h : sm_H} {H H1 : Heap} (hR : sm_R D base U h H) {t n : Nat} {dv : Value} {ty : FieldType} {cA : ClassId} (hb : base ≤ hT h) (ht : sm_ty t = some ty) (h15 : ¬ sm_ro t) (hA1 : ArrOfT U cA ty) (hA2 : va_RA U cA ty)
    (e1 : H1[hT h]? = some (arrV cA n (fun _ => dv))) (e2 : H1.size = hT h + 1) (e3 : ∀ q, q < hT h → H1[q]? = H[q]?) : sm_R D base U (newA h t n dv) H1 := by
  have hlt := fun (a : Nat) => hR.lt (a := a)
  obtain ⟨r1, r2, r3, r4, r5, r6⟩ := hR
  have hc : ∀ b, b ≠ hT h → hC (newA h t n dv) b = hC h b := fun b e => if_neg e
  have hl9 : ∀ b, b ≠ hT h → hL (newA h t n dv) b = hL h b := fun b e => if_neg e
  have ha9 : ∀ b, b ≠ hT h → hA (newA h t n dv) b = hA h b := fun b e => by
    funext j
    exact if_neg e
  have t16 : ∀ cj, t ≠ 16 + cj := by
    intro cj e
    rw [e] at ht
    unfold sm_ty at ht
    split at ht <;> first | omega | cases ht
  refine ⟨e2, fun b h1 h2 => ?_, fun b cj r h1 h2 => ?_, fun b ty' h1 h2 => ?_, fun b ty' h1 h2 => ?_, sm_Zn r6 r1 e3⟩
  · by_cases e : b = hT h
    · rw [e]; exact hb
    · rw [hc b e] at h1 h2
      exact r2 b h1 h2
  · by_cases e : b = hT h
    · have h9 : hC (newA h t n dv) b = t := if_pos e
      exact absurd (h9.symm.trans h1) (t16 cj)
    · rw [hc b e] at h1
      have hl := (hlt b).1 cj r h1 h2
      rw [r1] at hl
      exact (r3 b cj r h1 h2).kept (e3 b hl)
  · by_cases e : b = hT h
    · have h9 : hC (newA h t n dv) b = t := if_pos e
      rw [h9, ht] at h2
      cases h2
      subst e
      refine ⟨cA, hA1, hA2, e1.trans ?_⟩
      have q1 : hL (newA h t n dv) (hT h) = n := if_pos rfl
      have q2 : hA (newA h t n dv) (hT h) = fun _ => dv := by
        funext j
        exact if_pos rfl
      rw [q1, q2]
    · rw [hc b e] at h1 h2
      have hl := (hlt b).2 ty' h2
      rw [r1] at hl
      obtain ⟨cB, k1, k2, k3⟩ := r4 b ty' h1 h2
      rw [hl9 b e, ha9 b e]
      exact ⟨cB, k1, k2, (e3 b hl).trans k3⟩
  · by_cases e : b = hT h
    · have h9 : hC (newA h t n dv) b = t := if_pos e
      exact absurd (by rw [h9] at h1; exact h1) h15
    · rw [hc b e] at h1 h2
      have hl := (hlt b).2 ty' h2
      rw [r1] at hl
      obtain ⟨cell, k1, k2⟩ := r5 b ty' h1 h2
      rw [hl9 b e, ha9 b e]
      exact ⟨cell, (e3 b hl).trans k1, k2⟩
end
section
/-! the heap's instructions: what the machine does -/
/-- what the tables say of the classes -/
def sm_cls (Ts : List Cond) : Prop := ∀ (ci : Nat) (q : vw_C), xcl[ci]? = some q → q.2.2 ≤ 128 ∧ (∀ w ∈ u_ws q.1 q.2.1 q.2.2, w ∈ Ts) ∧ (∀ k, k < q.2.2 → parseFieldDescriptor (q.2.1 k).2.2.1 = some (xty ci k)) ∧ (∀ a, a < q.2.2 → ∀ b, b < q.2.2 → a ≠ b → (q.2.1 a).2.1 ≠ (q.2.1 b).2.1)
/-- a field's link: k its place, z = 0 in its own class's reach, else a nest mate's -/
def sm_fok (Ts NW : List Cond) (own : String) (x ci k z : Nat) : Prop := ∃ (q : vw_C) (ref : String), xcl[ci]? = some q ∧ k < q.2.2 ∧ (ref = (q.2.1 k).1 ∨ Cond.sameField ref (q.2.1 k).1 (q.2.1 k).2.1 (q.2.1 k).2.2.1 ∈ Ts) ∧
  ((z = 0 ∧ Cond.fieldLink own x ref (q.2.1 k).2.1 (q.2.1 k).2.2.1 ∈ Ts) ∨ (z ≠ 0 ∧ ∃ host, Cond.fieldLinkNest own x ref (q.2.1 k).2.1 (q.2.1 k).2.2.1 host ∈ NW))
/-- a field that may be written there -/
def sm_wok (own mn : String) (ci k z : Nat) : Prop := ∃ q : vw_C, xcl[ci]? = some q ∧ ((q.2.1 k).2.2.2 = false ∨ ((q.2.1 k).2.2.2 = true ∧ z = 0 ∧ mn = "<init>" ∧ (q.2.1 k).1 = own))
def sm_hok (Ts NW : List Cond) (own mn : String) (i : Instr) (d : Nat × Nat) : Prop := match i with
  | .getfield x => sm_fok Ts NW own x d.1 (d.2 / 2) (d.2 % 2)
  | .putfield x => sm_fok Ts NW own x d.1 (d.2 / 2) (d.2 % 2) ∧ sm_wok own mn d.1 (d.2 / 2) (d.2 % 2)
  | .new x => d.2 = 0 → ∃ q : vw_C, xcl[d.1]? = some q ∧ Cond.classLink own x q.1 ∈ Ts ∧ Cond.instantiable q.1 q.2.2 ∈ Ts ∧ Cond.initialized q.1 ∈ Ts
  | .newarray t => Cond.arrayClass (newarray.typeOf t) ∈ Ts
  | .checkcast x => ∃ q : vw_C, xcl[d.1]? = some q ∧ Cond.classLink own x q.1 ∈ Ts
  | .anewarray x => Cond.classLink own x "java/lang/Object" ∈ Ts ∧ Cond.arrayOver (.object "java/lang/Object") ∈ NW
  | .aastore => ∀ (ci : Nat) (q : vw_C), ci < xob → xcl[ci]? = some q → Cond.castable q.1 "java/lang/Object" ∈ NW
  | .ldc x => Cond.constant own x (sm_k d) ∈ Ts
  | .ldc2_w x => Cond.constantLong own x (lN d.1) ∈ Ts
  | .getstatic x => Cond.fieldLink own x "java/util/ArrayList" "DEFAULTCAPACITY_EMPTY_ELEMENTDATA" "[Ljava/lang/Object;" ∈ Ts
  | _ => True
theorem sm_inn {i : Int32} {n m : Nat} (h : sm_in i n) (e : m = n) : ¬ (i < 0 ∨ m ≤ i.toNatClampNeg) := fun z => z.elim h.1 (fun z => by rw [e] at z; exact absurd h.2 (Nat.not_lt.mpr z))
section SMH
variable {p : Program} {l : Launch} {e : Env} {R : Room} {s : State} {m : MethodId} {args : Array Value} {below : List Frame} {meth : Method} {c : Code} {H : Heap} {locs : List Loc} {cells slots : Nat} {Q : State → Prop} {cc : ByteArray} {pc base : Nat} {ls : Array Slot} {S S' : List Value} {D : va_G} {h h' : sm_H} {Ts NW : List Cond} {own : String}
theorem sm_same {Ts : List Cond} (hts : ∀ w ∈ Ts, w.before args s = true) {ref o n t : String} (hs : ref = o ∨ Cond.sameField ref o n t ∈ Ts) : ∀ x, s.fieldFound? o n t = some x → s.fieldFound? ref n t = some x := by
  intro x hx
  rcases hs with rfl | hs
  · exact hx
  · exact u_same (hts _ hs) x hx
theorem sm_getf (hexec : p.tables.exec = Jvm.exec) (hb : c.code = cc) (hts : ∀ w ∈ Ts, w.before args s = true) (hnw : ∀ w ∈ NW, va_Nw w s) (hcl : sm_cls Ts) (hown : s.vm.findClass own = some m.cls) (hK : va_K D xcl [] s) (hR : sm_R D base s h H) {x ci k z a : Nat} {r : List Value} (hok : sm_fok Ts NW own x ci k z) (hC1 : hC h a = 16 + ci) (hdg : decode cc pc = .ok (.getfield x, 3))
    (kk : W p l e R s m args below meth c H locs cells slots Q (F0 m (pc + 3) ls (hF h (128 * ci + k) a :: r))) : W p l e R s m args below meth c H locs cells slots Q (F0 m pc ls (.ref a :: r)) := by
  obtain ⟨q, ref, hq, hk, hs, hlk⟩ := hok
  obtain ⟨-, hin, hty, -⟩ := hcl ci q hq
  obtain ⟨cell, q1, q2, q3, q4⟩ := hR.2.2.1 a ci q hC1 hq
  obtain ⟨hS, hfc, kC, hkC, hkind⟩ := hK.1 ci _ hq
  obtain ⟨cf, kf, fi, f, hi, hsl⟩ := hS k hk
  have hst := (u_facts hfc hkC (u_lays hts hin hk) hi).1
  rcases hlk with ⟨-, hl⟩ | ⟨-, host, hl⟩
  · exact W.getf hexec hb hown (hts _ hl) (sm_same hts hs _ hi) hst q1 (by rw [q3]; exact fun h => by cases h) (by rw [hsl]; exact q4 k hk) rfl rfl hdg kk
  · exact va_Wgetf hexec hb hown (va_Nw.use rfl (hnw _ hl)) (sm_same hts hs _ hi) hst q1 (by rw [q3]; exact fun h => by cases h) (by rw [hsl]; exact q4 k hk) rfl rfl hdg kk
theorem sm_putf (hexec : p.tables.exec = Jvm.exec) (hb : c.code = cc) (hts : ∀ w ∈ Ts, w.before args s = true) (hnw : ∀ w ∈ NW, va_Nw w s) (hcl : sm_cls Ts) (hown : s.vm.findClass own = some m.cls) (hK : va_K D xcl [] s) (hR : sm_R D base s h H) {x ci k z a : Nat} {v : Value} {r : List Value} (hok : sm_fok Ts NW own x ci k z) (hwk : sm_wok own meth.name ci k z) (hC1 : hC h a = 16 + ci) (hn : narrow (xty ci k) v = v) (hfit : fits (xty ci k) v = true) (hdg : decode cc pc = .ok (.putfield x, 3)) (hf : ∀ q ∈ locs, base ≤ q.base)
    (kk : ∀ (H' : Heap) (locs' : List Loc), sm_R D base s (putF h (128 * ci + k) a v) H' → (∀ q ∈ locs', base ≤ q.base) → W p l e R s m args below meth c H' locs' cells slots Q (F0 m (pc + 3) ls r)) : W p l e R s m args below meth c H locs cells slots Q (F0 m pc ls (v :: .ref a :: r)) := by
  obtain ⟨q, ref, hq, hk, hs, hlk⟩ := hok
  obtain ⟨q', hq', hwr⟩ := hwk
  rw [hq] at hq'
  cases hq'
  obtain ⟨hN, hin, hty, hnm⟩ := hcl ci q hq
  have hap := va_apart (own := own) (ci := ci) hts hin (xty ci) hty hnm hK hq
  obtain ⟨cell, q1, q2, q3, q4⟩ := hR.2.2.1 a ci q hC1 hq
  obtain ⟨hS, hfc, kC, hkC, hkind⟩ := hK.1 ci _ hq
  obtain ⟨cf, kf, fi, f, hi, hsl⟩ := hS k hk
  have hst := (u_facts hfc hkC (u_lays hts hin hk) hi).1
  have hba : base ≤ a := hR.2.1 a (by omega) (fun z => by omega)
  have done : ∀ H' : Heap, H'[a]? = some (cell.setSlot f.slot v) → H'.size = H.size → (∀ q, q ≠ a → H'[q]? = H[q]?) → W p l e R s m args below meth c H' (locs ++ [⟨a, f.slot⟩]) cells slots Q (F0 m (pc + 3) ls r) := by
    intro H' e1 e2 e3
    rw [hsl] at e1 ⊢
    refine kk H' _ (hR.setF hC1 hq (fun cj r hr => (hcl cj r hr).1) (by omega) ⟨_, e1, q2, q3, t_set q4 hap hk v⟩ e2 e3) (fun q hq => ?_)
    rcases List.mem_append.mp hq with h1 | h1
    · exact hf q h1
    · rw [List.mem_singleton.mp h1]
      exact hba
  have hlay := hts _ (hin _ (u_in_lay hk))
  unfold u_lay at hlay
  rcases hwr with hfin | ⟨hfin, hz, hmn, hdecl⟩
  · rw [if_neg (by rw [hfin]; decide)] at hlay
    have h6 := u_store hfc hkC hkind hlay hi (hty k hk) hn hfit
    rcases hlk with ⟨-, hl⟩ | ⟨-, host, hl⟩
    · exact W.putK hexec hb (f := f) ⟨hown, hts _ hl, ⟨_, _, _, sm_same hts hs _ hi⟩, hst⟩ (by rw [q2]; exact h6) q1 q3 (by rw [hsl]; exact k2_hasslot (q4 k hk)) rfl rfl hdg done
    · exact va_WputK hexec hb (f := f) hown (va_Nw.use rfl (hnw _ hl)) (sm_same hts hs _ hi) hst (by rw [q2]; exact h6) q1 q3 (by rw [hsl]; exact k2_hasslot (q4 k hk)) rfl rfl hdg done
  · rcases hlk with ⟨-, hl⟩ | ⟨h0, -⟩
    · rw [if_pos hfin] at hlay
      have hcf : m.cls = cf := by
        obtain ⟨_, _, c', _, _, _, -, -, hf', -, -, -, hown2, -⟩ := Cond.laysFinal_spec hlay
        have e1 : c' = cf := by have := hi.symm.trans hf'; simp at this; exact this.1.symm
        rw [hdecl] at hown2
        rw [← e1]; exact Option.some.inj (hown.symm.trans hown2)
      have h6 := u_fits hfc hkC hkind (Or.inr hlay) hi (hty k hk) hn hfit
      exact W.putFinK hexec hb hown (hts _ hl) (sm_same hts hs _ hi) hst hcf hmn (by rw [q2]; exact h6) q1 q3 (by rw [hsl]; exact k2_hasslot (q4 k hk)) rfl rfl hdg done
    · exact absurd hz h0
theorem sm_ast {a i : Nat} {v : Value} {ty : FieldType} (hR : sm_R D base s h H) (h15 : ¬ sm_ro (hC h a)) (ht : sm_ty (hC h a) = some ty) (hf : ∀ q ∈ locs, base ≤ q.base) {cA : ClassId} (hA1 : ArrOfT s cA ty) (hA2 : va_RA s cA ty)
    (kk : ∀ (H' : Heap) (locs' : List Loc), sm_R D base s (putA h a i v) H' → (∀ q ∈ locs', base ≤ q.base) → W p l e R s m args below meth c H' locs' cells slots Q (F0 m (pc + 1) ls S)) :
    ∀ H' : Heap, H'[a]? = some ((arrV cA (hL h a) (hA h a)).setSlot i v) → H'.size = H.size → (∀ q, q ≠ a → H'[q]? = H[q]?) → W p l e R s m args below meth c H' (locs ++ [⟨a, i⟩]) cells slots Q (F0 m (pc + 1) ls S) := by
  intro H' e1 e2 e3
  rw [arrV_store] at e1
  have hba : base ≤ a := hR.2.1 a (by intro z; rw [z] at ht; cases ht) h15
  refine kk H' _ (hR.setA h15 ht hA1 hA2 e1 e2 e3) (fun q hq => ?_)
  rcases List.mem_append.mp hq with h1 | h1
  · exact hf q h1
  · rw [List.mem_singleton.mp h1]
    exact hba
theorem sm_heap (hexec : p.tables.exec = Jvm.exec) (hb : c.code = cc) (hts : ∀ w ∈ Ts, w.before args s = true) (hnw : ∀ w ∈ NW, va_Nw w s) (hcl : sm_cls Ts) (hown : s.vm.findClass own = some m.cls) (hK : va_K D xcl [] s) (hR : sm_R D base s h H) {i : Instr} {d : Nat × Nat} (hdg : decode cc pc = .ok (i, sm_len i)) (hok : sm_hok Ts NW own meth.name i d) (hh : sm_hp i d S h = some (S', h'))
    (hf : ∀ q ∈ locs, base ≤ q.base) (hbs : base ≤ hT h) (hcells : cells + (hT h' - hT h) ≤ R.cells) (hslots : slots + (hU h' - hU h) ≤ R.slots)
    (kk : ∀ (H' : Heap) (locs' : List Loc), sm_R D base s h' H' → (∀ q ∈ locs', base ≤ q.base) → W p l e R s m args below meth c H' locs' (cells + (hT h' - hT h)) (slots + (hU h' - hU h)) Q (F0 m (pc + sm_len i) ls S')) : W p l e R s m args below meth c H locs cells slots Q (F0 m pc ls S) := by
  have z1 : ∀ t : sm_H, hT t - hT t = 0 := fun t => Nat.sub_self _
  have z2 : ∀ t : sm_H, hU t - hU t = 0 := fun t => Nat.sub_self _
  cases i with
  | getfield x =>
    replace hh : sm_gf d.1 (d.2 / 2) S h = some (S', h') := hh
    unfold sm_gf at hh
    split at hh
    · split at hh
      · rename_i hc
        cases hh
        refine sm_getf hexec hb hts hnw hcl hown hK hR hok hc hdg ?_
        have := kk H locs hR hf
        rw [z1, z2] at this
        exact this
      · cases hh
    · cases hh
  | putfield x =>
    replace hh : sm_pf d.1 (d.2 / 2) S h = some (S', h') := hh
    unfold sm_pf at hh
    split at hh
    · split at hh
      · rename_i hc
        cases hh
        exact sm_putf hexec hb hts hnw hcl hown hK hR hok.1 hok.2 hc.1 hc.2.1 hc.2.2 hdg hf (fun H' locs' r1 r2 => by
          have := kk H' locs' r1 r2
          rw [show hT (putF h (128 * d.1 + d.2 / 2) _ _) = hT h from rfl, show hU (putF h (128 * d.1 + d.2 / 2) _ _) = hU h from rfl, z1, z2] at this
          exact this)
      · cases hh
    · cases hh
  | new x =>
    replace hh : (if d.2 = 0 then sm_nw d.1 S h else none) = some (S', h') := hh
    split at hh
    · rename_i hd0
      unfold sm_nw at hh
      obtain ⟨q, hq, hl, hins, hini⟩ := hok hd0
      rw [hq] at hh
      cases hh
      obtain ⟨hN, hin, hty, hnm⟩ := hcl d.1 q hq
      have hKn := hK.1 d.1 q hq
      have w1 : hT h + 1 - hT h = 1 := by omega
      have w2 : hU h + q.2.2 - hU h = q.2.2 := by omega
      rw [show hT (newO h d.1 q.2.2 _) = hT h + 1 from rfl, w1] at hcells
      rw [show hU (newO h d.1 q.2.2 _) = hU h + q.2.2 from rfl, w2] at hslots
      refine W.newcK hexec hb hown (hts _ hl) (hts _ hins) (hts _ hini) rfl hdg hcells hslots hKn.2.1 hR.1 fun H1 kC hkC e1 e2 e3 => ?_
      have := kk H1 locs (hR.mkO (ci := d.1) (n := q.2.2) (dv := fun g => defaultValue (xty d.1 (g - 128 * d.1))) hbs hq ((u_born (xty d.1) hts hin hKn hkC e1 hty).to (fun j _ => by rw [show 128 * d.1 + j - 128 * d.1 = j by omega])) e2 e3) hf
      rw [show hT (newO h d.1 q.2.2 _) = hT h + 1 from rfl, w1, show hU (newO h d.1 q.2.2 _) = hU h + q.2.2 from rfl, w2] at this
      exact this
    · cases hh
  | newarray t =>
    replace hh : sm_na t S h = some (S', h') := hh
    unfold sm_na at hh
    split at hh
    · rename_i n r
      split at hh
      · rename_i hc
        cases hh
        have w1 : hT h + 1 - hT h = 1 := by omega
        have w2 : hU h + n.toNatClampNeg - hU h = n.toNatClampNeg := by omega
        rw [show hT (newA h (sm_nt t) n.toNatClampNeg _) = hT h + 1 from rfl, w1] at hcells
        rw [show hU (newA h (sm_nt t) n.toNatClampNeg _) = hU h + n.toNatClampNeg from rfl, w2] at hslots
        have ht : sm_ty (sm_nt t) = some (newarray.typeOf t) ∧ ¬ sm_ro (sm_nt t) := by
          have := hc.2.2
          cases t <;> first | exact ⟨rfl, by decide⟩ | exact absurd rfl this
        refine va_newaK hexec hb (hts _ hok) rfl hdg rfl hc.1 rfl hc.2.1 hcells hslots hR.1 fun H1 cA e1 e2 e3 hAr hNm => ?_
        have := kk H1 locs (hR.mkA hbs ht.1 ht.2 hAr (by cases t <;> exact hNm) e1 e2 e3) hf
        rw [show hT (newA h (sm_nt t) n.toNatClampNeg _) = hT h + 1 from rfl, w1, show hU (newA h (sm_nt t) n.toNatClampNeg _) = hU h + n.toNatClampNeg from rfl, w2] at this
        exact this
      · cases hh
    · cases hh
  | arraylength =>
    replace hh : sm_le S h = some (S', h') := hh
    unfold sm_le at hh
    split at hh
    · split at hh
      · rename_i a r hc
        cases hh
        obtain ⟨ty, ht⟩ := Option.isSome_iff_exists.mp hc
        obtain ⟨cell, c1, c2, c3, c4, c5⟩ := hR.rd ht
        refine W.alen hexec hb c1 c2 (n := nI (hL h a)) (by rw [c4]; rfl) rfl rfl hdg ?_
        have := kk H locs hR hf
        rw [z1, z2] at this
        exact this
      · cases hh
    · cases hh
  | iaload =>
    replace hh : sm_al .int S h = some (S', h') := hh
    unfold sm_al at hh
    split at hh
    · split at hh
      · rename_i a r hc
        cases hh
        obtain ⟨cell, c1, c2, c3, c4, c5⟩ := hR.rd hc.1
        have hn := sm_inn hc.2 c4
        refine W.iald hexec hb c1 c2 c3 hn (c5 _ hc.2.2) rfl rfl hdg ?_
        have := kk H locs hR hf
        rw [z1, z2] at this
        exact this
      · cases hh
    · cases hh
  | laload =>
    replace hh : sm_al .long S h = some (S', h') := hh
    unfold sm_al at hh
    split at hh
    · split at hh
      · rename_i a r hc
        cases hh
        obtain ⟨cell, c1, c2, c3, c4, c5⟩ := hR.rd hc.1
        have hn := sm_inn hc.2 c4
        refine W.lald hexec hb c1 c2 c3 hn (c5 _ hc.2.2) rfl rfl hdg ?_
        have := kk H locs hR hf
        rw [z1, z2] at this
        exact this
      · cases hh
    · cases hh
  | caload =>
    replace hh : sm_al .char S h = some (S', h') := hh
    unfold sm_al at hh
    split at hh
    · split at hh
      · rename_i a r hc
        cases hh
        obtain ⟨cell, c1, c2, c3, c4, c5⟩ := hR.rd hc.1
        have hn := sm_inn hc.2 c4
        refine W.cald hexec hb c1 c2 c3 hn (c5 _ hc.2.2) rfl rfl hdg ?_
        have := kk H locs hR hf
        rw [z1, z2] at this
        exact this
      · cases hh
    · cases hh
  | baload =>
    replace hh : sm_bl2 S h = some (S', h') := hh
    unfold sm_bl2 at hh
    split at hh
    · split at hh
      · rename_i a r hc
        cases hh
        rcases hc.1 with h4 | h4
        · obtain ⟨cell, c1, c2, c3, c4, c5⟩ := hR.rd (a := a) (ty := .byte) (by rw [h4]; rfl)
          have hn := sm_inn hc.2 c4
          refine W.bald hexec hb c1 c2 c3 hn (c5 _ hc.2.2) rfl rfl hdg ?_
          have := kk H locs hR hf
          rw [z1, z2] at this
          exact this
        · obtain ⟨cell, c1, c2, c3, c4, c5⟩ := hR.rd (a := a) (ty := .boolean) (by rw [h4]; rfl)
          have hn := sm_inn hc.2 c4
          refine W.zald hexec hb c1 c2 c3 hn (c5 _ hc.2.2) rfl rfl hdg ?_
          have := kk H locs hR hf
          rw [z1, z2] at this
          exact this
      · cases hh
    · cases hh
  | iastore =>
    replace hh : sm_ai S h = some (S', h') := hh
    unfold sm_ai at hh
    split at hh
    · split at hh
      · rename_i a r hc
        cases hh
        have h15 : ¬ sm_ro (hC h a) := by rw [hc.1]; decide
        have ht : sm_ty (hC h a) = some .int := by rw [hc.1]; rfl
        obtain ⟨cA, a1, a2, a3⟩ := hR.2.2.2.1 a .int h15 ht
        refine W.iast hexec hb a3 (a1 _ _) (fun q => by cases q) (by rw [arrV_size]; exact fun z => z.elim hc.2.1 (fun z => absurd hc.2.2 (Nat.not_lt.mpr z))) rfl rfl hdg (sm_ast hR h15 ht hf a1 a2 fun H' locs' r1 r2 => ?_)
        have := kk H' locs' r1 r2
        rw [show hT (putA h a _ _) = hT h from rfl, show hU (putA h a _ _) = hU h from rfl, z1, z2] at this
        exact this
      · cases hh
    · cases hh
  | lastore =>
    replace hh : sm_aj S h = some (S', h') := hh
    unfold sm_aj at hh
    split at hh
    · split at hh
      · rename_i a r hc
        cases hh
        have h15 : ¬ sm_ro (hC h a) := by rw [hc.1]; decide
        have ht : sm_ty (hC h a) = some .long := by rw [hc.1]; rfl
        obtain ⟨cA, a1, a2, a3⟩ := hR.2.2.2.1 a .long h15 ht
        refine W.last hexec hb a3 (a1 _ _) (fun q => by cases q) (by rw [arrV_size]; exact fun z => z.elim hc.2.1 (fun z => absurd hc.2.2 (Nat.not_lt.mpr z))) rfl rfl hdg (sm_ast hR h15 ht hf a1 a2 fun H' locs' r1 r2 => ?_)
        have := kk H' locs' r1 r2
        rw [show hT (putA h a _ _) = hT h from rfl, show hU (putA h a _ _) = hU h from rfl, z1, z2] at this
        exact this
      · cases hh
    · cases hh
  | castore =>
    replace hh : sm_ac S h = some (S', h') := hh
    unfold sm_ac at hh
    split at hh
    · split at hh
      · rename_i a r hc
        cases hh
        have h15 : ¬ sm_ro (hC h a) := by rw [hc.1]; decide
        have ht : sm_ty (hC h a) = some .char := by rw [hc.1]; rfl
        obtain ⟨cA, a1, a2, a3⟩ := hR.2.2.2.1 a .char h15 ht
        refine W.cast hexec hb a3 (a1 _ _) (fun q => by cases q) (by rw [arrV_size]; exact fun z => z.elim hc.2.1 (fun z => absurd hc.2.2 (Nat.not_lt.mpr z))) rfl rfl hdg (sm_ast hR h15 ht hf a1 a2 fun H' locs' r1 r2 => ?_)
        have := kk H' locs' r1 r2
        rw [show hT (putA h a _ _) = hT h from rfl, show hU (putA h a _ _) = hU h from rfl, z1, z2] at this
        exact this
      · cases hh
    · cases hh
  | bastore =>
    replace hh : sm_ab S h = some (S', h') := hh
    unfold sm_ab at hh
    split at hh
    · split at hh
      · rename_i a r hc
        cases hh
        have h15 : ¬ sm_ro (hC h a) := by rw [hc.1]; decide
        have ht : sm_ty (hC h a) = some .byte := by rw [hc.1]; rfl
        obtain ⟨cA, a1, a2, a3⟩ := hR.2.2.2.1 a .byte h15 ht
        refine W.bast hexec hb a3 (a1 _ _) (fun q => by cases q) (by rw [arrV_size]; exact fun z => z.elim hc.2.1 (fun z => absurd hc.2.2 (Nat.not_lt.mpr z))) rfl rfl hdg (sm_ast hR h15 ht hf a1 a2 fun H' locs' r1 r2 => ?_)
        have := kk H' locs' r1 r2
        rw [show hT (putA h a _ _) = hT h from rfl, show hU (putA h a _ _) = hU h from rfl, z1, z2] at this
        exact this
      · split at hh
        · rename_i a r _ hc
          cases hh
          have h15 : ¬ sm_ro (hC h a) := by rw [hc.1]; decide
          have ht : sm_ty (hC h a) = some .boolean := by rw [hc.1]; rfl
          obtain ⟨cA, a1, a2, a3⟩ := hR.2.2.2.1 a .boolean h15 ht
          refine W.zast hexec hb a3 (a1 _ _) (fun q => by cases q) (by rw [arrV_size]; exact fun z => z.elim hc.2.1 (fun z => absurd hc.2.2 (Nat.not_lt.mpr z))) rfl rfl hdg (sm_ast hR h15 ht hf a1 a2 fun H' locs' r1 r2 => ?_)
          have := kk H' locs' r1 r2
          rw [show hT (putA h a _ _) = hT h from rfl, show hU (putA h a _ _) = hU h from rfl, z1, z2] at this
          exact this
        · cases hh
    · cases hh
  | checkcast x =>
    replace hh : sm_cc d.1 S h = some (S', h') := hh
    unfold sm_cc at hh
    obtain ⟨q, hq, hl⟩ := hok
    split at hh
    · cases hh
      refine lv_castN hexec hb hdg ?_
      have := kk H locs hR hf
      rw [z1, z2] at this
      exact this
    · split at hh
      · rename_i a r hc
        cases hh
        obtain ⟨cell, q1, q2, q3, q4⟩ := hR.2.2.1 a d.1 q hc hq
        have hKn := hK.1 d.1 q hq
        refine va_castS hexec hb hown (hts _ hl) hKn.2 ⟨cell, q1, by rw [q3]; rfl, by rw [q2]; exact hKn.2.1⟩ hdg ?_
        have := kk H locs hR hf
        rw [z1, z2] at this
        exact this
      · cases hh
    · cases hh
  | anewarray x =>
    replace hh : sm_an S h = some (S', h') := hh
    unfold sm_an at hh
    split at hh
    · rename_i n r
      split at hh
      · rename_i hc
        cases hh
        have w1 : hT h + 1 - hT h = 1 := by omega
        have w2 : hU h + n.toNatClampNeg - hU h = n.toNatClampNeg := by omega
        rw [show hT (newA h 7 n.toNatClampNeg .null) = hT h + 1 from rfl, w1] at hcells
        rw [show hU (newA h 7 n.toNatClampNeg .null) = hU h + n.toNatClampNeg from rfl, w2] at hslots
        refine W.anew hexec hb hown (hts _ hok.1) (va_AO.use (C := "java/lang/Object") (hnw _ hok.2)) rfl hdg rfl hc.1 hc.2 hcells hslots fun cA kA comp f1 f2 f3 f4 => ?_
        have e1 : (H.push ({ cls := cA, slots := Array.replicate n.toNatClampNeg .null, vm := .none } : Cell))[hT h]? = some (arrV cA n.toNatClampNeg (fun _ => .null)) := by rw [← hR.1, Array.getElem?_push_size, ← arrV_new]
        have e2 : (H.push ({ cls := cA, slots := Array.replicate n.toNatClampNeg .null, vm := .none } : Cell)).size = hT h + 1 := by rw [Array.size_push, hR.1]
        have e3 : ∀ q : Nat, q < hT h → (H.push ({ cls := cA, slots := Array.replicate n.toNatClampNeg .null, vm := .none } : Cell))[q]? = H[q]? := fun q hq => by rw [Array.getElem?_push, if_neg (by rw [hR.1]; omega)]
        have := kk _ locs (hR.mkA (t := 7) (ty := .object "java/lang/Object") hbs rfl (by decide) (fun N z => ⟨(fun k h => by cases h), kA, f2, comp, f3⟩) ⟨kA, comp, f2, f3, f4, f1⟩ e1 e2 e3) hf
        rw [show hT (newA h 7 n.toNatClampNeg .null) = hT h + 1 from rfl, w1, show hU (newA h 7 n.toNatClampNeg .null) = hU h + n.toNatClampNeg from rfl, w2] at this
        rw [hR.1]
        exact this
      · cases hh
    · cases hh
  | aaload =>
    replace hh : sm_al (.object "java/lang/Object") S h = some (S', h') := hh
    unfold sm_al at hh
    split at hh
    · split at hh
      · rename_i a r hc
        cases hh
        obtain ⟨cell, c1, c2, c3, c4, c5⟩ := hR.rd hc.1
        have hn := sm_inn hc.2 c4
        refine W.aald hexec hb c1 c2 rfl c3 hn (c5 _ hc.2.2) rfl rfl hdg ?_
        have := kk H locs hR hf
        rw [z1, z2] at this
        exact this
      · cases hh
    · cases hh
  | aastore =>
    replace hh : sm_aa S h = some (S', h') := hh
    unfold sm_aa at hh
    split at hh
    · split at hh
      · rename_i v i a r hc
        cases hh
        have h15 : ¬ sm_ro (hC h a) := by rw [hc.1]; decide
        have ht : sm_ty (hC h a) = some (.object "java/lang/Object") := by rw [hc.1]; rfl
        obtain ⟨cA, a1, a2, a3⟩ := hR.2.2.2.1 a _ h15 ht
        obtain ⟨ci, hci⟩ : ∃ ci, hC h v = 16 + ci := ⟨hC h v - 16, by omega⟩
        have hlt : ci < xob := by omega
        obtain ⟨q, hq⟩ : ∃ q, xcl[ci]? = some q := ⟨_, List.getElem?_eq_getElem (Nat.lt_of_lt_of_le hlt xob_le)⟩
        obtain ⟨cellV, g1, g2, g3, -⟩ := hR.2.2.1 v ci q hci hq
        have hcls := (hK.1 ci q hq).2
        obtain ⟨kA, comp, k1, k2, k3, -⟩ := id a2
        obtain ⟨kE, hkE, -⟩ := Vm.findClass_spec k3
        obtain ⟨c0, t1, f1, f2, f3⟩ := Cond.castable_spec (va_Nw.use (A := args) rfl (hnw _ (hok ci q hlt hq)))
        cases hcls.1.symm.trans f1
        cases k3.symm.trans f2
        obtain ⟨kC, hkC, -⟩ := hcls.2
        refine W.aast hexec hb a3 (fun q h => by cases h) (fun h => by cases h) k1 k2 rfl hkE ⟨hc.2.1.1, by rw [arrV_size]; exact hc.2.1.2⟩ g1 (fun q h => by rw [g3] at h; cases h) (by rw [g2]; exact hkC) (by rw [g2]; exact f3) rfl rfl hdg (sm_ast hR h15 ht hf a1 a2 fun H' locs' r1 r2 => ?_)
        have := kk H' locs' r1 r2
        rw [show hT (putA h a _ _) = hT h from rfl, show hU (putA h a _ _) = hU h from rfl, z1, z2] at this
        exact this
      · cases hh
    · split at hh
      · rename_i i a r hc
        cases hh
        have h15 : ¬ sm_ro (hC h a) := by rw [hc.1]; decide
        have ht : sm_ty (hC h a) = some (.object "java/lang/Object") := by rw [hc.1]; rfl
        obtain ⟨cA, a1, a2, a3⟩ := hR.2.2.2.1 a _ h15 ht
        refine va_WaastN hexec hb a3 (a1 _ _) (fun q => by cases q) (by rw [arrV_size]; exact fun z => z.elim hc.2.1 (fun z => absurd hc.2.2 (Nat.not_lt.mpr z))) rfl rfl hdg (sm_ast hR h15 ht hf a1 a2 fun H' locs' r1 r2 => ?_)
        have := kk H' locs' r1 r2
        rw [show hT (putA h a _ _) = hT h from rfl, show hU (putA h a _ _) = hU h from rfl, z1, z2] at this
        exact this
      · cases hh
    · cases hh
  | ldc x =>
    cases hh
    refine lv_ldc hexec hb hown (hts _ hok) hdg ?_
    have := kk H locs hR hf
    rw [z1, z2] at this
    exact this
  | ldc2_w x =>
    cases hh
    refine lv_ldc2 hexec hb hown (hts _ hok) hdg ?_
    have := kk H locs hR hf
    rw [z1, z2] at this
    exact this
  | getstatic x =>
    cases hh
    obtain ⟨cf, kf, fi, f, a, cell, g1, g2, g3, g4, g5, g6, g7, g8⟩ := hR.2.2.2.2.2
    refine W.gets hexec hb hown (hts _ hok) g1 g2 g3 g4 g5 (fun e => by rw [e] at g6; cases g6) g7 rfl hdg ?_
    have := kk H locs hR hf
    rw [z1, z2] at this
    exact this
  | _ => cases hh
end SMH
end
section
/-! THE SMALL MACHINE: n steps at the most; method j at pc, locals L, operand stack S, heap h; the answer: 0 and what came back (or 1 + the number of what was thrown), the heap -/
def sm_fl : List Value → List Value
  | [] => []
  | v :: vs => if v.category = 2 then v :: jk :: sm_fl vs else v :: sm_fl vs
def sm_en (As : List Value) (n : Nat) : List Value := sm_fl As ++ List.replicate (n - (sm_fl As).length) jk
/-- a call: the callee, its arguments, the rest of the stack -/
def sm_cl (i : Instr) (d : Nat × Nat) (S : List Value) (h : sm_H) : Option (Nat × List Value × List Value) := match i with
  | .invokestatic _ => if xna d.1 ≤ S.length ∧ ((S.drop (xna d.1)).map fun v => v.category).sum ≤ 8 ∧ (sm_fl (S.take (xna d.1)).reverse).length ≤ xml d.1 then some (d.1, (S.take (xna d.1)).reverse, S.drop (xna d.1)) else none
  | .invokevirtual _ => match S.drop (xna d.1) with
    | .ref b :: r => if xna d.1 ≤ S.length ∧ hC h b = 16 + xrc d.1 ∧ (r.map fun v => v.category).sum ≤ 8 ∧ (sm_fl (.ref b :: (S.take (xna d.1)).reverse)).length ≤ xml d.1 then some (d.1, .ref b :: (S.take (xna d.1)).reverse, r) else none
    | _ => none
  | .invokespecial _ => if d.2 = 2 then none else match S.drop (xna d.1) with
    | .ref b :: r => if xna d.1 ≤ S.length ∧ (r.map fun v => v.category).sum ≤ 8 ∧ (sm_fl (.ref b :: (S.take (xna d.1)).reverse)).length ≤ xml d.1 then some (d.1, .ref b :: (S.take (xna d.1)).reverse, r) else none
    | _ => none
  | _ => none
/-- Object's constructor -/
def sm_oi (i : Instr) (d : Nat × Nat) (S : List Value) : Option (List Value) := match i, S with
  | .invokespecial _, .ref _ :: r => if d.2 = 2 ∧ (r.map fun v => v.category).sum ≤ 8 then some r else none
  | _, _ => none
noncomputable def sm_run : Nat → Nat → Nat → List Value → List Value → sm_H → Option (Nat × Option Value × sm_H)
  | 0, _, _, _, _, _ => none
  | n + 1, j, pc, L, S, h => match xat j pc with
    | none => none
    | some (i, d) => match sm_ps i d L S with
      | some (L', S') => sm_run n j (pc + sm_len i) L' S' h
      | none => match sm_br i d pc S with
        | some (C, t, f, S') => @ite _ C (Classical.propDecidable C) (sm_run n j t L S' h) (sm_run n j f L S' h)
        | none => match sm_sw i pc S with
          | some (t, S') => sm_run n j t L S' h
          | none => match sm_hp i d S h with
            | some (S', h') => sm_run n j (pc + sm_len i) L S' h'
            | none => match sm_rt i (xrt j) S with
              | some v => some (0, v, h)
              | none => match sm_oi i d S with
                | some r => sm_run n j (pc + 3) L r h
                | none => match sm_cl i d S h with
                  | some (j', As, r) => match sm_run n j' 0 (sm_en As (xml j')) [] h with
                    | some (0, v, h') => sm_run n j (pc + 3) L (v.toList ++ r) h'
                    | _ => none
                  | none => none
theorem sm_hp_mono {i : Instr} {d : Nat × Nat} {S S' : List Value} {h h' : sm_H} (hh : sm_hp i d S h = some (S', h')) : hT h ≤ hT h' ∧ hU h ≤ hU h' := by
  have e0 : hT h ≤ hT h ∧ hU h ≤ hU h := ⟨Nat.le_refl _, Nat.le_refl _⟩
  have e1 : ∀ ci n dv, hT h ≤ hT (newO h ci n dv) ∧ hU h ≤ hU (newO h ci n dv) := fun ci n dv => ⟨Nat.le_add_right _ _, Nat.le_add_right _ _⟩
  have e2 : ∀ t n dv, hT h ≤ hT (newA h t n dv) ∧ hU h ≤ hU (newA h t n dv) := fun t n dv => ⟨Nat.le_add_right _ _, Nat.le_add_right _ _⟩
  cases i with
  | getfield x => replace hh : sm_gf d.1 (d.2 / 2) S h = some (S', h') := hh; unfold sm_gf at hh; split at hh <;> (try split at hh) <;> cases hh <;> exact e0
  | putfield x => replace hh : sm_pf d.1 (d.2 / 2) S h = some (S', h') := hh; unfold sm_pf at hh; split at hh <;> (try split at hh) <;> cases hh <;> exact e0
  | new x => replace hh : (if d.2 = 0 then sm_nw d.1 S h else none) = some (S', h') := hh; unfold sm_nw at hh; split at hh <;> (try split at hh) <;> cases hh <;> exact e1 _ _ _
  | newarray t => replace hh : sm_na t S h = some (S', h') := hh; unfold sm_na at hh; split at hh <;> (try split at hh) <;> cases hh <;> exact e2 _ _ _
  | arraylength => replace hh : sm_le S h = some (S', h') := hh; unfold sm_le at hh; split at hh <;> (try split at hh) <;> cases hh <;> exact e0
  | iaload => replace hh : sm_al .int S h = some (S', h') := hh; unfold sm_al at hh; split at hh <;> (try split at hh) <;> cases hh <;> exact e0
  | laload => replace hh : sm_al .long S h = some (S', h') := hh; unfold sm_al at hh; split at hh <;> (try split at hh) <;> cases hh <;> exact e0
  | caload => replace hh : sm_al .char S h = some (S', h') := hh; unfold sm_al at hh; split at hh <;> (try split at hh) <;> cases hh <;> exact e0
  | baload => replace hh : sm_bl2 S h = some (S', h') := hh; unfold sm_bl2 at hh; split at hh <;> (try split at hh) <;> cases hh <;> exact e0
  | iastore => replace hh : sm_ai S h = some (S', h') := hh; unfold sm_ai at hh; split at hh <;> (try split at hh) <;> cases hh <;> exact e0
  | lastore => replace hh : sm_aj S h = some (S', h') := hh; unfold sm_aj at hh; split at hh <;> (try split at hh) <;> cases hh <;> exact e0
  | castore => replace hh : sm_ac S h = some (S', h') := hh; unfold sm_ac at hh; split at hh <;> (try split at hh) <;> cases hh <;> exact e0
  | bastore => replace hh : sm_ab S h = some (S', h') := hh; unfold sm_ab at hh; split at hh <;> (try split at hh) <;> (try split at hh) <;> cases hh <;> exact e0
  | checkcast x => replace hh : sm_cc d.1 S h = some (S', h') := hh; unfold sm_cc at hh; split at hh <;> (try split at hh) <;> cases hh <;> exact e0
  | anewarray x => replace hh : sm_an S h = some (S', h') := hh; unfold sm_an at hh; split at hh <;> (try split at hh) <;> cases hh <;> exact e2 _ _ _
  | aaload => replace hh : sm_al (.object "java/lang/Object") S h = some (S', h') := hh; unfold sm_al at hh; split at hh <;> (try split at hh) <;> cases hh <;> exact e0
  | aastore => replace hh : sm_aa S h = some (S', h') := hh; unfold sm_aa at hh; split at hh <;> (try split at hh) <;> cases hh <;> exact e0
  | ldc x => cases hh; exact e0
  | ldc2_w x => cases hh; exact e0
  | getstatic x => cases hh; exact e0
  | _ => cases hh
theorem sm_mono : ∀ (n j pc : Nat) (L S : List Value) (h : sm_H) (k : Nat) (v : Option Value) (h' : sm_H), sm_run n j pc L S h = some (k, v, h') → hT h ≤ hT h' ∧ hU h ≤ hU h'
  | 0, j, pc, L, S, h, k, v, h', r => by cases r
  | n + 1, j, pc, L, S, h, k, v, h', r => by
    have ih := sm_mono n
    unfold sm_run at r
    split at r
    · cases r
    · split at r
      · exact ih _ _ _ _ _ _ _ _ r
      · split at r
        · rename_i C t f S' _
          by_cases hC : C
          · rw [if_pos hC] at r; exact ih _ _ _ _ _ _ _ _ r
          · rw [if_neg hC] at r; exact ih _ _ _ _ _ _ _ _ r
        · split at r
          · exact ih _ _ _ _ _ _ _ _ r
          · split at r
            · rename_i hh
              have e1 := sm_hp_mono hh
              have e2 := ih _ _ _ _ _ _ _ _ r
              exact ⟨Nat.le_trans e1.1 e2.1, Nat.le_trans e1.2 e2.2⟩
            · split at r
              · cases r; exact ⟨Nat.le_refl _, Nat.le_refl _⟩
              · split at r
                · exact ih _ _ _ _ _ _ _ _ r
                · split at r
                  · split at r
                    · rename_i hc
                      have e1 := ih _ _ _ _ _ _ _ _ hc
                      have e2 := ih _ _ _ _ _ _ _ _ r
                      exact ⟨Nat.le_trans e1.1 e2.1, Nat.le_trans e1.2 e2.2⟩
                    · cases r
                  · cases r
/-- more steps don't change an answer -/
theorem sm_more : ∀ (n : Nat) (j pc : Nat) (L S : List Value) (h : sm_H) (x : Nat × Option Value × sm_H), sm_run n j pc L S h = some x → sm_run (n + 1) j pc L S h = some x
  | 0, j, pc, L, S, h, x, r => by cases r
  | n + 1, j, pc, L, S, h, x, r => by
    have ih := sm_more n
    unfold sm_run at r
    unfold sm_run
    split at r
    · cases r
    · rename_i i d hx
      split at r
      · exact ih _ _ _ _ _ _ r
      · split at r
        · rename_i C t f S' _
          by_cases hC : C
          · rw [if_pos hC] at r ⊢; exact ih _ _ _ _ _ _ r
          · rw [if_neg hC] at r ⊢; exact ih _ _ _ _ _ _ r
        · split at r
          · exact ih _ _ _ _ _ _ r
          · split at r
            · exact ih _ _ _ _ _ _ r
            · split at r
              · exact r
              · split at r
                · exact ih _ _ _ _ _ _ r
                · split at r
                  · split at r
                    · rename_i hc
                      rw [ih _ _ _ _ _ _ hc]
                      exact ih _ _ _ _ _ _ r
                    · cases r
                  · cases r
end
section
/-! WHAT THE SMALL MACHINE ANSWERS THE JVM's MODEL ANSWERS -/
theorem sm_fl_len : ∀ As : List Value, (lg_sl As).length = (sm_fl As).length
  | [] => rfl
  | v :: vs => by
    have ih := sm_fl_len vs
    unfold sm_fl
    by_cases hv : v.category = 2
    · rw [if_pos hv]
      simp [lg_sl, hv] at ih ⊢
      omega
    · rw [if_neg hv]
      simp [lg_sl, hv] at ih ⊢
      omega
theorem sm_as_jk : ∀ (k i : Nat), sm_as i (List.replicate k jk) = []
  | 0, i => rfl
  | k + 1, i => by
    rw [List.replicate_succ]
    unfold sm_as
    rw [if_pos rfl]
    exact sm_as_jk k (i + 1)
theorem sm_as_fl : ∀ (As : List Value) (k i : Nat), ∀ q ∈ sm_as i (sm_fl As ++ List.replicate k jk), q ∈ lv_args i As
  | [], k, i, q, hq => by
    rw [show sm_fl [] = [] from rfl, List.nil_append, sm_as_jk] at hq
    cases hq
  | v :: vs, k, i, q, hq => by
    unfold sm_fl at hq
    unfold lv_args
    by_cases hv : v.category = 2
    · rw [if_pos hv] at hq ⊢
      have hj : v ≠ jk := fun z => by rw [z] at hv; cases hv
      rw [List.cons_append, List.cons_append] at hq
      unfold sm_as at hq
      rw [if_neg hj] at hq
      unfold sm_as at hq
      rw [if_pos rfl] at hq
      rcases List.mem_cons.mp hq with h | h
      · rw [h]; exact List.mem_cons_self
      · exact List.mem_cons_of_mem _ (sm_as_fl vs k (i + 2) q h)
    · rw [if_neg hv] at hq ⊢
      rw [List.cons_append] at hq
      unfold sm_as at hq
      by_cases hj : v = jk
      · rw [if_pos hj] at hq
        exact List.mem_cons_of_mem _ (sm_as_fl vs k (i + 1) q hq)
      · rw [if_neg hj] at hq
        rcases List.mem_cons.mp hq with h | h
        · rw [h]; exact List.mem_cons_self
        · exact List.mem_cons_of_mem _ (sm_as_fl vs k (i + 1) q h)
theorem sm_entry (As : List Value) {n : Nat} (h : (sm_fl As).length ≤ n) : sm_lc ((lg_sl As ++ List.replicate (n - (lg_sl As).length) Slot.unset).toArray) n (sm_en As n) := by
  have he := lv_entry As (n := n) (by rw [sm_fl_len]; exact h)
  refine ⟨by unfold sm_en; rw [List.length_append, List.length_replicate]; omega, he.1, he.2.1, fun q hq => he.2.2 q (sm_as_fl As _ 0 q hq)⟩
/-- the words of method j: its code and the whole table -/
def xws (Tg : List Cond) (j : Nat) : List Cond := Cond.code (xmn j) (xcc j) (xml j) (xrt j) :: Tg
def sm_good (w : Cond) : Prop := (w.onTables && w.keeps) = true ∨ ∃ ty, w = .arrayClass ty
/-- a word that the tables keep but that no word list may hold -/
def sm_nwk (w : Cond) : Prop := (∀ (u U : State), u.vm = U.vm → va_Nw w u → va_Nw w U) ∧ ∀ (s U : State), s.WarmedH U.vm → va_Nw w s → va_Nw w U
def sm_mok (Tg : List Cond) (j : Nat) : Prop := Cond.code (xmn j) (xcc j) (xml j) (xrt j) ∈ Tg ∧ plainName (xmn j).cls = true ∧ (xmn j).cls ≠ "java/lang/invoke/MethodHandle" ∧ (xmn j).cls ≠ "java/lang/invoke/VarHandle" ∧ (parseMethodDescriptor (xmn j).desc).map (fun d => d.parameters.length) = some (xna j) ∧ Cond.initialized (xmn j).cls ∈ Tg
def sm_cok (Tg NW : List Cond) (own : String) (j : Nat) (i : Instr) (d : Nat × Nat) : Prop := match i with
  | .invokevirtual x => (xrk d.1 + 1 ≤ xrk j ∧ 8 + (xml d.1 + 11) + xrl d.1 ≤ xrl j) ∧ sm_mok Tg d.1 ∧ Cond.instanceMethod (xmn d.1) ∈ Tg ∧ Cond.selects (xmn d.1).cls (xmn d.1) (xmn d.1) ∈ Tg ∧ (∃ q : vw_C, xcl[xrc d.1]? = some q ∧ q.1 = (xmn d.1).cls) ∧ (Cond.methodLink own x (xmn d.1) ∈ Tg ∨ ∃ host, Cond.methodLinkNest own x (xmn d.1) host ∈ NW)
  | .invokestatic x => (xrk d.1 + 1 ≤ xrk j ∧ 8 + (xml d.1 + 11) + xrl d.1 ≤ xrl j) ∧ sm_mok Tg d.1 ∧ Cond.static (xmn d.1) ∈ Tg ∧ (Cond.methodLink own x (xmn d.1) ∈ Tg ∨ ∃ host, Cond.methodLinkNest own x (xmn d.1) host ∈ NW)
  | .invokespecial x => (d.2 = 2 → (1 ≤ xrk j ∧ 20 ≤ xrl j) ∧ Cond.methodLink own x Lib.objectInit ∈ Tg ∧ Cond.instanceMethod Lib.objectInit ∈ Tg ∧ Cond.code Lib.objectInit ⟨#[0xb1]⟩ 1 none ∈ Tg) ∧ (d.2 ≠ 2 → (xrk d.1 + 1 ≤ xrk j ∧ 8 + (xml d.1 + 11) + xrl d.1 ≤ xrl j) ∧ sm_mok Tg d.1 ∧ (xmn d.1).name = "<init>" ∧ xrt d.1 = none ∧ Cond.instanceMethod (xmn d.1) ∈ Tg ∧ (Cond.methodLink own x (xmn d.1) ∈ Tg ∨ ∃ host, Cond.methodLinkNest own x (xmn d.1) host ∈ NW))
  | _ => True
def sm_isw (i : Instr) : Bool := match i with
  | .tableswitch _ _ _ _ | .lookupswitch _ _ => true
  | _ => false
def sm_ok (Tg NW : List Cond) (j pc : Nat) (i : Instr) (d : Nat × Nat) : Prop :=
  (∃ len, decode (xcc j) pc = .ok (i, len) ∧ (sm_isw i = false → len = sm_len i)) ∧ sm_kok i d ∧ sm_tok i d pc ∧ sm_hok Tg NW (xmn j).cls (xmn j).name i d ∧ sm_cok Tg NW (xmn j).cls j i d
/-- all that is said of the tables, once -/
def sm_st (Tg NW : List Cond) : Prop := sm_cls Tg ∧ (∀ w ∈ Tg, sm_good w) ∧ (∀ w ∈ NW, sm_nwk w) ∧ ∀ j pc i d, xat j pc = some (i, d) → sm_ok Tg NW j pc i d
abbrev sm_rm (j mc ms : Nat) : Room := { frames := xrk j, cells := mc, slots := ms, locals := xrl j }
def sm_Pc (D : va_G) (base : Nat) (NW : List Cond) (As : List Value) (h : sm_H) : Array Value → State → Prop := fun a U => a = As.toArray ∧ sm_R D base U h U.heap ∧ va_K D xcl [] U ∧ ∀ w ∈ NW, va_Nw w U
def sm_Qc (D : va_G) (base : Nat) (v : Option Value) (h' : sm_H) : Array Value → State → Outcome → State → Prop := fun _ _ o t => o = .returned v ∧ sm_R D base t h' t.heap
theorem sm_Pc_blind {D : va_G} {base : Nat} {NW : List Cond} (hn : ∀ w ∈ NW, sm_nwk w) {As : List Value} {h : sm_H} : FrameBlind (sm_Pc D base NW As h) := by
  intro a U g mk hp
  obtain ⟨h1, h2, h3, h4⟩ := hp
  exact ⟨h1, sm_R.moved (u := U) (U := U.calling g mk a) (Vm.Alike.refl U.vm) h2, va_K.moved (u := U) (U := U.calling g mk a) (Vm.Alike.refl U.vm) h3, fun w hw => (hn w hw).1 U (U.calling g mk a) rfl (h4 w hw)⟩
theorem sm_Pc_at {D : va_G} {base : Nat} {NW : List Cond} (hn : ∀ w ∈ NW, sm_nwk w) {As : List Value} {h : sm_H} {s : State} {H : Heap} (hR : sm_R D base s h H) (hK : va_K D xcl [] s) (hnw : ∀ w ∈ NW, va_Nw w s) : ∀ U : State, U.heap = H → s.WarmedH U.vm → sm_Pc D base NW As h As.toArray U := by
  intro U hU hW
  exact ⟨rfl, by rw [hU]; exact hR.moved hW.alike, hK.moved hW.alike, fun w hw => (hn w hw).2 s U hW (hnw w hw)⟩
theorem sm_goodIn {Tg : List Cond} (hg : ∀ w ∈ Tg, sm_good w) {j : Nat} (hc : Cond.code (xmn j) (xcc j) (xml j) (xrt j) ∈ Tg) {Ts : List Cond} (hsub : ∀ w ∈ Tg, w ∈ Ts) : GoodIn Ts (xws Tg j) := by
  intro w hw
  rcases List.mem_cons.mp hw with h | h
  · rw [h]; exact ⟨hsub _ hc, hg _ hc⟩
  · exact ⟨hsub _ h, hg _ h⟩
section SMS
variable {p : Program} {l : Launch} {e : Env} {R : Room} {s : State} {m : MethodId} {args : Array Value} {below : List Frame} {meth : Method} {c : Code} {H : Heap} {locs : List Loc} {cells slots : Nat} {Q : State → Prop} {base : Nat} {D : va_G} {h h' : sm_H} {Tg NW : List Cond}
/-- behind a call -/
theorem sm_back {mc ms : Nat} {g : JFrame} {rest : List Value} {v : Option Value} {a : Array Value} (hr : va_Run p l e R s m args below meth c H locs cells slots mc ms g rest (sm_Qc D base v h' a) (fun q => base ≤ q)) (hf : ∀ q ∈ locs, base ≤ q.base)
    (kk : ∀ (H' : Heap) (locs' : List Loc), sm_R D base s h' H' → (∀ q ∈ locs', base ≤ q.base) → W p l e R s m args below meth c H' locs' (cells + mc) (slots + ms) Q { g with pc := g.pc + 3, stack := v.toList ++ rest }) : W p l e R s m args below meth c H locs cells slots Q g := by
  intro T hT X
  obtain ⟨v', st₀, t, T', L, h0, X', hL, e1, e2, ⟨hv, hR'⟩, st⟩ := hr T hT X
  cases hv
  have hal : t.vm.Alike s.vm := by rw [← e2]; exact X'.warmed.alike.symm
  obtain ⟨t2, a1, b1⟩ := kk T'.heap (locs ++ L) (by rw [e1]; exact hR'.moved hal) (fun q hq => by
    rcases List.mem_append.mp hq with h | h
    · exact hf q h
    · exact hL q h) T' rfl X'
  exact ⟨t2, st t2 a1, b1⟩
/-- what is known in a body of method j -/
def sm_In (Tg NW : List Cond) (D : va_G) (j : Nat) (p : Program) (s : State) (m : MethodId) (args : Array Value) (meth : Method) (c : Code) : Prop :=
  p.tables.exec = Jvm.exec ∧ c.code = xcc j ∧ c.maxLocals = xml j ∧ meth.sig.returnType = xrt j ∧ meth.locks = false ∧ meth.name = (xmn j).name ∧ s.vm.findClass (xmn j).cls = some m.cls ∧ (∀ w ∈ Tg, w.before args s = true) ∧ (∀ w ∈ NW, va_Nw w s) ∧ va_K D xcl [] s
/-- the road of method j from a frame -/
def sm_Road (l : Launch) (Tg NW : List Cond) (D : va_G) (base n : Nat) : Prop := ∀ (j pc : Nat) (L S : List Value) (h : sm_H) (v : Option Value) (h' : sm_H), sm_run n j pc L S h = some (0, v, h') →
  ∀ (p : Program) (e : Env) (s : State) (m : MethodId) (args : Array Value) (below : List Frame) (meth : Method) (c : Code) (H : Heap) (locs : List Loc) (cells slots mc ms : Nat) (ls : Array Slot), sm_In Tg NW D j p s m args meth c → sm_lc ls (xml j) L → sm_R D base s h H → (∀ q ∈ locs, base ≤ q.base) → base ≤ hT h →
  cells + (hT h' - hT h) = mc → slots + (hU h' - hU h) = ms → W p l e (sm_rm j mc ms) s m args below meth c H locs cells slots (MQ below (sm_Qc D base v h') args s mc ms (fun q => base ≤ q)) (F0 m pc ls S)
theorem sm_met {n : Nat} (hst : sm_st Tg NW) (hrd : sm_Road l Tg NW D base n) {j : Nat} (hm : sm_mok Tg j) {As : List Value} {v : Option Value} (hlen : (sm_fl As).length ≤ xml j) (hb0 : base ≤ hT h) (hrun : sm_run n j 0 (sm_en As (xml j)) [] h = some (0, v, h')) :
    Met l (xmn j) (xws Tg j) (sm_rm j (hT h' - hT h) (hU h' - hU h)) (sm_Pc D base NW As h) (sm_Qc D base v h') (hT h' - hT h) (hU h' - hU h) (fun q => base ≤ q) := by
  refine Met.ofW (cc := xcc j) (maxL := xml j) (ret := xrt j) hm.2.1 rfl ?_
  intro p e s m args below meth c s₁ B hml hv
  obtain ⟨rfl, hR, hK, hnw⟩ := hv
  have hts := atoms_spec (ws := xws Tg j) B.pre
  have hin : sm_In Tg NW D j p s m As.toArray meth c := ⟨B.exec, B.bytes, hml, B.returns, B.notSynchronized, (name_of_methodNamed B.named B.method).1, findClass_of_methodNamed B.named, fun w hw => hts w (List.mem_cons_of_mem _ hw), hnw, hK⟩
  rw [lg_entry_eq]
  exact hrd j 0 _ [] h v h' hrun p e s m As.toArray below meth c s.heap [] 0 0 _ _ _ hin (sm_entry As hlen) hR (fun q hq => by cases hq) hb0 (Nat.zero_add _) (Nat.zero_add _)
end SMS
end
section
theorem sm_goodOf {Tg ws : List Cond} (hg : ∀ w ∈ Tg, sm_good w) (h : ∀ w ∈ ws, w ∈ Tg) : GoodIn Tg ws := fun w hw => ⟨h w hw, hg w (h w hw)⟩
theorem sm_inX {Tg : List Cond} {j : Nat} (hc : Cond.code (xmn j) (xcc j) (xml j) (xrt j) ∈ Tg) : ∀ w ∈ xws Tg j, w ∈ Tg := by
  intro w hw
  rcases List.mem_cons.mp hw with h | h
  · rw [h]; exact hc
  · exact h
theorem sm_inV {Tg : List Cond} {own : String} {x j : Nat} (hm : sm_mok Tg j) (h1 : Cond.methodLink own x (xmn j) ∈ Tg) (h2 : Cond.instanceMethod (xmn j) ∈ Tg) (h3 : Cond.selects (xmn j).cls (xmn j) (xmn j) ∈ Tg) : ∀ w ∈ wsV own x (xmn j).cls (xmn j) (xws Tg j), w ∈ Tg := by
  intro w hw
  unfold wsV at hw
  rcases List.mem_append.mp hw with h | h
  · rcases List.mem_cons.mp h with h | h
    · rw [h]; exact h1
    · rcases List.mem_cons.mp h with h | h
      · rw [h]; exact h2
      · rcases List.mem_cons.mp h with h | h
        · rw [h]; exact h3
        · rw [List.mem_singleton.mp h]; exact hm.2.2.2.2.2
  · exact sm_inX hm.1 w h
theorem sm_inS {Tg : List Cond} {own : String} {x j : Nat} (hm : sm_mok Tg j) (h1 : Cond.methodLink own x (xmn j) ∈ Tg) (h2 : Cond.static (xmn j) ∈ Tg) : ∀ w ∈ va_wsS own x (xmn j) (xws Tg j), w ∈ Tg := by
  intro w hw
  unfold va_wsS at hw
  rcases List.mem_append.mp hw with h | h
  · rcases List.mem_cons.mp h with h | h
    · rw [h]; exact h1
    · rcases List.mem_cons.mp h with h | h
      · rw [h]; exact h2
      · rw [List.mem_singleton.mp h]; exact hm.2.2.2.2.2
  · exact sm_inX hm.1 w h
set_option maxHeartbeats 4000000 in
theorem sm_road {l : Launch} {Tg NW : List Cond} {D : va_G} {base : Nat} (hst : sm_st Tg NW) : ∀ n, sm_Road l Tg NW D base n
  | 0 => by
    intro j pc L S h v h' r
    cases r
  | n + 1 => by
    have ih := sm_road (l := l) (D := D) (base := base) hst n
    intro j pc L S h v h' r p e s m args below meth c H locs cells slots mc ms ls hin hl hR hf hb0 hmc hms
    obtain ⟨hexec, hb, hml, hret, hlocks, hmn, hown, hts, hnw, hK⟩ := id hin
    unfold sm_run at r
    split at r
    · cases r
    · rename_i i d hx
      obtain ⟨⟨len, hdg, hlen⟩, hk, ht, hh, hc⟩ := hst.2.2.2 j pc i d hx
      split at r
      · rename_i L' S' hp
        have hsw : sm_isw i = false := by cases i <;> first | rfl | cases hp
        rw [hlen hsw] at hdg
        exact sm_pure hexec hb hdg hk hl hp (fun ls' hl' => ih j _ L' S' h v h' r p e s m args below meth c H locs cells slots mc ms ls' hin hl' hR hf hb0 hmc hms)
      · split at r
        · rename_i C t f S' hbr
          have hsw : sm_isw i = false := by cases i <;> first | rfl | cases hbr
          rw [hlen hsw] at hdg
          refine sm_branch hexec hb hdg ht hbr (fun hC => ?_) (fun hC => ?_)
          · rw [if_pos hC] at r
            exact ih j _ L S' h v h' r p e s m args below meth c H locs cells slots mc ms ls hin hl hR hf hb0 hmc hms
          · rw [if_neg hC] at r
            exact ih j _ L S' h v h' r p e s m args below meth c H locs cells slots mc ms ls hin hl hR hf hb0 hmc hms
        · split at r
          · rename_i t S' hs
            exact sm_switch hexec hb hdg hs (ih j _ L S' h v h' r p e s m args below meth c H locs cells slots mc ms ls hin hl hR hf hb0 hmc hms)
          · split at r
            · rename_i S' h1 hh1
              have hsw : sm_isw i = false := by cases i <;> first | rfl | cases hh1
              rw [hlen hsw] at hdg
              have m1 := sm_hp_mono hh1
              have m2 := sm_mono _ _ _ _ _ _ _ _ _ r
              have q1 : cells + (hT h1 - hT h) ≤ mc := by omega
              have q2 : slots + (hU h1 - hU h) ≤ ms := by omega
              exact sm_heap hexec hb hts hnw hst.1 hown hK hR hdg (by rw [hmn]; exact hh) hh1 hf hb0 q1 q2 (fun H' locs' r1 r2 => ih j _ L S' h1 v h' r p e s m args below meth c H' locs' _ _ mc ms ls hin hl r1 r2 (Nat.le_trans hb0 m1.1) (by omega) (by omega))
            · split at r
              · rename_i v1 hrt
                cases r
                have hsw : sm_isw i = false := by cases i <;> first | rfl | cases hrt
                rw [hlen hsw] at hdg
                have e1 : cells = mc := by omega
                have e2 : slots = ms := by omega
                subst e1
                subst e2
                exact sm_return hexec hb hdg hret hrt hlocks (fun t ht hW => ⟨rfl, by rw [ht]; exact hR.moved hW.alike⟩) hf
              · split at r
                · rename_i r1 ho
                  unfold sm_oi at ho
                  split at ho
                  · split at ho
                    · rename_i x a r2 hq
                      cases ho
                      obtain ⟨c1, c2, c3, c4⟩ := hc.1 hq.1
                      rw [hlen rfl] at hdg
                      refine W.objInit hexec hb hown (hts _ c2) (hts _ c3) (hts _ c4) rfl (by rw [hml]; exact hl.2.1) rfl hdg c1.1 (Nat.le_trans (Nat.add_le_add_right (lv_room hq.2) 12) c1.2) ?_
                      exact ih j _ L r1 h v h' r p e s m args below meth c H locs cells slots mc ms ls hin hl hR hf hb0 hmc hms
                    · cases ho
                  · cases ho
                · split at r
                  · rename_i j' As r1 hcl
                    split at r
                    · rename_i v1 h1 hrun
                      have m1 := sm_mono _ _ _ _ _ _ _ _ _ hrun
                      have m2 := sm_mono _ _ _ _ _ _ _ _ _ r
                      have q1 : cells + (hT h1 - hT h) ≤ mc := by omega
                      have q2 : slots + (hU h1 - hU h) ≤ ms := by omega
                      have go : ∀ (H' : Heap) (locs' : List Loc), sm_R D base s h1 H' → (∀ q ∈ locs', base ≤ q.base) → W p l e (sm_rm j mc ms) s m args below meth c H' locs' (cells + (hT h1 - hT h)) (slots + (hU h1 - hU h)) (MQ below (sm_Qc D base v h') args s mc ms (fun q => base ≤ q)) (F0 m (pc + 3) ls (v1.toList ++ r1)) :=
                        fun H' locs' s1 s2 => ih j _ L _ h1 v h' r p e s m args below meth c H' locs' _ _ mc ms ls hin hl s1 s2 (Nat.le_trans hb0 m1.1) (by omega) (by omega)
                      unfold sm_cl at hcl
                      split at hcl
                      · rename_i x
                        split at hcl
                        · rename_i hq
                          cases hcl
                          rw [hlen rfl] at hdg
                          obtain ⟨c1, cm, c2, c3⟩ := hc
                          have hM := sm_met hst ih cm hq.2.2 hb0 hrun
                          have hrm : xrk d.1 + 1 ≤ xrk j ∧ 8 + (xml d.1 + 11) + xrl d.1 ≤ xrl j := c1
                          have hn : (S.take (xna d.1)).reverse.length = xna d.1 := by rw [List.length_reverse, List.length_take]; omega
                          have hsk : S = (S.take (xna d.1)).reverse.reverse ++ S.drop (xna d.1) := by rw [List.reverse_reverse, List.take_append_drop]
                          rcases c3 with c3 | ⟨host, c3⟩
                          · exact sm_back (va_runS ⟨hexec, hb, hml, hown, hts⟩ hM (va_cwS (xna d.1) hts (sm_goodOf hst.2.1 (sm_inS cm c3 c2)) rfl rfl rfl ⟨cm.2.2.1, cm.2.2.2.1, cm.2.2.2.2.1⟩ hrm) ⟨sm_Pc_blind hst.2.2.1, sm_Pc_at hst.2.2.1 hR hK hnw⟩ rfl hn hl.2.1 hsk (lv_room hq.2.1) hdg ⟨q1, q2⟩) hf go
                          · exact sm_back (va_runSN ⟨hexec, hb, hml, hown, hts⟩ hM ⟨va_cnB (xna d.1) hts (sm_goodOf hst.2.1 (sm_inX cm.1)) rfl rfl rfl (hnw _ c3) (hts _ cm.2.2.2.2.2) ⟨cm.2.2.1, cm.2.2.2.1, cm.2.2.2.2.1⟩ hrm, hts _ c2, trivial⟩ ⟨sm_Pc_blind hst.2.2.1, sm_Pc_at hst.2.2.1 hR hK hnw⟩ rfl hn hl.2.1 hsk (lv_room hq.2.1) hdg ⟨q1, q2⟩) hf go
                        · cases hcl
                      · rename_i x
                        split at hcl
                        · rename_i b r2 hdrop
                          split at hcl
                          · rename_i hq
                            cases hcl
                            rw [hlen rfl] at hdg
                            obtain ⟨c1, cm, c2, c3, ⟨q, hq1, hq2⟩, c4⟩ := hc
                            have hM := sm_met hst ih cm hq.2.2.2 hb0 hrun
                            have hrm : xrk d.1 + 1 ≤ xrk j ∧ 8 + (xml d.1 + 11) + xrl d.1 ≤ xrl j := c1
                            have hn : (S.take (xna d.1)).reverse.length = xna d.1 := by rw [List.length_reverse, List.length_take]; omega
                            have hsk : S = (S.take (xna d.1)).reverse.reverse ++ .ref b :: r1 := by rw [List.reverse_reverse, ← hdrop, List.take_append_drop]
                            have hrecv : ∃ cellB : Cell, H[b]? = some cellB ∧ cellB.vm.isStatics = false ∧ s.vm.findClass (xmn d.1).cls = some cellB.cls := by
                              obtain ⟨cell, k1, k2, k3, k4⟩ := hR.2.2.1 b _ q hq.2.1 hq1
                              exact ⟨cell, k1, by rw [k3]; rfl, by rw [k2, ← hq2]; exact (hK.1 _ q hq1).2.1⟩
                            rcases c4 with c4 | ⟨host, c4⟩
                            · exact sm_back (va_runV ⟨hexec, hb, hml, hown, hts⟩ hM (cwV (xna d.1) hts (sm_goodOf hst.2.1 (sm_inV cm c4 c2 c3)) rfl rfl rfl ⟨rfl, cm.2.2.1, cm.2.2.2.1, cm.2.2.2.2.1⟩ hrm) ⟨sm_Pc_blind hst.2.2.1, hrecv, sm_Pc_at hst.2.2.1 hR hK hnw⟩ rfl hn hl.2.1 hsk (lv_room hq.2.2.1) hdg ⟨q1, q2⟩) hf go
                            · exact sm_back (va_runVN ⟨hexec, hb, hml, hown, hts⟩ hM ⟨va_cnB (xna d.1) hts (sm_goodOf hst.2.1 (sm_inX cm.1)) rfl rfl rfl (hnw _ c4) (hts _ cm.2.2.2.2.2) ⟨cm.2.2.1, cm.2.2.2.1, cm.2.2.2.2.1⟩ hrm, hts _ c2, hts _ c3⟩ ⟨sm_Pc_blind hst.2.2.1, hrecv, sm_Pc_at hst.2.2.1 hR hK hnw⟩ rfl hn hl.2.1 hsk (lv_room hq.2.2.1) hdg ⟨q1, q2⟩) hf go
                          · cases hcl
                        · cases hcl
                      · rename_i x
                        split at hcl
                        · cases hcl
                        · rename_i hd2
                          split at hcl
                          · rename_i b r2 hdrop
                            split at hcl
                            · rename_i hq
                              cases hcl
                              rw [hlen rfl] at hdg
                              obtain ⟨c1, cm, cn, cr, c2, c4⟩ := hc.2 hd2
                              have hM := sm_met hst ih cm hq.2.2 hb0 hrun
                              have hrm : xrk d.1 + 1 ≤ xrk j ∧ 8 + (xml d.1 + 11) + xrl d.1 ≤ xrl j := c1
                              have hn : (S.take (xna d.1)).reverse.length = xna d.1 := by rw [List.length_reverse, List.length_take]; omega
                              have hsk : S = (S.take (xna d.1)).reverse.reverse ++ .ref b :: r1 := by rw [List.reverse_reverse, ← hdrop, List.take_append_drop]
                              have hw9 : xws Tg d.1 = Cond.code (xmn d.1) (xcc d.1) (xml d.1) none :: Tg := by unfold xws; rw [cr]
                              rcases c4 with c4 | ⟨host, c4⟩
                              · exact sm_back (va_runI ⟨hexec, hb, hml, hown, hts⟩ hM (cwI (xna d.1) hts (sm_goodOf hst.2.1 (sm_inX cm.1)) hw9 rfl rfl (hts _ cm.2.2.2.2.2) (hts _ c4) (hts _ c2) cn ⟨cm.2.2.1, cm.2.2.2.1, cm.2.2.2.2.1⟩ hrm) ⟨sm_Pc_blind hst.2.2.1, sm_Pc_at hst.2.2.1 hR hK hnw⟩ rfl hn hl.2.1 hsk (lv_room hq.2.1) hdg ⟨q1, q2⟩) hf go
                              · exact sm_back (va_runIN ⟨hexec, hb, hml, hown, hts⟩ hM ⟨va_cnB (xna d.1) hts (sm_goodOf hst.2.1 (sm_inX cm.1)) hw9 rfl rfl (hnw _ c4) (hts _ cm.2.2.2.2.2) ⟨cm.2.2.1, cm.2.2.2.1, cm.2.2.2.2.1⟩ hrm, cn, hts _ c2⟩ ⟨sm_Pc_blind hst.2.2.1, sm_Pc_at hst.2.2.1 hR hK hnw⟩ rfl hn hl.2.1 hsk (lv_room hq.2.1) hdg ⟨q1, q2⟩) hf go
                            · cases hcl
                          · cases hcl
                      · cases hcl
                    · cases r
                  · cases r
end
section
/-! HOW THE SMALL MACHINE IS REASONED OF: from this place it comes back with an answer of which Q holds -/
def sm_wp (j pc : Nat) (L S : List Value) (h : sm_H) (Q : Option Value → sm_H → Prop) : Prop := ∃ (n : Nat) (v : Option Value) (h' : sm_H), sm_run n j pc L S h = some (0, v, h') ∧ Q v h'
theorem sm_moreN {n j pc : Nat} {L S : List Value} {h : sm_H} {x : Nat × Option Value × sm_H} (r : sm_run n j pc L S h = some x) : ∀ k, sm_run (n + k) j pc L S h = some x
  | 0 => r
  | k + 1 => sm_more (n + k) j pc L S h x (sm_moreN r k)
section SMW
variable {j pc : Nat} {L S L' S' : List Value} {h h' : sm_H} {Q : Option Value → sm_H → Prop} {i : Instr} {d : Nat × Nat} {t : Nat → Option (Instr × Nat × Nat)}
theorem wp_mono {Q' : Option Value → sm_H → Prop} (k : sm_wp j pc L S h Q) (hq : ∀ v h', Q v h' → Q' v h') : sm_wp j pc L S h Q' := by
  obtain ⟨n, v, h', r, q⟩ := k
  exact ⟨n, v, h', r, hq v h' q⟩
theorem wp_pure (hx : xat j = t) (hi : t pc = some (i, d)) (hp : sm_ps i d L S = some (L', S')) (k : sm_wp j (pc + sm_len i) L' S' h Q) : sm_wp j pc L S h Q := by
  obtain ⟨n, v, h', r, q⟩ := k
  refine ⟨n + 1, v, h', ?_, q⟩
  unfold sm_run
  rw [hx, hi]
  dsimp only
  rw [hp]
  exact r
theorem wp_br (hx : xat j = t) (hi : t pc = some (i, d)) (h1 : sm_ps i d L S = none) {C : Prop} {a b : Nat} (hb : sm_br i d pc S = some (C, a, b, S')) (kt : C → sm_wp j a L S' h Q) (kf : ¬ C → sm_wp j b L S' h Q) : sm_wp j pc L S h Q := by
  by_cases hC : C
  · obtain ⟨n, v, h', r, q⟩ := kt hC
    refine ⟨n + 1, v, h', ?_, q⟩
    unfold sm_run
    rw [hx, hi]
    dsimp only
    rw [h1, hb]
    dsimp only
    rw [if_pos hC]
    exact r
  · obtain ⟨n, v, h', r, q⟩ := kf hC
    refine ⟨n + 1, v, h', ?_, q⟩
    unfold sm_run
    rw [hx, hi]
    dsimp only
    rw [h1, hb]
    dsimp only
    rw [if_neg hC]
    exact r
theorem wp_sw (hx : xat j = t) (hi : t pc = some (i, d)) (h1 : sm_ps i d L S = none) (h2 : sm_br i d pc S = none) {a : Nat} (hs : sm_sw i pc S = some (a, S')) (k : sm_wp j a L S' h Q) : sm_wp j pc L S h Q := by
  obtain ⟨n, v, h', r, q⟩ := k
  refine ⟨n + 1, v, h', ?_, q⟩
  unfold sm_run
  rw [hx, hi]
  dsimp only
  rw [h1, h2, hs]
  exact r
theorem wp_hp (hx : xat j = t) (hi : t pc = some (i, d)) (h1 : sm_ps i d L S = none) (h2 : sm_br i d pc S = none) (h3 : sm_sw i pc S = none) (hh : sm_hp i d S h = some (S', h')) (k : sm_wp j (pc + sm_len i) L S' h' Q) : sm_wp j pc L S h Q := by
  obtain ⟨n, v, h'', r, q⟩ := k
  refine ⟨n + 1, v, h'', ?_, q⟩
  unfold sm_run
  rw [hx, hi]
  dsimp only
  rw [h1, h2, h3, hh]
  exact r
theorem wp_rt (hx : xat j = t) (hi : t pc = some (i, d)) (h1 : sm_ps i d L S = none) (h2 : sm_br i d pc S = none) (h3 : sm_sw i pc S = none) (h4 : sm_hp i d S h = none) {v : Option Value} (hr : sm_rt i (xrt j) S = some v) (k : Q v h) : sm_wp j pc L S h Q := by
  refine ⟨1, v, h, ?_, k⟩
  unfold sm_run
  rw [hx, hi]
  dsimp only
  rw [h1, h2, h3, h4, hr]
theorem wp_oi (hx : xat j = t) {x : Nat} (hi : t pc = some (.invokespecial x, d)) {r : List Value} (hr : sm_oi (.invokespecial x) d S = some r) (k : sm_wp j (pc + 3) L r h Q) : sm_wp j pc L S h Q := by
  obtain ⟨n, v, h', r, q⟩ := k
  refine ⟨n + 1, v, h', ?_, q⟩
  unfold sm_run
  rw [hx, hi]
  dsimp only [sm_ps, sm_br, sm_sw, sm_hp, sm_rt]
  rw [hr]
  exact r
theorem wp_call (hx : xat j = t) (hi : t pc = some (i, d)) (h1 : sm_ps i d L S = none) (h2 : sm_br i d pc S = none) (h3 : sm_sw i pc S = none) (h4 : sm_hp i d S h = none) (h5 : sm_rt i (xrt j) S = none) (h6 : sm_oi i d S = none) {j' : Nat} {As r : List Value} (hc : sm_cl i d S h = some (j', As, r))
    (k : sm_wp j' 0 (sm_en As (xml j')) [] h (fun v h' => sm_wp j (pc + 3) L (v.toList ++ r) h' Q)) : sm_wp j pc L S h Q := by
  obtain ⟨n1, v1, h1', r1, n2, v2, h2', r2, q⟩ := k
  refine ⟨n1 + n2 + 1, v2, h2', ?_, q⟩
  unfold sm_run
  rw [hx, hi]
  dsimp only
  rw [h1, h2, h3, h4, h5, h6, hc]
  dsimp only
  rw [sm_moreN r1 n2]
  rw [Nat.add_comm n1 n2]
  exact sm_moreN r2 n1
end SMW
end
