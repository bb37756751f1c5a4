/-! the instructions that move locals and operand stack alone; d: what a table tells of a constant (d.2 = 0: the number d.1; else its negative) -/
def sm_k : Nat × Nat → Int32
  | (n, 0) => nI n
  | (n, _ + 1) => -(nI n)
def sm_ld (t : Nat) (L S : List Value) (i : Nat) : Option (List Value × List Value) := match t, L[i]? with
  | 0, some (.int x) => some (L, .int x :: S)
  | 1, some (.long x) => some (L, .long x :: S)
  | 2, some (.ref x) => some (L, .ref x :: S)
  | 2, some .null => some (L, .null :: S)
  | _, _ => none
def sm_st (t : Nat) (L S : List Value) (i : Nat) : Option (List Value × List Value) := match t, S with
  | 0, .int x :: r => if i < L.length then some (sm_s1 L i (.int x), r) else none
  | 1, .long x :: r => if i + 1 < L.length then some (sm_s2 L i (.long x), r) else none
  | 2, .ref x :: r => if i < L.length then some (sm_s1 L i (.ref x), r) else none
  | 2, .null :: r => if i < L.length then some (sm_s1 L i .null, r) else none
  | _, _ => none
def sm_b2 (f : Int32 → Int32 → Int32) (L S : List Value) : Option (List Value × List Value) := match S with
  | .int y :: .int x :: r => some (L, .int (f x y) :: r)
  | _ => none
def sm_bl (f : Int64 → Int64 → Int64) (L S : List Value) : Option (List Value × List Value) := match S with
  | .long y :: .long x :: r => some (L, .long (f x y) :: r)
  | _ => none
def sm_sh (f : Int64 → Int32 → Int64) (L S : List Value) : Option (List Value × List Value) := match S with
  | .int y :: .long x :: r => some (L, .long (f x y) :: r)
  | _ => none
def sm_u1 (f : Int32 → Value) (L S : List Value) : Option (List Value × List Value) := match S with
  | .int x :: r => some (L, f x :: r)
  | _ => none
def sm_dv (f : Int32 → Int32 → Int32) (L S : List Value) : Option (List Value × List Value) := match S with
  | .int y :: .int x :: r => if y = 0 then none else some (L, .int (f x y) :: r)
  | _ => none
def sm_lf (f : Int64 → Int32) (L S : List Value) : Option (List Value × List Value) := match S with
  | .long x :: r => some (L, .int (f x) :: r)
  | _ => none
def sm_lc2 (L S : List Value) : Option (List Value × List Value) := match S with
  | .long y :: .long x :: r => some (L, .int (lg_cmp x y) :: r)
  | _ => none
def sm_stk (t : Nat) (L S : List Value) : Option (List Value × List Value) := match t, S with
  | 0, a :: r => if a.category = 1 then some (L, a :: a :: r) else none
  | 1, a :: r => if a.category = 1 then some (L, r) else none
  | 2, a :: b :: r => if a.category = 1 ∧ b.category = 1 then some (L, a :: b :: a :: r) else none
  | 3, a :: b :: r => if a.category = 1 ∧ b.category = 1 then some (L, a :: b :: a :: b :: r) else none
  | _, _ => none
def sm_inc (L S : List Value) (i : Nat) (c : Int32) : Option (List Value × List Value) := match L[i]? with
  | some (.int x) => some (sm_s1 L i (.int (x + c)), S)
  | _ => none
def sm_ps (i : Instr) (d : Nat × Nat) (L S : List Value) : Option (List Value × List Value) := match i with
  | .iconst _ => some (L, .int (sm_k d) :: S)
  | .bipush _ => some (L, .int (sm_k d) :: S)
  | .sipush _ => some (L, .int (sm_k d) :: S)
  | .lconst n => some (L, .long (lN n) :: S)
  | .aconst_null => some (L, .null :: S)
  | .iload_n k => sm_ld 0 L S k
  | .iload k => sm_ld 0 L S k
  | .lload_n k => sm_ld 1 L S k
  | .lload k => sm_ld 1 L S k
  | .aload_n k => sm_ld 2 L S k
  | .aload k => sm_ld 2 L S k
  | .istore_n k => sm_st 0 L S k
  | .istore k => sm_st 0 L S k
  | .lstore_n k => sm_st 1 L S k
  | .lstore k => sm_st 1 L S k
  | .astore_n k => sm_st 2 L S k
  | .astore k => sm_st 2 L S k
  | .iinc k _ => sm_inc L S k (sm_k d)
  | .iadd => sm_b2 (fun x y => x + y) L S
  | .isub => sm_b2 (fun x y => x - y) L S
  | .imul => sm_b2 (fun x y => x * y) L S
  | .iand => sm_b2 (fun x y => x &&& y) L S
  | .ior => sm_b2 (fun x y => x ||| y) L S
  | .ixor => sm_b2 (fun x y => x ^^^ y) L S
  | .ishl => sm_b2 (fun x y => x <<< (y &&& 31)) L S
  | .ishr => sm_b2 (fun x y => x >>> (y &&& 31)) L S
  | .ineg => sm_u1 (fun x => .int (-x)) L S
  | .idiv => sm_dv (fun x y => x / y) L S
  | .irem => sm_dv (fun x y => x - x / y * y) L S
  | .ladd => sm_bl (fun x y => x + y) L S
  | .lsub => sm_bl (fun x y => x - y) L S
  | .lmul => sm_bl (fun x y => x * y) L S
  | .land => sm_bl (fun x y => x &&& y) L S
  | .lor => sm_bl (fun x y => x ||| y) L S
  | .lxor => sm_bl (fun x y => x ^^^ y) L S
  | .lshl => sm_sh (fun x y => x <<< (y.toInt64 &&& 63)) L S
  | .lushr => sm_sh (fun x y => (x.toUInt64 >>> (y.toInt64.toUInt64 &&& Int64.toUInt64 63)).toInt64) L S
  | .i2l => sm_u1 (fun x => .long x.toInt64) L S
  | .i2c => sm_u1 (fun x => .int (x.toUInt32 % 65536).toInt32) L S
  | .l2i => sm_lf (fun x => x.toInt32) L S
  | .lcmp => sm_lc2 L S
  | .dup => sm_stk 0 L S
  | .pop => sm_stk 1 L S
  | .dup_x1 => sm_stk 2 L S
  | .dup2 => sm_stk 3 L S
  | _ => none
/-- what the constants' table owes -/
def sm_kok (i : Instr) (d : Nat × Nat) : Prop := match i with
  | .iconst n => Int32.ofInt n = sm_k d
  | .bipush n => (Int8.ofInt n).toInt32 = sm_k d
  | .sipush n => (Int16.ofInt n).toInt32 = sm_k d
  | .iinc _ n => Int32.ofInt n = sm_k d
  | _ => True
/-- how long an instruction is -/
def sm_len (i : Instr) : Nat := match i with
  | .bipush _ | .iload _ | .lload _ | .aload _ | .istore _ | .lstore _ | .astore _ | .newarray _ | .ldc _ => 2
  | .sipush _ | .iinc _ _ | .getfield _ | .putfield _ | .getstatic _ | .invokevirtual _ | .invokespecial _ | .invokestatic _ | .new _ | .anewarray _ | .checkcast _ | .instanceof _ | .goto _ | .if_icmp _ _ | .ifCond _ _ | .if_acmp _ _ | .ifnull _ | .ifnonnull _ | .ldc2_w _ | .ldc_w _ => 3
  | _ => 1
section SMP
variable {p : Program} {l : Launch} {e : Env} {R : Room} {s : State} {m : MethodId} {args : Array Value} {below : List Frame} {meth : Method} {c : Code} {H : Heap} {locs : List Loc} {cells slots : Nat} {Q : State → Prop} {cc : ByteArray} {pc nL : Nat} {ls : Array Slot} {L S L' S' : List Value}
theorem sm_ld_some {t i : Nat} (h : sm_ld t L S i = some (L', S')) : L' = L ∧ ∃ v, L[i]? = some v ∧ S' = v :: S ∧ ((t = 0 ∧ ∃ x, v = .int x) ∨ (t = 1 ∧ ∃ x, v = .long x) ∨ (t = 2 ∧ ((∃ x, v = .ref x) ∨ v = .null))) := by
  unfold sm_ld at h
  split at h
  · rename_i x hx; cases h; exact ⟨rfl, _, hx, rfl, Or.inl ⟨rfl, _, rfl⟩⟩
  · rename_i x hx; cases h; exact ⟨rfl, _, hx, rfl, Or.inr (Or.inl ⟨rfl, _, rfl⟩)⟩
  · rename_i x hx; cases h; exact ⟨rfl, _, hx, rfl, Or.inr (Or.inr ⟨rfl, Or.inl ⟨_, rfl⟩⟩)⟩
  · rename_i hx; cases h; exact ⟨rfl, _, hx, rfl, Or.inr (Or.inr ⟨rfl, Or.inr rfl⟩)⟩
  · cases h
theorem sm_pure (hexec : p.tables.exec = Jvm.exec) (hb : c.code = cc) {i : Instr} {d : Nat × Nat} (hdg : decode cc pc = .ok (i, sm_len i)) (hk : sm_kok i d) (hl : sm_lc ls nL L) (h : sm_ps i d L S = some (L', S'))
    (k : ∀ ls' : Array Slot, sm_lc ls' nL L' → W p l e R s m args below meth c H locs cells slots Q (F0 m (pc + sm_len i) ls' S')) : W p l e R s m args below meth c H locs cells slots Q (F0 m pc ls S) := by
  cases i with
  | iconst n => cases h; exact lv_iconst hexec hb hdg hk (k _ hl)
  | bipush n => cases h; exact lv_bipush hexec hb hdg hk (k _ hl)
  | sipush n => cases h; exact lv_sipush hexec hb hdg hk (k _ hl)
  | lconst n => cases h; exact lv_lconst hexec hb hdg rfl (k _ hl)
  | aconst_null => cases h; exact lv_null hexec hb hdg (k _ hl)
  | iload_n n =>
    obtain ⟨rfl, v, hv, rfl, (⟨-, x, rfl⟩ | ⟨q, -⟩ | ⟨q, -⟩)⟩ := sm_ld_some h
    · exact lv_iload_n hexec hb hdg rfl (hl.get hv (fun q => by cases q)) (k _ hl)
    · cases q
    · cases q
  | iload n =>
    obtain ⟨rfl, v, hv, rfl, (⟨-, x, rfl⟩ | ⟨q, -⟩ | ⟨q, -⟩)⟩ := sm_ld_some h
    · exact lv_iload hexec hb hdg (hl.get hv (fun q => by cases q)) (k _ hl)
    · cases q
    · cases q
  | lload_n n =>
    obtain ⟨rfl, v, hv, rfl, (⟨q, -⟩ | ⟨-, x, rfl⟩ | ⟨q, -⟩)⟩ := sm_ld_some h
    · cases q
    · exact lv_lload_n hexec hb hdg rfl (hl.get hv (fun q => by cases q)) (k _ hl)
    · cases q
  | lload n =>
    obtain ⟨rfl, v, hv, rfl, (⟨q, -⟩ | ⟨-, x, rfl⟩ | ⟨q, -⟩)⟩ := sm_ld_some h
    · cases q
    · exact lv_lload hexec hb hdg (hl.get hv (fun q => by cases q)) (k _ hl)
    · cases q
  | aload_n n =>
    obtain ⟨rfl, v, hv, rfl, (⟨q, -⟩ | ⟨q, -⟩ | ⟨-, (⟨x, rfl⟩ | rfl)⟩)⟩ := sm_ld_some h
    · cases q
    · cases q
    · exact lv_aload_n hexec hb hdg rfl (hl.get hv (fun q => by cases q)) (k _ hl)
    · exact lv_aload_nN hexec hb hdg rfl (hl.get hv (fun q => by cases q)) (k _ hl)
  | aload n =>
    obtain ⟨rfl, v, hv, rfl, (⟨q, -⟩ | ⟨q, -⟩ | ⟨-, (⟨x, rfl⟩ | rfl)⟩)⟩ := sm_ld_some h
    · cases q
    · cases q
    · exact lv_aload hexec hb hdg (hl.get hv (fun q => by cases q)) (k _ hl)
    · exact lv_aloadN hexec hb hdg (hl.get hv (fun q => by cases q)) (k _ hl)
  | istore_n n =>
    unfold sm_ps sm_st at h
    split at h <;> first | (rename_i q; cases q) | skip
    all_goals first | (split at h <;> cases h) | cases h
    exact lv_istore_n hexec hb hdg rfl hl.2 (by have := hl.1; omega) rfl (fun ls' h' => k ls' (sm_lc.s1 hl.1 h'))
  | istore n =>
    unfold sm_ps sm_st at h
    split at h <;> first | (rename_i q; cases q) | skip
    all_goals first | (split at h <;> cases h) | cases h
    exact lv_istore hexec hb hdg hl.2 (by have := hl.1; omega) rfl (fun ls' h' => k ls' (sm_lc.s1 hl.1 h'))
  | lstore_n n =>
    unfold sm_ps sm_st at h
    split at h <;> first | (rename_i q; cases q) | skip
    all_goals first | (split at h <;> cases h) | cases h
    exact lv_lstore_n hexec hb hdg rfl hl.2 (by have := hl.1; omega) rfl (fun ls' h' => k ls' (sm_lc.s2 hl.1 h'))
  | lstore n =>
    unfold sm_ps sm_st at h
    split at h <;> first | (rename_i q; cases q) | skip
    all_goals first | (split at h <;> cases h) | cases h
    exact lv_lstore hexec hb hdg hl.2 (by have := hl.1; omega) rfl (fun ls' h' => k ls' (sm_lc.s2 hl.1 h'))
  | astore_n n =>
    unfold sm_ps sm_st at h
    split at h <;> first | (rename_i q; cases q) | skip
    all_goals first | (split at h <;> cases h) | cases h
    · exact lv_astore_n hexec hb hdg rfl hl.2 (by have := hl.1; omega) rfl (fun ls' h' => k ls' (sm_lc.s1 hl.1 h'))
    · exact lv_astore_nN hexec hb hdg rfl hl.2 (by have := hl.1; omega) rfl (fun ls' h' => k ls' (sm_lc.s1 hl.1 h'))
  | astore n =>
    unfold sm_ps sm_st at h
    split at h <;> first | (rename_i q; cases q) | skip
    all_goals first | (split at h <;> cases h) | cases h
    · exact lv_astore hexec hb hdg hl.2 (by have := hl.1; omega) rfl (fun ls' h' => k ls' (sm_lc.s1 hl.1 h'))
    · exact lv_astoreN hexec hb hdg hl.2 (by have := hl.1; omega) rfl (fun ls' h' => k ls' (sm_lc.s1 hl.1 h'))
  | iinc n z =>
    unfold sm_ps sm_inc at h
    split at h
    · rename_i x hx
      cases h
      have hm := (sm_mem L 0 n (.int x)).mpr ⟨Nat.zero_le _, by rw [Nat.sub_zero]; exact hx, fun q => by cases q⟩
      obtain ⟨q, hq⟩ := List.getElem?_of_mem hm
      have hn : n < L.length := (List.getElem?_eq_some_iff.mp hx).1
      exact lv_iinc hexec hb hdg hl.2 hq (by rw [show Int32.ofInt z = sm_k d from hk]) (by have := hl.1; omega) rfl (fun ls' h' => k ls' (sm_lc.s1 hl.1 h'))
    · cases h
  | iadd => unfold sm_ps sm_b2 at h; split at h <;> cases h; exact lv_iadd hexec hb hdg (k _ hl)
  | isub => unfold sm_ps sm_b2 at h; split at h <;> cases h; exact lv_isub hexec hb hdg (k _ hl)
  | imul => unfold sm_ps sm_b2 at h; split at h <;> cases h; exact lv_imul hexec hb hdg (k _ hl)
  | iand => unfold sm_ps sm_b2 at h; split at h <;> cases h; exact lv_iand hexec hb hdg (k _ hl)
  | ior => unfold sm_ps sm_b2 at h; split at h <;> cases h; exact lv_ior hexec hb hdg (k _ hl)
  | ixor => unfold sm_ps sm_b2 at h; split at h <;> cases h; exact lv_ixor hexec hb hdg (k _ hl)
  | ishl => unfold sm_ps sm_b2 at h; split at h <;> cases h; exact lv_ishl hexec hb hdg (k _ hl)
  | ishr => unfold sm_ps sm_b2 at h; split at h <;> cases h; exact lv_ishr hexec hb hdg (k _ hl)
  | ineg => unfold sm_ps sm_u1 at h; split at h <;> cases h; exact lv_ineg hexec hb hdg (k _ hl)
  | idiv =>
    unfold sm_ps sm_dv at h
    split at h
    · split at h
      · cases h
      · rename_i hy; cases h; exact lv_idiv hexec hb hdg hy (k _ hl)
    · cases h
  | irem =>
    unfold sm_ps sm_dv at h
    split at h
    · split at h
      · cases h
      · rename_i hy; cases h; exact lv_irem hexec hb hdg hy (k _ hl)
    · cases h
  | ladd => unfold sm_ps sm_bl at h; split at h <;> cases h; exact lv_ladd hexec hb hdg (k _ hl)
  | lsub => unfold sm_ps sm_bl at h; split at h <;> cases h; exact lv_lsub hexec hb hdg (k _ hl)
  | lmul => unfold sm_ps sm_bl at h; split at h <;> cases h; exact lv_lmul hexec hb hdg (k _ hl)
  | land => unfold sm_ps sm_bl at h; split at h <;> cases h; exact lv_land hexec hb hdg (k _ hl)
  | lor => unfold sm_ps sm_bl at h; split at h <;> cases h; exact lv_lor hexec hb hdg (k _ hl)
  | lxor => unfold sm_ps sm_bl at h; split at h <;> cases h; exact lv_lxor hexec hb hdg (k _ hl)
  | lshl => unfold sm_ps sm_sh at h; split at h <;> cases h; exact lv_lshl hexec hb hdg rfl (k _ hl)
  | lushr => unfold sm_ps sm_sh at h; split at h <;> cases h; exact lv_lushr hexec hb hdg rfl (k _ hl)
  | i2l => unfold sm_ps sm_u1 at h; split at h <;> cases h; exact lv_i2l hexec hb hdg rfl (k _ hl)
  | i2c => unfold sm_ps sm_u1 at h; split at h <;> cases h; exact lv_i2c hexec hb hdg rfl (k _ hl)
  | l2i => unfold sm_ps sm_lf at h; split at h <;> cases h; exact lv_l2i hexec hb hdg rfl (k _ hl)
  | lcmp => unfold sm_ps sm_lc2 at h; split at h <;> cases h; exact W.lcmp hexec hb hdg (k _ hl)
  | dup =>
    unfold sm_ps sm_stk at h
    split at h <;> first | (rename_i q; cases q) | skip
    all_goals first | (split at h <;> cases h) | cases h
    rename_i hc; exact lv_dup hexec hb hdg hc (k _ hl)
  | pop =>
    unfold sm_ps sm_stk at h
    split at h <;> first | (rename_i q; cases q) | skip
    all_goals first | (split at h <;> cases h) | cases h
    rename_i hc; exact lv_pop hexec hb hdg hc (k _ hl)
  | dup_x1 =>
    unfold sm_ps sm_stk at h
    split at h <;> first | (rename_i q; cases q) | skip
    all_goals first | (split at h <;> cases h) | cases h
    rename_i hc; exact lv_dup_x1 hexec hb hdg hc.1 hc.2 (k _ hl)
  | dup2 =>
    unfold sm_ps sm_stk at h
    split at h <;> first | (rename_i q; cases q) | skip
    all_goals first | (split at h <;> cases h) | cases h
    rename_i hc; exact lv_dup2_11 hexec hb hdg hc.1 hc.2 (k _ hl)
  | _ => exact absurd h (by unfold sm_ps; exact fun q => by cases q)
end SMP
