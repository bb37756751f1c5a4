/-! the instructions that move locals and operand stack alone; d: what a table tells of a constant (d.2 = 0: the number d.1; else its negative) -/
def sm_k : Nat × Nat → Int32
  | (n, 0) => nI n
  | (n, _ + 1) => -(nI n)
def sm_ld (t : Nat) (L S : List Value) (i : Nat) : Option (List Value × List Value) := match t, L[i]? with
  | 0, some (.int x) => some (L, .int x :: S)
  | 1, some (.long x) => some (L, .long x :: S)
  | 2, some (.ref x) => some (L, .ref x :: S)
  | 2, some .null => some (L, .null :: S)
  | _, _ => none
def sm_si (L S : List Value) (i : Nat) : Option (List Value × List Value) := match S with
  | .int x :: r => if i < L.length then some (sm_s1 L i (.int x), r) else none
  | _ => none
def sm_sl (L S : List Value) (i : Nat) : Option (List Value × List Value) := match S with
  | .long x :: r => if i + 1 < L.length then some (sm_s2 L i (.long x), r) else none
  | _ => none
def sm_sr (L S : List Value) (i : Nat) : Option (List Value × List Value) := match S with
  | .ref x :: r => if i < L.length then some (sm_s1 L i (.ref x), r) else none
  | .null :: r => if i < L.length then some (sm_s1 L i .null, r) else none
  | _ => none
def sm_b2 (f : Int32 → Int32 → Int32) (L S : List Value) : Option (List Value × List Value) := match S with
  | .int y :: .int x :: r => some (L, .int (f x y) :: r)
  | _ => none
def sm_bl (f : Int64 → Int64 → Int64) (L S : List Value) : Option (List Value × List Value) := match S with
  | .long y :: .long x :: r => some (L, .long (f x y) :: r)
  | _ => none
def sm_sh (f : Int64 → Int32 → Int64) (L S : List Value) : Option (List Value × List Value) := match S with
  | .int y :: .long x :: r => some (L, .long (f x y) :: r)
  | _ => none
def sm_u1 (f : Int32 → Value) (L S : List Value) : Option (List Value × List Value) := match S with
  | .int x :: r => some (L, f x :: r)
  | _ => none
def sm_dv (f : Int32 → Int32 → Int32) (L S : List Value) : Option (List Value × List Value) := match S with
  | .int y :: .int x :: r => if y = 0 then none else some (L, .int (f x y) :: r)
  | _ => none
def sm_lf (f : Int64 → Int32) (L S : List Value) : Option (List Value × List Value) := match S with
  | .long x :: r => some (L, .int (f x) :: r)
  | _ => none
def sm_lc2 (L S : List Value) : Option (List Value × List Value) := match S with
  | .long y :: .long x :: r => some (L, .int (lg_cmp x y) :: r)
  | _ => none
def sm_du (L S : List Value) : Option (List Value × List Value) := match S with
  | a :: r => if a.category = 1 then some (L, a :: a :: r) else none
  | _ => none
def sm_po (L S : List Value) : Option (List Value × List Value) := match S with
  | a :: r => if a.category = 1 then some (L, r) else none
  | _ => none
def sm_dx (L S : List Value) : Option (List Value × List Value) := match S with
  | a :: b :: r => if a.category = 1 ∧ b.category = 1 then some (L, a :: b :: a :: r) else none
  | _ => none
def sm_d2 (L S : List Value) : Option (List Value × List Value) := match S with
  | a :: b :: r => if a.category = 1 ∧ b.category = 1 then some (L, a :: b :: a :: b :: r) else none
  | _ => none
def sm_inc (L S : List Value) (i : Nat) (c : Int32) : Option (List Value × List Value) := match L[i]? with
  | some (.int x) => some (sm_s1 L i (.int (x + c)), S)
  | _ => none
def sm_ps (i : Instr) (d : Nat × Nat) (L S : List Value) : Option (List Value × List Value) := match i with
  | .iconst _ => some (L, .int (sm_k d) :: S)
  | .bipush _ => some (L, .int (sm_k d) :: S)
  | .sipush _ => some (L, .int (sm_k d) :: S)
  | .lconst n => some (L, .long (lN n) :: S)
  | .aconst_null => some (L, .null :: S)
  | .iload_n k => sm_ld 0 L S k
  | .iload k => sm_ld 0 L S k
  | .lload_n k => sm_ld 1 L S k
  | .lload k => sm_ld 1 L S k
  | .aload_n k => sm_ld 2 L S k
  | .aload k => sm_ld 2 L S k
  | .istore_n k => sm_si L S k
  | .istore k => sm_si L S k
  | .lstore_n k => sm_sl L S k
  | .lstore k => sm_sl L S k
  | .astore_n k => sm_sr L S k
  | .astore k => sm_sr L S k
  | .iinc k _ => sm_inc L S k (sm_k d)
  | .iadd => sm_b2 (fun x y => x + y) L S
  | .isub => sm_b2 (fun x y => x - y) L S
  | .imul => sm_b2 (fun x y => x * y) L S
  | .iand => sm_b2 (fun x y => x &&& y) L S
  | .ior => sm_b2 (fun x y => x ||| y) L S
  | .ixor => sm_b2 (fun x y => x ^^^ y) L S
  | .ishl => sm_b2 (fun x y => x <<< (y &&& 31)) L S
  | .ishr => sm_b2 (fun x y => x >>> (y &&& 31)) L S
  | .ineg => sm_u1 (fun x => .int (-x)) L S
  | .idiv => sm_dv (fun x y => x / y) L S
  | .irem => sm_dv (fun x y => x - x / y * y) L S
  | .ladd => sm_bl (fun x y => x + y) L S
  | .lsub => sm_bl (fun x y => x - y) L S
  | .lmul => sm_bl (fun x y => x * y) L S
  | .land => sm_bl (fun x y => x &&& y) L S
  | .lor => sm_bl (fun x y => x ||| y) L S
  | .lxor => sm_bl (fun x y => x ^^^ y) L S
  | .lshl => sm_sh (fun x y => x <<< (y.toInt64 &&& 63)) L S
  | .lushr => sm_sh (fun x y => (x.toUInt64 >>> (y.toInt64.toUInt64 &&& Int64.toUInt64 63)).toInt64) L S
  | .i2l => sm_u1 (fun x => .long x.toInt64) L S
  | .i2c => sm_u1 (fun x => .int (x.toUInt32 % 65536).toInt32) L S
  | .l2i => sm_lf (fun x => x.toInt32) L S
  | .lcmp => sm_lc2 L S
  | .dup => sm_du L S
  | .pop => sm_po L S
  | .dup_x1 => sm_dx L S
  | .dup2 => sm_d2 L S
  | _ => none
/-- what the constants' table owes -/
def sm_kok (i : Instr) (d : Nat × Nat) : Prop := match i with
  | .iconst n => Int32.ofInt n = sm_k d
  | .bipush n => (Int8.ofInt n).toInt32 = sm_k d
  | .sipush n => (Int16.ofInt n).toInt32 = sm_k d
  | .iinc _ n => Int32.ofInt n = sm_k d
  | _ => True
/-- how long an instruction is -/
def sm_len (i : Instr) : Nat := match i with
  | .bipush _ | .iload _ | .lload _ | .aload _ | .istore _ | .lstore _ | .astore _ | .newarray _ | .ldc _ => 2
  | .sipush _ | .iinc _ _ | .getfield _ | .putfield _ | .getstatic _ | .invokevirtual _ | .invokespecial _ | .invokestatic _ | .new _ | .anewarray _ | .checkcast _ | .instanceof _ | .goto _ | .if_icmp _ _ | .ifCond _ _ | .if_acmp _ _ | .ifnull _ | .ifnonnull _ | .ldc2_w _ | .ldc_w _ => 3
  | _ => 1
section SMP
variable {p : Program} {l : Launch} {e : Env} {R : Room} {s : State} {m : MethodId} {args : Array Value} {below : List Frame} {meth : Method} {c : Code} {H : Heap} {locs : List Loc} {cells slots : Nat} {Q : State → Prop} {cc : ByteArray} {pc nL : Nat} {ls : Array Slot} {L S L' S' : List Value}
theorem sm_ld_some {t i : Nat} (h : sm_ld t L S i = some (L', S')) : L' = L ∧ ∃ v, L[i]? = some v ∧ S' = v :: S ∧ ((t = 0 ∧ ∃ x, v = .int x) ∨ (t = 1 ∧ ∃ x, v = .long x) ∨ (t = 2 ∧ ((∃ x, v = .ref x) ∨ v = .null))) := by
  unfold sm_ld at h
  split at h
  · rename_i x hx; cases h; exact ⟨rfl, _, hx, rfl, Or.inl ⟨rfl, _, rfl⟩⟩
  · rename_i x hx; cases h; exact ⟨rfl, _, hx, rfl, Or.inr (Or.inl ⟨rfl, _, rfl⟩)⟩
  · rename_i x hx; cases h; exact ⟨rfl, _, hx, rfl, Or.inr (Or.inr ⟨rfl, Or.inl ⟨_, rfl⟩⟩)⟩
  · rename_i hx; cases h; exact ⟨rfl, _, hx, rfl, Or.inr (Or.inr ⟨rfl, Or.inr rfl⟩)⟩
  · cases h
theorem sm_si_some {i : Nat} (h : sm_si L S i = some (L', S')) : ∃ x, S = .int x :: S' ∧ i < L.length ∧ L' = sm_s1 L i (.int x) := by
  unfold sm_si at h
  split at h
  · split at h
    · rename_i hi; cases h; exact ⟨_, rfl, hi, rfl⟩
    · cases h
  · cases h
theorem sm_sl_some {i : Nat} (h : sm_sl L S i = some (L', S')) : ∃ x, S = .long x :: S' ∧ i + 1 < L.length ∧ L' = sm_s2 L i (.long x) := by
  unfold sm_sl at h
  split at h
  · split at h
    · rename_i hi; cases h; exact ⟨_, rfl, hi, rfl⟩
    · cases h
  · cases h
theorem sm_sr_some {i : Nat} (h : sm_sr L S i = some (L', S')) : (∃ x, S = .ref x :: S' ∧ i < L.length ∧ L' = sm_s1 L i (.ref x)) ∨ (S = .null :: S' ∧ i < L.length ∧ L' = sm_s1 L i .null) := by
  unfold sm_sr at h
  split at h
  · split at h
    · rename_i hi; cases h; exact Or.inl ⟨_, rfl, hi, rfl⟩
    · cases h
  · split at h
    · rename_i hi; cases h; exact Or.inr ⟨rfl, hi, rfl⟩
    · cases h
  · cases h
theorem sm_b2_some {f : Int32 → Int32 → Int32} (h : sm_b2 f L S = some (L', S')) : ∃ x y r, S = .int y :: .int x :: r ∧ L' = L ∧ S' = .int (f x y) :: r := by
  unfold sm_b2 at h
  split at h
  · cases h; exact ⟨_, _, _, rfl, rfl, rfl⟩
  · cases h
theorem sm_bl_some {f : Int64 → Int64 → Int64} (h : sm_bl f L S = some (L', S')) : ∃ x y r, S = .long y :: .long x :: r ∧ L' = L ∧ S' = .long (f x y) :: r := by
  unfold sm_bl at h
  split at h
  · cases h; exact ⟨_, _, _, rfl, rfl, rfl⟩
  · cases h
theorem sm_sh_some {f : Int64 → Int32 → Int64} (h : sm_sh f L S = some (L', S')) : ∃ x y r, S = .int y :: .long x :: r ∧ L' = L ∧ S' = .long (f x y) :: r := by
  unfold sm_sh at h
  split at h
  · cases h; exact ⟨_, _, _, rfl, rfl, rfl⟩
  · cases h
theorem sm_u1_some {f : Int32 → Value} (h : sm_u1 f L S = some (L', S')) : ∃ x r, S = .int x :: r ∧ L' = L ∧ S' = f x :: r := by
  unfold sm_u1 at h
  split at h
  · cases h; exact ⟨_, _, rfl, rfl, rfl⟩
  · cases h
theorem sm_dv_some {f : Int32 → Int32 → Int32} (h : sm_dv f L S = some (L', S')) : ∃ x y r, S = .int y :: .int x :: r ∧ ¬ y = 0 ∧ L' = L ∧ S' = .int (f x y) :: r := by
  unfold sm_dv at h
  split at h
  · split at h
    · cases h
    · rename_i hy; cases h; exact ⟨_, _, _, rfl, hy, rfl, rfl⟩
  · cases h
theorem sm_lf_some {f : Int64 → Int32} (h : sm_lf f L S = some (L', S')) : ∃ x r, S = .long x :: r ∧ L' = L ∧ S' = .int (f x) :: r := by
  unfold sm_lf at h
  split at h
  · cases h; exact ⟨_, _, rfl, rfl, rfl⟩
  · cases h
theorem sm_lc2_some (h : sm_lc2 L S = some (L', S')) : ∃ x y r, S = .long y :: .long x :: r ∧ L' = L ∧ S' = .int (lg_cmp x y) :: r := by
  unfold sm_lc2 at h
  split at h
  · cases h; exact ⟨_, _, _, rfl, rfl, rfl⟩
  · cases h
theorem sm_du_some (h : sm_du L S = some (L', S')) : ∃ a r, S = a :: r ∧ a.category = 1 ∧ L' = L ∧ S' = a :: a :: r := by
  unfold sm_du at h
  split at h
  · split at h
    · rename_i hc; cases h; exact ⟨_, _, rfl, hc, rfl, rfl⟩
    · cases h
  · cases h
theorem sm_po_some (h : sm_po L S = some (L', S')) : ∃ a, S = a :: S' ∧ a.category = 1 ∧ L' = L := by
  unfold sm_po at h
  split at h
  · split at h
    · rename_i hc; cases h; exact ⟨_, rfl, hc, rfl⟩
    · cases h
  · cases h
theorem sm_dx_some (h : sm_dx L S = some (L', S')) : ∃ a b r, S = a :: b :: r ∧ (a.category = 1 ∧ b.category = 1) ∧ L' = L ∧ S' = a :: b :: a :: r := by
  unfold sm_dx at h
  split at h
  · split at h
    · rename_i hc; cases h; exact ⟨_, _, _, rfl, hc, rfl, rfl⟩
    · cases h
  · cases h
theorem sm_d2_some (h : sm_d2 L S = some (L', S')) : ∃ a b r, S = a :: b :: r ∧ (a.category = 1 ∧ b.category = 1) ∧ L' = L ∧ S' = a :: b :: a :: b :: r := by
  unfold sm_d2 at h
  split at h
  · split at h
    · rename_i hc; cases h; exact ⟨_, _, _, rfl, hc, rfl, rfl⟩
    · cases h
  · cases h
theorem sm_inc_some {i : Nat} {c : Int32} (h : sm_inc L S i c = some (L', S')) : ∃ x, L[i]? = some (.int x) ∧ L' = sm_s1 L i (.int (x + c)) ∧ S' = S := by
  unfold sm_inc at h
  split at h
  · rename_i hx; cases h; exact ⟨_, hx, rfl, rfl⟩
  · cases h
theorem sm_pure (hexec : p.tables.exec = Jvm.exec) (hb : c.code = cc) {i : Instr} {d : Nat × Nat} (hdg : decode cc pc = .ok (i, sm_len i)) (hk : sm_kok i d) (hl : sm_lc ls nL L) (h : sm_ps i d L S = some (L', S'))
    (k : ∀ ls' : Array Slot, sm_lc ls' nL L' → W p l e R s m args below meth c H locs cells slots Q (F0 m (pc + sm_len i) ls' S')) : W p l e R s m args below meth c H locs cells slots Q (F0 m pc ls S) := by
  cases i with
  | iconst n => cases h; exact lv_iconst hexec hb hdg hk (k _ hl)
  | bipush n => cases h; exact lv_bipush hexec hb hdg hk (k _ hl)
  | sipush n => cases h; exact lv_sipush hexec hb hdg hk (k _ hl)
  | lconst n => cases h; exact lv_lconst hexec hb hdg rfl (k _ hl)
  | aconst_null => cases h; exact lv_null hexec hb hdg (k _ hl)
  | iload_n n =>
    obtain ⟨rfl, v, hv, rfl, (⟨-, x, rfl⟩ | ⟨q, -⟩ | ⟨q, -⟩)⟩ := sm_ld_some h
    · exact lv_iload_n hexec hb hdg rfl (hl.get hv (fun q => by cases q)) (k _ hl)
    · cases q
    · cases q
  | iload n =>
    obtain ⟨rfl, v, hv, rfl, (⟨-, x, rfl⟩ | ⟨q, -⟩ | ⟨q, -⟩)⟩ := sm_ld_some h
    · exact lv_iload hexec hb hdg (hl.get hv (fun q => by cases q)) (k _ hl)
    · cases q
    · cases q
  | lload_n n =>
    obtain ⟨rfl, v, hv, rfl, (⟨q, -⟩ | ⟨-, x, rfl⟩ | ⟨q, -⟩)⟩ := sm_ld_some h
    · cases q
    · exact lv_lload_n hexec hb hdg rfl (hl.get hv (fun q => by cases q)) (k _ hl)
    · cases q
  | lload n =>
    obtain ⟨rfl, v, hv, rfl, (⟨q, -⟩ | ⟨-, x, rfl⟩ | ⟨q, -⟩)⟩ := sm_ld_some h
    · cases q
    · exact lv_lload hexec hb hdg (hl.get hv (fun q => by cases q)) (k _ hl)
    · cases q
  | aload_n n =>
    obtain ⟨rfl, v, hv, rfl, (⟨q, -⟩ | ⟨q, -⟩ | ⟨-, (⟨x, rfl⟩ | rfl)⟩)⟩ := sm_ld_some h
    · cases q
    · cases q
    · exact lv_aload_n hexec hb hdg rfl (hl.get hv (fun q => by cases q)) (k _ hl)
    · exact lv_aload_nN hexec hb hdg rfl (hl.get hv (fun q => by cases q)) (k _ hl)
  | aload n =>
    obtain ⟨rfl, v, hv, rfl, (⟨q, -⟩ | ⟨q, -⟩ | ⟨-, (⟨x, rfl⟩ | rfl)⟩)⟩ := sm_ld_some h
    · cases q
    · cases q
    · exact lv_aload hexec hb hdg (hl.get hv (fun q => by cases q)) (k _ hl)
    · exact lv_aloadN hexec hb hdg (hl.get hv (fun q => by cases q)) (k _ hl)
  | istore_n n =>
    obtain ⟨x, rfl, hi, rfl⟩ := sm_si_some h
    exact lv_istore_n hexec hb hdg rfl hl.2 (by have := hl.1; omega) rfl (fun ls' h' => k ls' (sm_lc.s1 hl.1 h'))
  | istore n =>
    obtain ⟨x, rfl, hi, rfl⟩ := sm_si_some h
    exact lv_istore hexec hb hdg hl.2 (by have := hl.1; omega) rfl (fun ls' h' => k ls' (sm_lc.s1 hl.1 h'))
  | lstore_n n =>
    obtain ⟨x, rfl, hi, rfl⟩ := sm_sl_some h
    exact lv_lstore_n hexec hb hdg rfl hl.2 (by have := hl.1; omega) rfl (fun ls' h' => k ls' (sm_lc.s2 hl.1 h'))
  | lstore n =>
    obtain ⟨x, rfl, hi, rfl⟩ := sm_sl_some h
    exact lv_lstore hexec hb hdg hl.2 (by have := hl.1; omega) rfl (fun ls' h' => k ls' (sm_lc.s2 hl.1 h'))
  | astore_n n =>
    obtain (⟨x, rfl, hi, rfl⟩ | ⟨rfl, hi, rfl⟩) := sm_sr_some h
    · exact lv_astore_n hexec hb hdg rfl hl.2 (by have := hl.1; omega) rfl (fun ls' h' => k ls' (sm_lc.s1 hl.1 h'))
    · exact lv_astore_nN hexec hb hdg rfl hl.2 (by have := hl.1; omega) rfl (fun ls' h' => k ls' (sm_lc.s1 hl.1 h'))
  | astore n =>
    obtain (⟨x, rfl, hi, rfl⟩ | ⟨rfl, hi, rfl⟩) := sm_sr_some h
    · exact lv_astore hexec hb hdg hl.2 (by have := hl.1; omega) rfl (fun ls' h' => k ls' (sm_lc.s1 hl.1 h'))
    · exact lv_astoreN hexec hb hdg hl.2 (by have := hl.1; omega) rfl (fun ls' h' => k ls' (sm_lc.s1 hl.1 h'))
  | iinc n z =>
    obtain ⟨x, hx, rfl, rfl⟩ := sm_inc_some h
    have hm := (sm_mem L 0 n (.int x)).mpr ⟨Nat.zero_le _, by rw [Nat.sub_zero]; exact hx, fun q => by cases q⟩
    obtain ⟨q, hq⟩ := List.getElem?_of_mem hm
    have hn : n < L.length := (List.getElem?_eq_some_iff.mp hx).1
    exact lv_iinc hexec hb hdg hl.2 hq (by rw [show Int32.ofInt z = sm_k d from hk]) (by have := hl.1; omega) rfl (fun ls' h' => k ls' (sm_lc.s1 hl.1 h'))
  | iadd => obtain ⟨x, y, r, rfl, rfl, rfl⟩ := sm_b2_some h; exact lv_iadd hexec hb hdg (k _ hl)
  | isub => obtain ⟨x, y, r, rfl, rfl, rfl⟩ := sm_b2_some h; exact lv_isub hexec hb hdg (k _ hl)
  | imul => obtain ⟨x, y, r, rfl, rfl, rfl⟩ := sm_b2_some h; exact lv_imul hexec hb hdg (k _ hl)
  | iand => obtain ⟨x, y, r, rfl, rfl, rfl⟩ := sm_b2_some h; exact lv_iand hexec hb hdg (k _ hl)
  | ior => obtain ⟨x, y, r, rfl, rfl, rfl⟩ := sm_b2_some h; exact lv_ior hexec hb hdg (k _ hl)
  | ixor => obtain ⟨x, y, r, rfl, rfl, rfl⟩ := sm_b2_some h; exact lv_ixor hexec hb hdg (k _ hl)
  | ishl => obtain ⟨x, y, r, rfl, rfl, rfl⟩ := sm_b2_some h; exact lv_ishl hexec hb hdg (k _ hl)
  | ishr => obtain ⟨x, y, r, rfl, rfl, rfl⟩ := sm_b2_some h; exact lv_ishr hexec hb hdg (k _ hl)
  | ineg => obtain ⟨x, r, rfl, rfl, rfl⟩ := sm_u1_some h; exact lv_ineg hexec hb hdg (k _ hl)
  | idiv => obtain ⟨x, y, r, rfl, hy, rfl, rfl⟩ := sm_dv_some h; exact lv_idiv hexec hb hdg hy (k _ hl)
  | irem => obtain ⟨x, y, r, rfl, hy, rfl, rfl⟩ := sm_dv_some h; exact lv_irem hexec hb hdg hy (k _ hl)
  | ladd => obtain ⟨x, y, r, rfl, rfl, rfl⟩ := sm_bl_some h; exact lv_ladd hexec hb hdg (k _ hl)
  | lsub => obtain ⟨x, y, r, rfl, rfl, rfl⟩ := sm_bl_some h; exact lv_lsub hexec hb hdg (k _ hl)
  | lmul => obtain ⟨x, y, r, rfl, rfl, rfl⟩ := sm_bl_some h; exact lv_lmul hexec hb hdg (k _ hl)
  | land => obtain ⟨x, y, r, rfl, rfl, rfl⟩ := sm_bl_some h; exact lv_land hexec hb hdg (k _ hl)
  | lor => obtain ⟨x, y, r, rfl, rfl, rfl⟩ := sm_bl_some h; exact lv_lor hexec hb hdg (k _ hl)
  | lxor => obtain ⟨x, y, r, rfl, rfl, rfl⟩ := sm_bl_some h; exact lv_lxor hexec hb hdg (k _ hl)
  | lshl => obtain ⟨x, y, r, rfl, rfl, rfl⟩ := sm_sh_some h; exact lv_lshl hexec hb hdg rfl (k _ hl)
  | lushr => obtain ⟨x, y, r, rfl, rfl, rfl⟩ := sm_sh_some h; exact lv_lushr hexec hb hdg rfl (k _ hl)
  | i2l => obtain ⟨x, r, rfl, rfl, rfl⟩ := sm_u1_some h; exact lv_i2l hexec hb hdg rfl (k _ hl)
  | i2c => obtain ⟨x, r, rfl, rfl, rfl⟩ := sm_u1_some h; exact lv_i2c hexec hb hdg rfl (k _ hl)
  | l2i => obtain ⟨x, r, rfl, rfl, rfl⟩ := sm_lf_some h; exact lv_l2i hexec hb hdg rfl (k _ hl)
  | lcmp => obtain ⟨x, y, r, rfl, rfl, rfl⟩ := sm_lc2_some h; exact W.lcmp hexec hb hdg (k _ hl)
  | dup => obtain ⟨a, r, rfl, hc, rfl, rfl⟩ := sm_du_some h; exact lv_dup hexec hb hdg hc (k _ hl)
  | pop => obtain ⟨a, rfl, hc, rfl⟩ := sm_po_some h; exact lv_pop hexec hb hdg hc (k _ hl)
  | dup_x1 => obtain ⟨a, b, r, rfl, hc, rfl, rfl⟩ := sm_dx_some h; exact lv_dup_x1 hexec hb hdg hc.1 hc.2 (k _ hl)
  | dup2 => obtain ⟨a, b, r, rfl, hc, rfl, rfl⟩ := sm_d2_some h; exact lv_dup2_11 hexec hb hdg hc.1 hc.2 (k _ hl)
  | _ => cases h
end SMP
