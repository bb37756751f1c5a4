/-! branches: d.1 is the target; the returns -/
def sm_cp (c : ClassFile.Cond) (x y : Int32) : Prop := match c with
  | .eq => x = y
  | .ne => ¬ x = y
  | .lt => x < y
  | .ge => y ≤ x
  | .gt => y < x
  | .le => x ≤ y
def sm_cz (c : ClassFile.Cond) (x : Int32) : Prop := match c with
  | .eq => x = 0
  | .ne => ¬ x = 0
  | .lt => x < 0
  | .ge => 0 ≤ x
  | .gt => 0 < x
  | .le => x ≤ 0
/-- where a branch goes: a condition, the target where it holds, the target else, the stack -/
def sm_br (i : Instr) (d : Nat × Nat) (pc : Nat) (S : List Value) : Option (Prop × Nat × Nat × List Value) := match i, S with
  | .goto _, S => some (True, d.1, d.1, S)
  | .if_icmp c _, .int y :: .int x :: r => some (sm_cp c x y, d.1, pc + 3, r)
  | .ifCond c _, .int x :: r => some (sm_cz c x, d.1, pc + 3, r)
  | .ifnull _, .null :: r => some (True, d.1, d.1, r)
  | .ifnull _, .ref _ :: r => some (True, pc + 3, pc + 3, r)
  | .ifnonnull _, .ref _ :: r => some (True, d.1, d.1, r)
  | .ifnonnull _, .null :: r => some (True, pc + 3, pc + 3, r)
  | .if_acmp .eq _, .ref y :: .ref x :: r => some (x = y, d.1, pc + 3, r)
  | .if_acmp .ne _, .ref y :: .ref x :: r => some (¬ x = y, d.1, pc + 3, r)
  | .if_acmp .eq _, .null :: .ref _ :: r => some (True, pc + 3, pc + 3, r)
  | _, _ => none
def sm_tok (i : Instr) (d : Nat × Nat) (pc : Nat) : Prop := match i with
  | .goto o => (pc : Int) + o = (d.1 : Int)
  | .if_icmp _ o => (pc : Int) + o = (d.1 : Int)
  | .ifCond _ o => (pc : Int) + o = (d.1 : Int)
  | .ifnull o => (pc : Int) + o = (d.1 : Int)
  | .ifnonnull o => (pc : Int) + o = (d.1 : Int)
  | .if_acmp _ o => (pc : Int) + o = (d.1 : Int)
  | _ => True
/-- a switch: the target -/
def sm_sw (i : Instr) (pc : Nat) (S : List Value) : Option (Nat × List Value) := match i, S with
  | .tableswitch dflt lo hi offs, .int x :: r => if x.toInt < lo ∨ hi < x.toInt then (if 0 ≤ (pc : Int) + dflt then some (((pc : Int) + dflt).toNat, r) else none) else (match offs[(x.toInt - lo).toNat]? with
    | some o => if 0 ≤ (pc : Int) + o then some (((pc : Int) + o).toNat, r) else none
    | none => none)
  | .lookupswitch dflt ps, .int x :: r => if (ps.toList.zip (ps.toList.drop 1)).all (fun (a, next) => a.1 < next.1) = true ∧ 0 ≤ (pc : Int) + Op.lookupswitch.offset ps.toList dflt x.toInt then some (((pc : Int) + Op.lookupswitch.offset ps.toList dflt x.toInt).toNat, r) else none
  | _, _ => none
/-- what a method gives back -/
def sm_rt (i : Instr) (ret : Option FieldType) (S : List Value) : Option (Option Value) := match i, ret, S with
  | .ireturn, some ty, [.int x] => if narrow ty (.int x) = .int x then some (some (.int x)) else none
  | .lreturn, some .long, [.long x] => some (some (.long x))
  | .areturn, some (.object _), [.ref a] => some (some (.ref a))
  | .areturn, some (.object _), [.null] => some (some .null)
  | .areturn, some (.array _), [.ref a] => some (some (.ref a))
  | .areturn, some (.array _), [.null] => some (some .null)
  | .return_, none, [] => some none
  | _, _, _ => none
section SMB
variable {p : Program} {l : Launch} {e : Env} {R : Room} {s : State} {m : MethodId} {args : Array Value} {below : List Frame} {meth : Method} {c : Code} {H : Heap} {locs : List Loc} {cells slots : Nat} {Q : State → Prop} {cc : ByteArray} {pc : Nat} {ls : Array Slot} {S S' : List Value}
theorem sm_branch (hexec : p.tables.exec = Jvm.exec) (hb : c.code = cc) {i : Instr} {d : Nat × Nat} (hdg : decode cc pc = .ok (i, sm_len i)) (ht : sm_tok i d pc) {C : Prop} {t f : Nat} (h : sm_br i d pc S = some (C, t, f, S'))
    (k1 : C → W p l e R s m args below meth c H locs cells slots Q (F0 m t ls S')) (k2 : ¬ C → W p l e R s m args below meth c H locs cells slots Q (F0 m f ls S')) : W p l e R s m args below meth c H locs cells slots Q (F0 m pc ls S) := by
  unfold sm_br at h
  split at h
  · cases h; exact lv_goto hexec hb hdg ht (k1 trivial)
  · rename_i cd o y x r
    cases h
    cases cd
    · exact lv_icmp_eq hexec hb hdg ht k1 k2
    · exact lv_icmp_ne hexec hb hdg ht k1 (fun q => k2 (fun z => z q))
    · exact lv_icmp_lt hexec hb hdg ht k1 k2
    · exact lv_icmp_ge hexec hb hdg ht k1 k2
    · exact lv_icmp_gt hexec hb hdg ht k1 k2
    · exact lv_icmp_le hexec hb hdg ht k1 k2
  · rename_i cd o x r
    cases h
    cases cd
    · exact lv_if_eq hexec hb hdg ht k1 k2
    · exact lv_if_ne hexec hb hdg ht k1 (fun q => k2 (fun z => z q))
    · exact lv_if_lt hexec hb hdg ht k1 k2
    · exact lv_if_ge hexec hb hdg ht k1 k2
    · exact lv_if_gt hexec hb hdg ht k1 k2
    · exact lv_if_le hexec hb hdg ht k1 k2
  · cases h; exact lv_ifnullN hexec hb hdg ht (k1 trivial)
  · cases h; exact lv_ifnull hexec hb hdg (k1 trivial)
  · cases h; exact lv_ifnonnull hexec hb hdg ht (k1 trivial)
  · cases h; exact lv_ifnonnullN hexec hb hdg (k1 trivial)
  · rename_i o y x r
    cases h
    exact lv_acmp_eq (rx := some x) (ry := some y) hexec hb hdg ht (fun q => k1 (Option.some.inj q)) (fun q => k2 (fun z => q (congrArg some z)))
  · rename_i o y x r
    cases h
    exact lv_acmp_ne (rx := some x) (ry := some y) hexec hb hdg ht (fun q => k1 (fun z => q (congrArg some z))) (fun q => k2 (fun z => z (Option.some.inj q)))
  · rename_i o x r
    cases h
    exact lv_acmp_eq (rx := some x) (ry := none) hexec hb hdg ht (fun q => by cases q) (fun _ => k1 trivial)
  · cases h
theorem sm_switch (hexec : p.tables.exec = Jvm.exec) (hb : c.code = cc) {i : Instr} {len t : Nat} (hdg : decode cc pc = .ok (i, len)) (h : sm_sw i pc S = some (t, S'))
    (k : W p l e R s m args below meth c H locs cells slots Q (F0 m t ls S')) : W p l e R s m args below meth c H locs cells slots Q (F0 m pc ls S) := by
  unfold sm_sw at h
  split at h
  · rename_i dflt lo hi offs x r
    split at h
    · rename_i hq
      split at h
      · rename_i h0
        cases h
        exact lv_tableOut hexec hb hdg hq (by omega) k
      · cases h
    · rename_i hq
      split at h
      · rename_i o ho
        split at h
        · rename_i h0
          cases h
          exact lv_tableIn hexec hb hdg (fun z => hq (Or.inl z)) (fun z => hq (Or.inr z)) ho (by omega) k
        · cases h
      · cases h
  · rename_i dflt ps x r
    split at h
    · rename_i hq
      cases h
      exact lv_lookup hexec hb hdg hq.1 rfl (by have := hq.2; omega) k
    · cases h
  · cases h
theorem sm_return {Qc : Array Value → State → Outcome → State → Prop} {free : Addr → Prop} (hexec : p.tables.exec = Jvm.exec) (hb : c.code = cc) {i : Instr} (hdg : decode cc pc = .ok (i, sm_len i)) {ret : Option FieldType} (hr : meth.sig.returnType = ret) {v : Option Value} (h : sm_rt i ret S = some v) (hlocks : meth.locks = false)
    (hq : ∀ t : State, t.heap = H → s.WarmedH t.vm → Qc args s (.returned v) t) (hf : ∀ q ∈ locs, free q.base) : W p l e R s m args below meth c H locs cells slots (MQ below Qc args s cells slots free) (F0 m pc ls S) := by
  unfold sm_rt at h
  split at h
  · rename_i ty x
    split at h
    · rename_i hn
      cases h
      exact W.zret hexec hb hr hn hq hf hdg hlocks
    · cases h
  · cases h; exact W.lret hexec hb hr hq hf hdg hlocks
  · cases h; exact W.aret hexec hb hr (Or.inl ⟨_, rfl⟩) (Or.inr ⟨_, rfl⟩) hq hf hdg hlocks
  · cases h; exact W.aret hexec hb hr (Or.inl ⟨_, rfl⟩) (Or.inl rfl) hq hf hdg hlocks
  · cases h; exact W.aret hexec hb hr (Or.inr ⟨_, rfl⟩) (Or.inr ⟨_, rfl⟩) hq hf hdg hlocks
  · cases h; exact W.aret hexec hb hr (Or.inr ⟨_, rfl⟩) (Or.inl rfl) hq hf hdg hlocks
  · cases h; exact W.vret hexec hb hr hq hf hdg hlocks
  · cases h
end SMB
