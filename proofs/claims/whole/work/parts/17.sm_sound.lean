/-! WHAT THE SMALL MACHINE ANSWERS THE JVM's MODEL ANSWERS -/
theorem sm_fl_len : ∀ As : List Value, (lg_sl As).length = (sm_fl As).length
  | [] => rfl
  | v :: vs => by
    have ih := sm_fl_len vs
    unfold sm_fl
    by_cases hv : v.category = 2
    · rw [if_pos hv]
      simp [lg_sl, hv] at ih ⊢
      omega
    · rw [if_neg hv]
      simp [lg_sl, hv] at ih ⊢
      omega
theorem sm_as_jk : ∀ (k i : Nat), sm_as i (List.replicate k jk) = []
  | 0, i => rfl
  | k + 1, i => by
    rw [List.replicate_succ]
    unfold sm_as
    rw [if_pos rfl]
    exact sm_as_jk k (i + 1)
theorem sm_as_fl : ∀ (As : List Value) (k i : Nat), ∀ q ∈ sm_as i (sm_fl As ++ List.replicate k jk), q ∈ lv_args i As
  | [], k, i, q, hq => by
    rw [show sm_fl [] = [] from rfl, List.nil_append, sm_as_jk] at hq
    cases hq
  | v :: vs, k, i, q, hq => by
    unfold sm_fl at hq
    unfold lv_args
    by_cases hv : v.category = 2
    · rw [if_pos hv] at hq ⊢
      have hj : v ≠ jk := fun z => by rw [z] at hv; cases hv
      rw [List.cons_append, List.cons_append] at hq
      unfold sm_as at hq
      rw [if_neg hj] at hq
      unfold sm_as at hq
      rw [if_pos rfl] at hq
      rcases List.mem_cons.mp hq with h | h
      · rw [h]; exact List.mem_cons_self
      · exact List.mem_cons_of_mem _ (sm_as_fl vs k (i + 2) q h)
    · rw [if_neg hv] at hq ⊢
      rw [List.cons_append] at hq
      unfold sm_as at hq
      by_cases hj : v = jk
      · rw [if_pos hj] at hq
        exact List.mem_cons_of_mem _ (sm_as_fl vs k (i + 1) q hq)
      · rw [if_neg hj] at hq
        rcases List.mem_cons.mp hq with h | h
        · rw [h]; exact List.mem_cons_self
        · exact List.mem_cons_of_mem _ (sm_as_fl vs k (i + 1) q h)
theorem sm_entry (As : List Value) {n : Nat} (h : (sm_fl As).length ≤ n) : sm_lc ((lg_sl As ++ List.replicate (n - (lg_sl As).length) Slot.unset).toArray) n (sm_en As n) := by
  have he := lv_entry As (n := n) (by rw [sm_fl_len]; exact h)
  refine ⟨by unfold sm_en; rw [List.length_append, List.length_replicate]; omega, he.1, he.2.1, fun q hq => he.2.2 q (sm_as_fl As _ 0 q hq)⟩
/-- the words of method j: its code and the whole table -/
def xws (Tg : List Cond) (j : Nat) : List Cond := Cond.code (xmn j) (xcc j) (xml j) (xrt j) :: Tg
def sm_good (w : Cond) : Prop := (w.onTables && w.keeps) = true ∨ ∃ ty, w = .arrayClass ty
/-- a word that the tables keep but that no word list may hold -/
def sm_nwk (w : Cond) : Prop := (∀ (u U : State), u.vm = U.vm → va_Nw w u → va_Nw w U) ∧ ∀ (s U : State), s.WarmedH U.vm → va_Nw w s → va_Nw w U
def sm_mok (Tg : List Cond) (j : Nat) : Prop := Cond.code (xmn j) (xcc j) (xml j) (xrt j) ∈ Tg ∧ plainName (xmn j).cls = true ∧ (xmn j).cls ≠ "java/lang/invoke/MethodHandle" ∧ (xmn j).cls ≠ "java/lang/invoke/VarHandle" ∧ (parseMethodDescriptor (xmn j).desc).map (fun d => d.parameters.length) = some (xna j) ∧ Cond.initialized (xmn j).cls ∈ Tg ∧ xex j = []
/-- Arrays.copyOf -/
def sm_cname : MethodName := ⟨"java/util/Arrays", "copyOf", "([Ljava/lang/Object;I)[Ljava/lang/Object;"⟩
def sm_cok (Tg NW : List Cond) (own : String) (j : Nat) (i : Instr) (d : Nat × Nat) : Prop := match i with
  | .invokevirtual x => (xrk d.1 + 1 ≤ xrk j ∧ 8 + (xml d.1 + 11) + xrl d.1 ≤ xrl j) ∧ sm_mok Tg d.1 ∧ Cond.instanceMethod (xmn d.1) ∈ Tg ∧ Cond.selects (xmn d.1).cls (xmn d.1) (xmn d.1) ∈ Tg ∧ (∃ q : vw_C, xcl[xrc d.1]? = some q ∧ q.1 = (xmn d.1).cls) ∧ (Cond.methodLink own x (xmn d.1) ∈ Tg ∨ ∃ host, Cond.methodLinkNest own x (xmn d.1) host ∈ NW)
  | .invokestatic x => (d.2 < 3 → (xrk d.1 + 1 ≤ xrk j ∧ 8 + (xml d.1 + 11) + xrl d.1 ≤ xrl j) ∧ sm_mok Tg d.1 ∧ Cond.static (xmn d.1) ∈ Tg ∧ (Cond.methodLink own x (xmn d.1) ∈ Tg ∨ ∃ host, Cond.methodLinkNest own x (xmn d.1) host ∈ NW)) ∧ (d.2 = 4 ∨ d.2 = 5 → (1 ≤ xrk j ∧ 21 ≤ xrl j) ∧ Cond.initialized "java/lang/Math" ∈ Tg) ∧
    (d.2 = 4 → Cond.methodLink own x Lib.Math.max.name ∈ Tg ∧ Cond.static Lib.Math.max.name ∈ Tg ∧ Cond.code Lib.Math.max.name Lib.Math.max.code 2 (some .int) ∈ Tg) ∧ (d.2 = 5 → Cond.methodLink own x Lib.Math.min.name ∈ Tg ∧ Cond.static Lib.Math.min.name ∈ Tg ∧ Cond.code Lib.Math.min.name Lib.Math.min.code 2 (some .int) ∈ Tg) ∧
    (d.2 = 6 → (3 ≤ xrk j ∧ 85 ≤ xrl j) ∧ Cond.methodLink own x sm_cname ∈ Tg)
  | .invokespecial x => (d.2 = 2 → (1 ≤ xrk j ∧ 20 ≤ xrl j) ∧ Cond.methodLink own x Lib.objectInit ∈ Tg ∧ Cond.instanceMethod Lib.objectInit ∈ Tg ∧ Cond.code Lib.objectInit ⟨#[0xb1]⟩ 1 none ∈ Tg) ∧ (d.2 ≠ 2 → (xrk d.1 + 1 ≤ xrk j ∧ 8 + (xml d.1 + 11) + xrl d.1 ≤ xrl j) ∧ sm_mok Tg d.1 ∧ (xmn d.1).name = "<init>" ∧ xrt d.1 = none ∧ Cond.instanceMethod (xmn d.1) ∈ Tg ∧ (Cond.methodLink own x (xmn d.1) ∈ Tg ∨ ∃ host, Cond.methodLinkNest own x (xmn d.1) host ∈ NW))
  | _ => True
def sm_ok (Tg NW : List Cond) (j pc : Nat) (i : Instr) (d : Nat × Nat) : Prop :=
  (∃ len, decode (xcc j) pc = .ok (i, len) ∧ (sm_isw i = false → len = sm_len i)) ∧ sm_kok i d ∧ sm_tok i d pc ∧ sm_hok Tg NW (xmn j).cls (xmn j).name i d ∧ sm_cok Tg NW (xmn j).cls j i d
/-- all that is said of the tables, once -/
def sm_st (Tg NW : List Cond) : Prop := sm_cls Tg ∧ (∀ w ∈ Tg, sm_good w) ∧ (∀ w ∈ NW, sm_nwk w) ∧ ∀ j pc i d, xat j pc = some (i, d) → sm_ok Tg NW j pc i d
abbrev sm_rm (j mc ms : Nat) : Room := { frames := xrk j, cells := mc, slots := ms, locals := xrl j }
/-- what is known of the JDK's world beside the words: texts, casts that fail, the class object of Object[] -/
def sm_X (U : State) : Prop := (∀ e ∈ xsk, ∃ q, vk_R "BuildingText" e.1 e.2 q U) ∧ (∀ e ∈ xnc, ∀ cA cB : ClassId, U.vm.findClass e.1 = some cA → U.vm.findClass e.2 = some cB → U.vm.assignable cA cB = false) ∧ ∃ mi, va_Mi "[Ljava/lang/Object;" mi U
theorem sm_X.same {u U : State} (hv : U.vm = u.vm) (h : sm_X u) : sm_X U := by
  obtain ⟨h1, h2, mi, h3⟩ := h
  refine ⟨fun e he => ?_, by rw [hv]; exact h2, mi, va_Mi.moved (by rw [hv]; exact Vm.Alike.refl _) h3⟩
  obtain ⟨q, hq⟩ := h1 e he
  exact ⟨q, vk_R.same hv hq⟩
theorem sm_X.warm {s U : State} (hW : s.WarmedH U.vm) (h : sm_X s) : sm_X U := by
  obtain ⟨h1, h2, mi, h3⟩ := h
  refine ⟨fun e he => ?_, fun e he cA cB k1 k2 => ?_, mi, va_Mi.moved hW.alike h3⟩
  · obtain ⟨q, hq⟩ := h1 e he
    exact ⟨q, vk_R.warm hW hq⟩
  · rw [hW.alike.findClass] at k1 k2
    rw [hW.alike.assignable]
    exact h2 e he cA cB k1 k2
def sm_Pc (D : va_G) (base : Nat) (NW : List Cond) (As : List Value) (h : sm_H) : Array Value → State → Prop := fun a U => a = As.toArray ∧ sm_R D base U h U.heap ∧ va_K D xcl [] U ∧ (∀ w ∈ NW, va_Nw w U) ∧ sm_X U
def sm_Qc (D : va_G) (base : Nat) (v : Option Value) (h' : sm_H) : Array Value → State → Outcome → State → Prop := fun _ _ o t => o = .returned v ∧ sm_R D base t h' t.heap
/-- how a call ends: it returns v, or it throws the object that v is -/
def sm_O (k : Nat) (v : Option Value) (o : Outcome) : Prop := match k with
  | 0 => o = .returned v
  | _ + 1 => ∃ a, v = some (.ref a) ∧ o = .threw a
def sm_FE (st t : State) (L : List Loc) (k n : Nat) : Prop := st.WarmedH t.vm ∧ st.sameButNew ({ t with vm := st.vm } : State) L k n
def sm_MQ (D : va_G) (base : Nat) (below : List Frame) (k : Nat) (v : Option Value) (h' : sm_H) (s : State) (mc ms : Nat) : State → Prop := fun t => ∃ o, t.status = .running ∧ Ended t below o ∧ (sm_O k v o ∧ sm_R D base t h' t.heap) ∧ ∃ L, sm_FE s t L mc ms ∧ ∀ q ∈ L, base ≤ q.base
theorem sm_Pc_blind {D : va_G} {base : Nat} {NW : List Cond} (hn : ∀ w ∈ NW, sm_nwk w) {As : List Value} {h : sm_H} : FrameBlind (sm_Pc D base NW As h) := by
  intro a U g mk hp
  obtain ⟨h1, h2, h3, h4, h5⟩ := hp
  exact ⟨h1, sm_R.moved (u := U) (U := U.calling g mk a) (Vm.Alike.refl U.vm) h2, va_K.moved (u := U) (U := U.calling g mk a) (Vm.Alike.refl U.vm) h3, fun w hw => (hn w hw).1 U (U.calling g mk a) rfl (h4 w hw), h5.same rfl⟩
theorem sm_Pc_at {D : va_G} {base : Nat} {NW : List Cond} (hn : ∀ w ∈ NW, sm_nwk w) {As : List Value} {h : sm_H} {s : State} {H : Heap} (hR : sm_R D base s h H) (hK : va_K D xcl [] s) (hnw : ∀ w ∈ NW, va_Nw w s) (hX : sm_X s) : ∀ U : State, U.heap = H → s.WarmedH U.vm → sm_Pc D base NW As h As.toArray U := by
  intro U hU hW
  exact ⟨rfl, by rw [hU]; exact hR.moved hW.alike, hK.moved hW.alike, fun w hw => (hn w hw).2 s U hW (hnw w hw), hX.warm hW⟩
theorem sm_goodIn {Tg : List Cond} (hg : ∀ w ∈ Tg, sm_good w) {j : Nat} (hc : Cond.code (xmn j) (xcc j) (xml j) (xrt j) ∈ Tg) {Ts : List Cond} (hsub : ∀ w ∈ Tg, w ∈ Ts) : GoodIn Ts (xws Tg j) := by
  intro w hw
  rcases List.mem_cons.mp hw with h | h
  · rw [h]; exact ⟨hsub _ hc, hg _ hc⟩
  · exact ⟨hsub _ h, hg _ h⟩
section SMS
variable {p : Program} {l : Launch} {e : Env} {R : Room} {s : State} {m : MethodId} {args : Array Value} {below : List Frame} {meth : Method} {c : Code} {H : Heap} {locs : List Loc} {cells slots : Nat} {Q : State → Prop} {base : Nat} {D : va_G} {h h' : sm_H} {Tg NW : List Cond}
theorem sm_Wm {Q Q' : State → Prop} {g : JFrame} (f : ∀ t, Q t → Q' t) (k : W p l e R s m args below meth c H locs cells slots Q g) : W p l e R s m args below meth c H locs cells slots Q' g := by
  intro T hT X
  obtain ⟨t, a, b⟩ := k T hT X
  exact ⟨t, a, f t b⟩
/-- behind a call -/
theorem sm_back {mc ms : Nat} {g : JFrame} {rest : List Value} {v : Option Value} {a : Array Value} (hr : va_Run p l e R s m args below meth c H locs cells slots mc ms g rest (sm_Qc D base v h' a) (fun q => base ≤ q)) (hf : ∀ q ∈ locs, base ≤ q.base)
    (kk : ∀ (H' : Heap) (locs' : List Loc), sm_R D base s h' H' → (∀ q ∈ locs', base ≤ q.base) → W p l e R s m args below meth c H' locs' (cells + mc) (slots + ms) Q { g with pc := g.pc + 3, stack := v.toList ++ rest }) : W p l e R s m args below meth c H locs cells slots Q g := by
  intro T hT X
  obtain ⟨v', st₀, t, T', L, h0, X', hL, e1, e2, ⟨hv, hR'⟩, st⟩ := hr T hT X
  cases hv
  have hal : t.vm.Alike s.vm := by rw [← e2]; exact X'.warmed.alike.symm
  obtain ⟨t2, a1, b1⟩ := kk T'.heap (locs ++ L) (by rw [e1]; exact hR'.moved hal) (fun q hq => by
    rcases List.mem_append.mp hq with h | h
    · exact hf q h
    · exact hL q h) T' rfl X'
  exact ⟨t2, st t2 a1, b1⟩
/-- what is known in a body of method j -/
def sm_In (Tg NW : List Cond) (D : va_G) (base j : Nat) (p : Program) (s : State) (m : MethodId) (args : Array Value) (meth : Method) (c : Code) : Prop :=
  p.tables.exec = Jvm.exec ∧ c.code = xcc j ∧ c.maxLocals = xml j ∧ meth.sig.returnType = xrt j ∧ meth.locks = false ∧ meth.name = (xmn j).name ∧ s.vm.findClass (xmn j).cls = some m.cls ∧ (∀ w ∈ Tg, w.before args s = true) ∧ (∀ w ∈ NW, va_Nw w s) ∧ va_K D xcl [] s ∧ sm_X s ∧ (∃ z, sm_Zs base z s s.heap) ∧ (j < 169 → c.exceptionTable.toList.map (fun h => (h.startPc, h.endPc, h.handlerPc, h.catchType)) = xex j)
/-- the road of method j from a frame -/
def sm_Road (l : Launch) (Tg NW : List Cond) (D : va_G) (base n : Nat) : Prop := ∀ (j pc : Nat) (L S : List Value) (h : sm_H) (k : Nat) (v : Option Value) (h' : sm_H), sm_run n j pc L S h = some (k, v, h') →
  ∀ (p : Program) (e : Env) (s : State) (m : MethodId) (args : Array Value) (below : List Frame) (meth : Method) (c : Code) (H : Heap) (locs : List Loc) (cells slots mc ms : Nat) (ls : Array Slot), sm_In Tg NW D base j p s m args meth c → sm_lc ls (xml j) L → sm_R D base s h H → (∀ q ∈ locs, base ≤ q.base) → base ≤ hT h →
  cells + (hT h' - hT h) = mc → slots + (hU h' - hU h) = ms → W p l e (sm_rm j mc ms) s m args below meth c H locs cells slots (sm_MQ D base below k v h' s mc ms) (F0 m pc ls S)
/-- WHAT IS OWED OF Arrays.copyOf, once -/
def sm_copy (l : Launch) (Tg NW : List Cond) (D : va_G) (base : Nat) : Prop := ∀ (j x pc mc ms a : Nat) (n : Int32) (r : List Value) (h : sm_H) (p : Program) (e : Env) (s : State) (m : MethodId) (args : Array Value) (below : List Frame) (meth : Method) (c : Code) (H : Heap) (locs : List Loc) (cells slots : Nat) (ls : Array Slot) (Q : State → Prop),
  sm_In Tg NW D base j p s m args meth c → ls.size = xml j → sm_R D base s h H → (∀ q ∈ locs, base ≤ q.base) → base ≤ hT h → (3 ≤ xrk j ∧ 85 ≤ xrl j) → Cond.methodLink (xmn j).cls x sm_cname ∈ Tg → decode (xcc j) pc = .ok (.invokestatic x, 3) →
  hC h a = 7 → ¬ n < 0 → hL h a ≤ n.toNatClampNeg → n.toNatClampNeg * 4 ≤ 536870912 → (r.map fun v => v.category).sum ≤ 8 → cpE h a → cells + 1 ≤ mc → slots + n.toNatClampNeg ≤ ms →
  (∀ (H' : Heap) (locs' : List Loc), sm_R D base s (cpA h a n.toNatClampNeg) H' → (∀ q ∈ locs', base ≤ q.base) → W p l e (sm_rm j mc ms) s m args below meth c H' locs' (cells + 1) (slots + n.toNatClampNeg) Q (F0 m (pc + 3) ls (.ref (hT h) :: r))) →
  W p l e (sm_rm j mc ms) s m args below meth c H locs cells slots Q (F0 m pc ls (.int n :: .ref a :: r))
/-- WHAT IS OWED OF 'throw new ..', once -/
def sm_throws (l : Launch) (Tg NW : List Cond) (D : va_G) (base : Nat) : Prop := ∀ (j x pc ci mc ms : Nat) (h : sm_H) (p : Program) (e : Env) (s : State) (m : MethodId) (args : Array Value) (below : List Frame) (meth : Method) (c : Code) (H : Heap) (locs : List Loc) (cells slots : Nat) (ls : Array Slot),
  sm_In Tg NW D base j p s m args meth c → ls.size = xml j → sm_R D base s h H → (∀ q ∈ locs, base ≤ q.base) → base ≤ hT h → xat j pc = some (.new x, ci, 1) → cells + 1 = mc → slots + 6 = ms →
  W p l e (sm_rm j mc ms) s m args below meth c H locs cells slots (sm_MQ D base below (ci + 1) (some (.ref (hT h))) (thH h ci) s mc ms) (F0 m pc ls [])
/-- WHAT IS OWED OF A CALL WHOSE END IS CAUGHT, once -/
def sm_catches (l : Launch) (Tg NW : List Cond) (D : va_G) (base : Nat) : Prop := ∀ (n : Nat), sm_Road l Tg NW D base n → ∀ (j j' pc k a hp mc ms : Nat) (i : Instr) (d : Nat × Nat) (S As r : List Value) (h h1 : sm_H) (p : Program) (e : Env) (s : State) (m : MethodId) (args : Array Value) (below : List Frame) (meth : Method) (c : Code) (H : Heap) (locs : List Loc) (cells slots : Nat) (ls : Array Slot) (Q : State → Prop),
  sm_In Tg NW D base j p s m args meth c → ls.size = xml j → sm_R D base s h H → (∀ q ∈ locs, base ≤ q.base) → base ≤ hT h → xat j pc = some (i, d) → sm_cl i d S h = some (j', As, r) → sm_run n j' 0 (sm_en As (xml j')) [] h = some (k + 1, some (.ref a), h1) → xhi i j pc k = some hp →
  cells + (hT h1 - hT h) ≤ mc → slots + (hU h1 - hU h) ≤ ms →
  (∀ (H' : Heap) (locs' : List Loc), sm_R D base s h1 H' → (∀ q ∈ locs', base ≤ q.base) → W p l e (sm_rm j mc ms) s m args below meth c H' locs' (cells + (hT h1 - hT h)) (slots + (hU h1 - hU h)) Q (F0 m hp ls [.ref a])) →
  W p l e (sm_rm j mc ms) s m args below meth c H locs cells slots Q (F0 m pc ls S)
/-- WHAT IS OWED OF A CALL OF A METHOD THAT CATCHES, once -/
def sm_helps (l : Launch) (Tg NW : List Cond) (D : va_G) (base : Nat) : Prop := ∀ (n : Nat), sm_Road l Tg NW D base n → ∀ (j j' pc x z mc ms : Nat) (S As r : List Value) (v : Option Value) (h h1 : sm_H) (p : Program) (e : Env) (s : State) (m : MethodId) (args : Array Value) (below : List Frame) (meth : Method) (c : Code) (H : Heap) (locs : List Loc) (cells slots : Nat) (ls : Array Slot) (Q : State → Prop),
  sm_In Tg NW D base j p s m args meth c → ls.size = xml j → sm_R D base s h H → (∀ q ∈ locs, base ≤ q.base) → base ≤ hT h → xat j pc = some (.invokestatic x, z, 3) → sm_cl (.invokestatic x) (z, 3) S h = some (j', As, r) → sm_run n j' 0 (sm_en As (xml j')) [] h = some (0, v, h1) →
  cells + (hT h1 - hT h) ≤ mc → slots + (hU h1 - hU h) ≤ ms →
  (∀ (H' : Heap) (locs' : List Loc), sm_R D base s h1 H' → (∀ q ∈ locs', base ≤ q.base) → W p l e (sm_rm j mc ms) s m args below meth c H' locs' (cells + (hT h1 - hT h)) (slots + (hU h1 - hU h)) Q (F0 m (pc + 3) ls (v.toList ++ r))) →
  W p l e (sm_rm j mc ms) s m args below meth c H locs cells slots Q (F0 m pc ls S)
theorem sm_noex {p : Program} {l : Launch} {y : MethodName} {S : Spec} {cc : ByteArray} {ml : Nat} {rt : Option FieldType} {e : Env} {s : State} {m : MethodId} {args : Array Value} {below : List Frame} {meth : Method} {c : Code} {s₁ : State} (B : BodyLoose p l y S cc ml rt e s m args below meth c s₁) {bytes : ByteArray} {maxL : Nat} {ret : Option FieldType} (h : (Cond.code y bytes maxL ret).before args s = true) : c.exceptionTable.toList = [] := by
  obtain ⟨meth', c', hm', hc', -, -, -, -, hempty, -⟩ := Cond.code_spec B.named h
  have hcd := B.here.code
  rw [State.code?_eq] at hcd
  have hvm : s₁.vm = s.vm := by rw [B.state]; rfl
  rw [hvm, hm'] at hcd
  have e1 : c' = c := Option.some.inj (hc'.symm.trans hcd)
  subst e1
  have h0 : c'.exceptionTable.size = 0 := by simpa [Array.isEmpty] using hempty
  exact List.eq_nil_of_length_eq_zero (by simpa using h0)
theorem sm_met {n : Nat} (hst : sm_st Tg NW) (hrd : sm_Road l Tg NW D base n) {j : Nat} (hm : sm_mok Tg j) {As : List Value} {v : Option Value} (hlen : (sm_fl As).length ≤ xml j) (hb0 : base ≤ hT h) (hrun : sm_run n j 0 (sm_en As (xml j)) [] h = some (0, v, h')) :
    Met l (xmn j) (xws Tg j) (sm_rm j (hT h' - hT h) (hU h' - hU h)) (sm_Pc D base NW As h) (sm_Qc D base v h') (hT h' - hT h) (hU h' - hU h) (fun q => base ≤ q) := by
  refine Met.ofW (cc := xcc j) (maxL := xml j) (ret := xrt j) hm.2.1 rfl ?_
  intro p e s m args below meth c s₁ B hml hv
  obtain ⟨rfl, hR, hK, hnw, hX⟩ := hv
  have hts := atoms_spec (ws := xws Tg j) B.pre
  have hin : sm_In Tg NW D base j p s m As.toArray meth c := ⟨B.exec, B.bytes, hml, B.returns, B.notSynchronized, (name_of_methodNamed B.named B.method).1, findClass_of_methodNamed B.named, fun w hw => hts w (List.mem_cons_of_mem _ hw), hnw, hK, hX, ⟨_, hR.2.2.2.2.2⟩, fun _ => by rw [sm_noex B (hts _ List.mem_cons_self), hm.2.2.2.2.2.2]; rfl⟩
  rw [lg_entry_eq]
  refine sm_Wm (fun t ht => ?_) (hrd j 0 _ [] h 0 v h' hrun p e s m As.toArray below meth c s.heap [] 0 0 _ _ _ hin (sm_entry As hlen) hR (fun q hq => by cases hq) hb0 (Nat.zero_add _) (Nat.zero_add _))
  obtain ⟨o, h1, h2, ⟨h3, h4⟩, L, h5, h6⟩ := ht
  exact ⟨o, h1, h2, ⟨h3, h4⟩, L, ⟨⟨v, h3⟩, h5.1, h5.2⟩, h6⟩
end SMS
