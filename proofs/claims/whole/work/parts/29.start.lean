/-! FROM THE SMALL MACHINE TO THE CLAIM: what is owed of the law's own run, and that it is enough -/
def law_ok : Prop := ∀ (L : Nat) (xs : Nat → Int32) (h : sm_H) (b : Nat), L ≤ 2048 → hC h b = 15 → hL h b = L → (∀ i, i < L → hA h b i = .int (xs i)) → hC h (hZ h) = 14 → nI (hL h (hZ h)) = 0 → (∀ a, hC h a ≠ 0 → a = b ∨ a = hZ h) → b < hT h → hZ h < hT h →
  sm_wp 169 0 [.ref b, jk, jk, jk, jk, jk, jk] [] h (fun k v h' => k = 0 ∧ v = some (.int 1) ∧ hT h' ≤ hT h + 601024 ∧ hU h' ≤ hU h + 7293034)
theorem tl {w : Cond} (i : Nat) (h : tables_1[i]? = some w) : w ∈ lw_tbl := List.mem_append_right _ (List.mem_of_getElem? h)
theorem xinst {ci : Nat} {q : vw_C} (hq : xcl[ci]? = some q) : ∃ n, Cond.instantiable q.1 n ∈ Tg := by
  match ci, hq with
  | 0, hq => cases hq; exact ⟨_, tw_27⟩
  | 1, hq => cases hq; exact ⟨_, tw_62⟩
  | 2, hq => cases hq; exact ⟨_, tw_661⟩
  | 3, hq => cases hq; exact ⟨_, tw_147⟩
  | 4, hq => cases hq; exact ⟨_, tw_166⟩
  | 5, hq => cases hq; exact ⟨_, tw_661⟩
  | 6, hq => cases hq; exact ⟨_, tw_464⟩
  | 7, hq => cases hq; exact ⟨_, tw_179⟩
  | 8, hq => cases hq; exact ⟨_, tw_390⟩
  | 9, hq => cases hq; exact ⟨_, tw_841⟩
  | 10, hq => cases hq; exact ⟨_, tw_35⟩
  | 11, hq => cases hq; exact ⟨_, tw_299⟩
  | 12, hq => cases hq; exact ⟨_, tw_367⟩
  | 13, hq => cases hq; exact ⟨_, tw_727⟩
  | n + 14, hq => cases hq
def sm_str (e : Nat × String) : Prop := Cond.stringRef "BuildingText" e.1 e.2 ∈ lw_tbl ∧ Cond.exactly (.string "BuildingText" e.1) "java/lang/String" ∈ flatC (Jvm.Cond.and given_1 narrow_1)
theorem xsk_ok : ∀ e ∈ xsk, sm_str e := List.forall_mem_cons.mpr ⟨⟨tl 339 (by decide +kernel), by decide +kernel⟩, List.forall_mem_cons.mpr ⟨⟨tl 375 (by decide +kernel), by decide +kernel⟩, List.forall_mem_cons.mpr ⟨⟨tl 619 (by decide +kernel), by decide +kernel⟩, List.forall_mem_cons.mpr ⟨⟨tl 715 (by decide +kernel), by decide +kernel⟩, List.forall_mem_cons.mpr ⟨⟨tl 717 (by decide +kernel), by decide +kernel⟩, List.forall_mem_cons.mpr ⟨⟨tl 735 (by decide +kernel), by decide +kernel⟩, List.forall_mem_cons.mpr ⟨⟨tl 755 (by decide +kernel), by decide +kernel⟩, List.forall_mem_cons.mpr ⟨⟨tl 782 (by decide +kernel), by decide +kernel⟩, List.forall_mem_cons.mpr ⟨⟨tl 783 (by decide +kernel), by decide +kernel⟩, List.forall_mem_cons.mpr ⟨⟨tl 796 (by decide +kernel), by decide +kernel⟩, List.forall_mem_cons.mpr ⟨⟨tl 797 (by decide +kernel), by decide +kernel⟩, List.forall_mem_cons.mpr ⟨⟨tl 827 (by decide +kernel), by decide +kernel⟩, List.forall_mem_cons.mpr ⟨⟨tl 839 (by decide +kernel), by decide +kernel⟩, fun _ h => absurd h List.not_mem_nil⟩⟩⟩⟩⟩⟩⟩⟩⟩⟩⟩⟩⟩
theorem xnc_ok : ∀ e ∈ xnc, Cond.not (Cond.castable e.1 e.2) ∈ flatC (Jvm.Cond.and given_1 narrow_1) := List.forall_mem_cons.mpr ⟨by decide +kernel, List.forall_mem_cons.mpr ⟨by decide +kernel, fun _ h => absurd h List.not_mem_nil⟩⟩
theorem sm_LSof {args : Array Value} {s : State} {C n d : String} {A : Nat → Prop} (hl : (Cond.laysStatic C n d).before args s = true) (hr : (Cond.isRef (.static C n d)).before args s = true) (hA : ∀ a : Nat, a < s.heap.size → ¬ A a) : sm_LS C n d A s s.heap := by
  obtain ⟨c, k, i, f, a, cell, h0, h1, h2, h3, h4, h5, h6, h7, h8⟩ := Cond.laysStatic_spec hl
  obtain ⟨u, hu⟩ := Cond.staticRefV h1 h2 h3 h4 h5 hr
  refine ⟨c, k, i, f, a, cell, h0, h1, h2, h3, h4, h5, h6, h7, h8, ?_, hA a (Array.getElem?_eq_some_iff.mp h4).1⟩
  obtain ⟨v, hv⟩ := u
  cases v with
  | null => exact Or.inl hu
  | ref q => exact Or.inr ⟨q, hu⟩
  | _ => cases hv
theorem sm_lessRoom {p : Program} {l : Launch} {e : Env} {R R' : Room} {s : State} {m : MethodId} {args : Array Value} {below : List Frame} {meth : Method} {c : Code} {T : State} {locs : List Loc} {cells slots : Nat} (X : Stand p l e R s m args below meth c T locs cells slots) (h1 : R'.frames ≤ R.frames) (h2 : R'.cells ≤ R.cells) (h3 : R'.slots ≤ R.slots) (h4 : R'.locals ≤ R.locals) : Stand p l e R' s m args below meth c T locs cells slots := by
  refine ⟨X.admits, X.cas, X.clock, X.frames, ?_, X.hears, X.method, X.code, X.here, X.tail, X.warmed, X.limits, X.bytes, X.same⟩
  have hr := X.room
  simp only [State.hasRoom, Bool.and_eq_true, decide_eq_true_eq] at hr ⊢
  obtain ⟨⟨⟨⟨r1, r2, r3, r4, r5, r6⟩, r7⟩, r8⟩, r9⟩ := hr
  exact ⟨⟨⟨⟨by omega, by omega, by omega, by omega, by omega, r6⟩, by omega⟩, by omega⟩, r9⟩
def R_law : String := "BuildingTextLaw"
def lw_P (b : Addr) (xs : List Int32) (args : Array Value) (s : State) : Prop := args = #[.ref b] ∧ s.IntsAt b xs ∧ xs.length ≤ 2048 ∧ (Jvm.Cond.and given_1 narrow_1).before args s = true
def lw_Q (_ : Array Value) (s : State) (o : Outcome) (t : State) : Prop := o = .returned (some (.int 1)) ∧ Framed s o t [] 601024 7293034
def lw_Z (below : List Frame) (a : Array Value) (s : State) : State → Prop := fun t => ∃ o, t.status = .running ∧ Ended t below o ∧ lw_Q a s o t
def lw_At (p : Program) (s : State) (m : MethodId) (meth : Method) (c : Code) (b L : Nat) (xs : Nat → Int32) : Prop :=
  p.tables.exec = Jvm.exec ∧ c.code = code ∧ meth.sig.returnType = ret ∧ c.maxLocals = 7 ∧ s.vm.findClass R_law = some m.cls ∧ (∀ w ∈ lw_tbl, w.before #[Value.ref b] s = true) ∧ va_X b L xs s s.heap ∧ b < s.heap.size ∧ meth.locks = false ∧ meth.name = "law" ∧ (Jvm.Cond.and given_1 narrow_1).before #[Value.ref b] s = true
set_option maxHeartbeats 2000000 in
theorem whole_start (hok : law_ok) {p : Program} {e : Env} {s : State} {m : MethodId} {below : List Frame} {meth : Method} {c : Code} (l : Launch) (hfl : l.flags = pinnedFlags ++ [noTraceFlag]) {b L : Nat} {xs : Nat → Int32} (hLe : L ≤ 2048) (C0 : lw_At p s m meth c b L xs) : W p l e room_1 s m #[Value.ref b] below meth c s.heap [] 0 0 (lw_Z below #[Value.ref b] s) (entryFrame m ([Value.ref b] : List Value).toArray 7) := by
  obtain ⟨hx, hb, hr, hml, hown, hts, hXs, hbl, hlocks, hnm, hgv⟩ := id C0
  have hfg := flat_of_before _ hgv
  have hnA : ∀ a : Nat, a < s.heap.size → ¬ s.heap.size ≤ a := fun a h => Nat.not_le.mpr h
  have hsl : Cond.laysStatic "java/util/ArrayList" "DEFAULTCAPACITY_EMPTY_ELEMENTDATA" "[Ljava/lang/Object;" ∈ lw_tbl := tl 47 (by decide +kernel)
  have hl1 : Cond.laysStatic "java/lang/Throwable" "UNASSIGNED_STACK" "[Ljava/lang/StackTraceElement;" ∈ lw_tbl := tl 325 (by decide +kernel)
  have hl2 : Cond.laysStatic "java/lang/Throwable" "SUPPRESSED_SENTINEL" "Ljava/util/List;" ∈ lw_tbl := tl 327 (by decide +kernel)
  have hini : Cond.initialized "java/util/ArrayList" ∈ lw_tbl := tl 4 (by decide +kernel)
  have m1 : Cond.arrayOf (.static "java/util/ArrayList" "DEFAULTCAPACITY_EMPTY_ELEMENTDATA" "[Ljava/lang/Object;") (.object "java/lang/Object") ∈ flatC (Jvm.Cond.and given_1 narrow_1) := by decide +kernel
  have m2 : Cond.eq (.length (.static "java/util/ArrayList" "DEFAULTCAPACITY_EMPTY_ELEMENTDATA" "[Ljava/lang/Object;")) (.int 0) ∈ flatC (Jvm.Cond.and given_1 narrow_1) := by decide +kernel
  have m3 : Cond.isRef (.static "java/lang/Throwable" "UNASSIGNED_STACK" "[Ljava/lang/StackTraceElement;") ∈ flatC (Jvm.Cond.and given_1 narrow_1) := by decide +kernel
  have m4 : Cond.isRef (.static "java/lang/Throwable" "SUPPRESSED_SENTINEL" "Ljava/util/List;") ∈ flatC (Jvm.Cond.and given_1 narrow_1) := by decide +kernel
  have m5 : Cond.isRef (.mirror "[Ljava/lang/Object;") ∈ flatC (Jvm.Cond.and given_1 narrow_1) := by decide +kernel
  obtain ⟨z0, hz0, cz, hzc, hza, hzk, -, hzn, -, -⟩ := va_Tof (N := 0) (f := fun _ => .null) (A := fun q => s.heap.size ≤ q) (by decide) (hfg _ m1) (va_eqt (hfg _ m2)) (fun j hj => absurd hj (Nat.not_lt_zero j)) hnA
  have hZ0 : va_Z "java/util/ArrayList" "DEFAULTCAPACITY_EMPTY_ELEMENTDATA" "[Ljava/lang/Object;" (.ref z0) (fun q => s.heap.size ≤ q) s s.heap := va_Zof (hts _ hsl) (hts _ hini) hz0 hnA
  obtain ⟨scr, hs1, hs2, hs3, hs4, hs5⟩ := hXs
  have hbz : b ≠ z0 := by
    intro z
    subst z
    rw [hs1] at hzc
    cases hzc
    obtain ⟨-, k1, g1, c1, g2⟩ := hs2
    obtain ⟨-, k2, g3, c2, g4⟩ := hza
    rw [g1] at g3
    cases g3
    rw [g2] at g4
    cases g4
  -- the classes
  have htg : ∀ w ∈ Tg, w.before #[Value.ref b] s = true := fun w hw => hts w (List.mem_filter.mp hw).1
  have hKn : ∀ ci : Nat, ∃ y : ClassId × (Nat → Nat), ∀ q : vw_C, xcl[ci]? = some q → u_Kn s q.1 q.2.1 q.2.2 y.1 y.2 := by
    intro ci
    cases hq : xcl[ci]? with
    | none => exact ⟨(0, fun _ => 0), fun q h => by cases h⟩
    | some q =>
      obtain ⟨n, hn⟩ := xinst hq
      obtain ⟨cC, iS, h⟩ := u_known (C := q.1) (T := q.2.1) (N := q.2.2) (n := n) htg (xcls_ok ci q hq).2.1 (htg _ hn)
      exact ⟨(cC, iS), fun q' h' => by cases h'; exact h⟩
  obtain ⟨fD, hD⟩ := Classical.axiomOfChoice hKn
  have hK : va_K (fun ci => (fD ci).1, fun ci => (fD ci).2) xcl [] s := ⟨fun ci q hq => hD ci q hq, fun k q h => by cases h⟩
  -- the heap
  generalize hh : ((s.heap.size, 0, (fun a => if a = b then 15 else if a = z0 then 14 else 0), (fun a => if a = b then L else if a = z0 then cz.slots.size else 0), (fun _ _ => .null), (fun a i => if a = b then .int (xs i) else cz.slots.getD i .null), z0) : sm_H) = h
  have e1 : hT h = s.heap.size := by rw [← hh]; rfl
  have e2 : ∀ a, hC h a = if a = b then 15 else if a = z0 then 14 else 0 := fun a => by rw [← hh]; rfl
  have e3 : ∀ a, hL h a = if a = b then L else if a = z0 then cz.slots.size else 0 := fun a => by rw [← hh]; rfl
  have e4 : ∀ a i, hA h a i = if a = b then .int (xs i) else cz.slots.getD i .null := fun a i => by rw [← hh]; rfl
  have e5 : hZ h = z0 := by rw [← hh]; rfl
  have hR : sm_R (fun ci => (fD ci).1, fun ci => (fD ci).2) s.heap.size s h s.heap := by
    refine ⟨e1.symm, fun a q1 q2 => ?_, fun a ci q h1 h2 => ?_, fun a ty h1 h2 => ?_, fun a ty h1 h2 => ?_, ?_⟩
    · exfalso
      rw [e2] at q1 q2
      by_cases w : a = b
      · rw [if_pos w] at q2; exact q2 (Or.inr rfl)
      · rw [if_neg w] at q1 q2
        by_cases w2 : a = z0
        · rw [if_pos w2] at q2; exact q2 (Or.inl rfl)
        · rw [if_neg w2] at q1; exact q1 rfl
    · exfalso
      rw [e2] at h1
      split at h1
      · omega
      · split at h1 <;> omega
    · exfalso
      rw [e2] at h1 h2
      by_cases w : a = b
      · rw [if_pos w] at h1; exact h1 (Or.inr rfl)
      · rw [if_neg w] at h1 h2
        by_cases w2 : a = z0
        · rw [if_pos w2] at h1; exact h1 (Or.inl rfl)
        · rw [if_neg w2] at h2; cases h2
    · rw [e2] at h2
      by_cases w : a = b
      · rw [if_pos w] at h2
        cases h2
        subst w
        refine ⟨scr, hs1, hs2, hs3, by rw [hs4, e3, if_pos rfl], fun i hi => ?_⟩
        rw [e3, if_pos rfl] at hi
        rw [e4, if_pos rfl]
        exact hs5 i hi
      · rw [if_neg w] at h2
        by_cases w2 : a = z0
        · rw [if_pos w2] at h2
          cases h2
          subst w2
          refine ⟨cz, hzc, hza, hzk, by rw [e3, if_neg w, if_pos rfl], fun i hi => ?_⟩
          rw [e3, if_neg w, if_pos rfl] at hi
          rw [e4, if_neg w, Array.getD_eq_getD_getElem?, Array.getElem?_eq_getElem hi]
          rfl
        · rw [if_neg w2] at h2; cases h2
    · rw [e5]
      exact ⟨hZ0, sm_LSof (hts _ hl1) (hfg _ m3) hnA, sm_LSof (hts _ hl2) (hfg _ m4) hnA, fun a cell h1 h2 => absurd (Array.getElem?_eq_some_iff.mp h2).1 (Nat.not_lt.mpr h1)⟩
  have hXw : sm_X s := by
    refine ⟨fun e he => ?_, fun e he cA cB h1 h2 => ?_, va_Mi.of (hfg _ m5)⟩
    · obtain ⟨k1, k2⟩ := xsk_ok e he
      obtain ⟨a, c9, cA, kA, q1, -⟩ := Cond.exactly_spec (args := #[Value.ref b]) (first := s) (o := none) (s := s) (idx := []) (t := .string "BuildingText" e.1) (cls := "java/lang/String") (hfg _ k2)
      exact ⟨a, vk_R.of (hts _ k1) q1⟩
    · have := hfg _ (xnc_ok e he)
      simp only [Cond.before, Cond.holds, Cond.value, h1, h2] at this
      cases hq : s.vm.assignable cA cB with
      | false => rfl
      | true => simp [hq] at this
  have hnw : ∀ w ∈ NW, va_Nw w s := by
    intro w hw
    have h1 := hts w (List.mem_filter.mp hw).1
    have h2 := (List.mem_filter.mp hw).2
    unfold sm_isnw at h2
    split at h2
    · exact va_any rfl h1
    · exact va_any rfl h1
    · exact va_any rfl h1
    · exact va_any rfl h1
    · exact h1
    · cases h2
  obtain ⟨n, k, v, h', hrun, rfl, rfl, hb1, hb2⟩ := hok L xs h b hLe (by rw [e2, if_pos rfl]) (by rw [e3, if_pos rfl]) (fun i hi => by rw [e4, if_pos rfl]) (by rw [e5, e2, if_neg (Ne.symm hbz), if_pos rfl]) (by rw [e5, e3, if_neg (Ne.symm hbz), if_pos rfl]; exact hzn) (fun a ha => by
      rw [e2] at ha
      rw [e5]
      by_cases w : a = b
      · exact Or.inl w
      · rw [if_neg w] at ha
        by_cases w2 : a = z0
        · exact Or.inr w2
        · rw [if_neg w2] at ha; exact absurd rfl ha) (by rw [e1]; exact hbl) (by rw [e1, e5]; exact (Array.getElem?_eq_some_iff.mp hzc).1)
  have hin : sm_In Tg NW (fun ci => (fD ci).1, fun ci => (fD ci).2) s.heap.size 169 p s m #[Value.ref b] meth c := ⟨hx, hb, hml, hr, hlocks, hnm, hown, htg, hnw, hK, hXw, ⟨_, hR.2.2.2.2.2⟩, fun h => absurd h (by decide)⟩
  rw [lg_entry_eq]
  intro T eT X
  have hw := x_road (D := (fun ci => (fD ci).1, fun ci => (fD ci).2)) (base := s.heap.size) hfl n 169 0 _ [] h 0 _ h' hrun p e s m #[Value.ref b] below meth c s.heap [] 0 0 _ _ _ hin (sm_entry [.ref b] (n := 7) (Nat.le_of_ble_eq_true rfl)) hR (fun q hq => by cases hq) (by rw [e1]; exact Nat.le_refl _) (Nat.zero_add _) (Nat.zero_add _)
  obtain ⟨t, st, o, g1, g2, ⟨g3, -⟩, L9, ⟨g4, g5⟩, g6⟩ := hw T eT (sm_lessRoom X (Nat.le_of_ble_eq_true rfl) (by show hT h' - hT h ≤ 601024; omega) (by show hU h' - hU h ≤ 7293034; omega) (Nat.le_of_ble_eq_true rfl))
  have g3 : o = .returned (some (.int 1)) := g3
  refine ⟨t, st, o, g1, g2, g3, ⟨_, g3⟩, g4, ?_⟩
  exact g5.weaken (fun y hy hlt => absurd (g6 y hy) (Nat.not_le.mpr hlt)) (by omega) (by omega)
