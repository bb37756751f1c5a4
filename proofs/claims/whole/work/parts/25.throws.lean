/-! 'throw new E(text)': the state is taken as the start of a new account, so that nothing that stood in the heap is forgotten -/
theorem sm_eqCell {c c' : Cell} (h1 : c' = { c with slots := c'.slots }) (h2 : c'.slots.size = c.slots.size) (h3 : ∀ i : Nat, c'.slots[i]? = c.slots[i]?) : c' = c := by
  have e : c'.slots = c.slots := Array.ext_getElem? h3
  rw [h1, e]
section SMTH
variable {p : Program} {l : Launch} {e : Env} {R : Room} {s : State} {m : MethodId} {args : Array Value} {below : List Frame} {meth : Method} {c : Code} {T : State} {locs : List Loc} {cells slots : Nat}
theorem sm_rebase (X : Stand p l e R s m args below meth c T locs cells slots) (hc : cells ≤ R.cells) (hs : slots ≤ R.slots) :
    Stand p l e { frames := R.frames, cells := R.cells - cells, slots := R.slots - slots, locals := R.locals } (T.setFrames (.invoking m args :: below)) m args below meth c T [] 0 0 := by
  obtain ⟨g₀, hg₀⟩ := X.frames_eq
  obtain ⟨th, hth, -⟩ := State.frames_cons hg₀
  have hcur : T.cur < T.threads.size := (Array.getElem?_eq_some_iff.mp hth).1
  have hfr : (T.setFrames (.invoking m args :: below)).frames = .invoking m args :: below := State.frames_setFrames _ hcur
  have hmt : (T.setFrames (.invoking m args :: below)).vm.method? m = some meth := by
    show T.vm.method? m = some meth
    rw [X.warmed.alike.method?]
    exact X.method
  have hself : (T.setFrames (.invoking m args :: below)).setFrames T.frames = T := by
    rw [State.setFrames_setFrames]
    exact State.setFrames_self hth
  obtain ⟨th', hth', -⟩ := State.frames_cons hfr
  have hcur' : (T.setFrames (.invoking m args :: below)).cur < (T.setFrames (.invoking m args :: below)).threads.size := (Array.getElem?_eq_some_iff.mp hth').1
  have hsame := (State.sameButNew.refl (T.setFrames (.invoking m args :: below)) hth').setFrames T.frames hcur'
  rw [hself] at hsame
  refine ⟨X.admits, X.cas, X.clock, hfr, ?_, ?_, hmt, X.code, X.here, X.tail, State.WarmedH.refl (T.setFrames (.invoking m args :: below)), ?_, ?_, hsame⟩
  · have hr := X.room
    have hl1 := State.localsInUse_invoking X.frames X.method X.code
    have hl2 := State.localsInUse_invoking hfr hmt X.code
    have hlim : e.platform.stackLimits (T.setFrames (.invoking m args :: below)).me = e.platform.stackLimits s.me := by rw [State.stackLimits_setFrames, X.limits]
    have hbt : (T.setFrames (.invoking m args :: below)).me.stackBytes = s.me.stackBytes := by rw [State.stackBytes_setFrames, X.bytes]
    have hhs := X.heapSize
    have hus := X.used
    have hbk : (T.setFrames (.invoking m args :: below)).slotsTrue = true := X.book
    simp only [State.hasRoom, Bool.and_eq_true, decide_eq_true_eq] at hr ⊢
    rw [hl1, X.frames] at hr
    rw [hl2, hfr, hlim, hbt]
    obtain ⟨⟨⟨⟨r1, r2⟩, r3⟩, r4⟩, r5⟩ := hr
    refine ⟨⟨⟨⟨r1, r2⟩, ?_⟩, ?_⟩, hbk⟩
    · show T.heap.size + (R.cells - cells) ≤ _
      omega
    · show T.slotsUsed + (R.slots - slots) ≤ _
      omega
  · have hh := X.hears
    have hcd : ∀ x, (T.setFrames (.invoking m args :: below)).code? x = s.code? x := fun x => by
      rw [State.code?_eq, State.code?_eq]
      show (T.vm.method? x).bind _ = _
      rw [X.warmed.alike.method?]
    unfold State.hears at hh ⊢
    split at hh
    · rw [hcd]; exact hh
    · rfl
    · rfl
    · show (T.vm.method? m).any _ = true
      rw [X.warmed.alike.method?]
      exact hh
  · rw [State.stackLimits_setFrames]
  · rw [State.stackBytes_setFrames]
/-- what comes of it, told of the true start -/
theorem sm_rebased (X : Stand p l e R s m args below meth c T locs cells slots) {U : State} {k n : Nat} (hW : (T.setFrames (.invoking m args :: below)).WarmedH U.vm) (h : (T.setFrames (.invoking m args :: below)).sameButNew ({ U with vm := (T.setFrames (.invoking m args :: below)).vm } : State) [] k n) :
    s.WarmedH U.vm ∧ s.sameButNew ({ U with vm := s.vm } : State) locs (cells + k) (slots + n) := by
  refine ⟨State.WarmedH.trans X.warmed hW, ?_⟩
  have h1 : T.sameButNew ({ U with vm := T.vm } : State) [] k n := by
    obtain ⟨e2, q2⟩ := h
    rw [State.setFrames_setFrames] at e2
    exact ⟨e2, q2⟩
  have h2 := X.same.trans (h1.setVm s.vm)
  rw [List.append_nil] at h2
  exact h2
end SMTH
theorem xsite {j pc x ci : Nat} (h : xat j pc = some (.new x, ci, 1)) : ∃ e ∈ xts, e.1 = j ∧ e.2.1 = pc ∧ decode (xcc j) pc = .ok (.new x, 3) ∧ xlk xlC (xow j) x = some (ci, 1) := by
  unfold xat at h
  split at h
  · rename_i i len hd
    split at h
    · rename_i hl
      split at h
      · rename_i d' hx
        cases h
        replace hx : (match xlk xlC (xow j) x with
          | some d => xif (decide (d.2 = 0) || (xtf j pc).isSome) (some d)
          | none => none) = some (ci, 1) := hx
        split at hx
        · rename_i d hd'
          obtain ⟨h1, h2⟩ := xif_some hx
          cases h2
          have h3 : (xtf j pc).isSome = true := by simpa using h1
          obtain ⟨e, he⟩ := Option.isSome_iff_exists.mp h3
          have hm := List.mem_of_find?_eq_some he
          have hp := List.find?_some he
          simp only [Bool.and_eq_true, decide_eq_true_eq] at hp
          have hlen : len = 3 := by
            rcases hl with q | q
            · cases q
            · exact q
          subst hlen
          exact ⟨e, hm, hp.1, hp.2, hd, hd'⟩
        · cases hx
      · cases h
    · cases h
  · cases h
theorem sm_LS.words {C n d : String} {A : Nat → Prop} {s : State} {H : Heap} (h : sm_LS C n d A s H) {args : Array Value} (hH : s.heap = H) : (Cond.laysStatic C n d).before args s = true ∧ (Cond.isRef (.static C n d)).before args s = true := by
  obtain ⟨c, k, i, f, a, cell, h0, h1, h2, h3, h4, h5, h6, h7, h8, h9, h10⟩ := h
  subst hH
  refine ⟨Cond.laysStatic_of h0 h1 h2 h3 h4 h5 h6 h7 h8, ?_⟩
  have he : (Term.static C n d).eval args s none [] s = cell.slots[f.slot]? := by
    simp [Term.eval, State.fieldNamed?, h1, h2, h3, h4, h5]
  rcases h9 with h9 | ⟨q, h9⟩
  · simp [Cond.before, Cond.holds, Cond.value, he, h9]
  · simp [Cond.before, Cond.holds, Cond.value, he, h9]
set_option maxHeartbeats 1000000 in
theorem xthrows {l : Launch} {D : va_G} {base : Nat} (hl : l.flags = pinnedFlags ++ [noTraceFlag]) : sm_throws l Tg NW D base := by
  intro j x pc ci mc ms h p e s m args below meth c H locs cells slots ls hin hsz hR hf hb0 hx hmc hms
  obtain ⟨hexec, hb, hml, hret, hlocks, hmn, hown, hts, hnw, hK, hX, -, hexT⟩ := id hin
  obtain ⟨te, hte, rfl, rfl, hdg, hlk⟩ := xsite hx
  obtain ⟨x', ci', tx, d0, d1, d2, d3, d4, d5, d6, d7, d8, d9, d10, d11, d12⟩ := xts_ok te hte
  rw [hdg] at d0
  cases d0
  rw [d7, d1] at hlk
  cases hlk
  obtain ⟨q, hq, hq0, hfit, hins, hini, hat⟩ := d12
  obtain ⟨ql, hl1, hl2⟩ := xlk_mem d1
  obtain ⟨q', k1, k2, -⟩ := xlC_ok _ ql hl1 _ hl2
  cases hq.symm.trans k1
  have hcls : (xmn te.1).cls = "BuildingText" := by
    show xon (xow te.1) = _
    rw [d7]
    rfl
  rw [hcls] at hown
  intro T eT X
  have hc1 : cells ≤ mc := by omega
  have hs1 : slots ≤ ms := by omega
  have X' := sm_rebase X hc1 hs1
  generalize hs' : T.setFrames (.invoking m args :: below) = s' at X'
  have hvm : s'.vm = T.vm := by rw [← hs']; rfl
  have hheap : s'.heap = H := by rw [← hs', ← eT]; rfl
  have hW : s.WarmedH s'.vm := by rw [hvm]; exact X.warmed
  have hts' : ∀ w ∈ Tg, ∀ a, w.before a s' = true := fun w hw a => word_at hW (xst.2.1 w hw) (hts w hw)
  have hnw' : ∀ w ∈ NW, va_Nw w s' := fun w hw => (xst.2.2.1 w hw).2 s s' hW (hnw w hw)
  have hX' := hX.warm hW
  have hK' : va_K D xcl [] s' := hK.moved hW.alike
  have hown' : s'.vm.findClass "BuildingText" = some m.cls := by rw [hW.alike.findClass]; exact hown
  have hR' := hR.moved hW.alike
  have hKn := hK'.1 ci q hq
  obtain ⟨qs, hqs⟩ := hX'.1 _ d6
  have hgo : W p l e { frames := (sm_rm te.1 mc ms).frames, cells := (sm_rm te.1 mc ms).cells - cells, slots := (sm_rm te.1 mc ms).slots - slots, locals := (sm_rm te.1 mc ms).locals } s' m args below meth c H [] 0 0
      (fun U => U.status = .running ∧ Ended U below (.threw (hT h)) ∧ s'.WarmedH U.vm ∧ s'.sameButNew ({ U with vm := s'.vm } : State) [] 1 6 ∧ ∃ ce, U.heap[hT h]? = some ce ∧ s'.vm.findClass q.1 = some ce.cls ∧ ce.vm = .none) (F0 m te.2.1 ls []) := by
    refine W.newcK hexec hb hown' (hts' _ k2 _) (hts' _ hins _) (hts' _ hini _) rfl hdg (by show 0 + 1 ≤ mc - cells; omega) (by show 0 + 6 ≤ ms - slots; omega) hKn.2.1 hR.1 fun H1 kC hkC e1 e2 e3 => ?_
    refine lv_dup (pc := te.2.1 + 3) (rest := []) hexec hb d2 rfl ?_
    refine va_ldcS (pc := te.2.1 + 3 + 1) hexec hb hown' hqs d3 ?_
    intro T1 hT1 X1
    have htr := Launch.traces_off hl X.admits
    have hZs := hR'.2.2.2.2.2
    have hatoms : ∀ a ∈ Bundle.ownAtoms "BuildingText" te.2.2.2 q.1 ["java/lang/RuntimeException", "java/lang/Exception"], a.before args s' = true := by
      intro a ha
      rcases hat a ha with z | z | z | z | z | z
      · exact hts' a z args
      · have z2 := hnw' a z
        have z3 := (List.mem_filter.mp z).2
        unfold sm_isnw at z3
        split at z3
        · exact va_any rfl z2
        · exact va_any rfl z2
        · exact va_any rfl z2
        · exact va_any rfl z2
        · exact z2
        · cases z3
      · rw [z]; exact (hZs.2.1.words hheap).1
      · rw [z]; exact (hZs.2.2.1.words hheap).1
      · rw [z]; exact (hZs.2.1.words hheap).2
      · rw [z]; exact (hZs.2.2.1.words hheap).2
    obtain ⟨U, st, hrun, hend, hWU, hsame, ce, hce, hO⟩ := X1.ctorThrowS hexec htr (own := "BuildingText") (cls := q.1) (names := ["java/lang/RuntimeException", "java/lang/Exception"]) (ic := te.2.2.2) hown' hfit (by decide +kernel) hatoms (fun y hy => by cases hy) (a := hT h) (cX := D.1 ci) (kX := kC) hKn.2.1 hkC (by rw [hT1]; exact e1) (by rw [hheap, hR.1]; exact Nat.le_refl _)
      (msg := .ref qs) rfl (g := F0 m (te.2.1 + 3 + 1 + 2) ls [.ref qs, .ref (hT h), .ref (hT h)]) rfl (hsz.trans hml.symm) rfl rfl (rest := []) rfl (by rw [hb]; exact d4) (by rw [hb]; exact d5)
      (by
        have h0 := hexT d9
        rw [d8] at h0
        have h1 : c.exceptionTable.toList = [] := List.map_eq_nil_iff.mp h0
        rw [h1]
        intro y hy
        cases hy) (by show 2 + 3 < xrk te.1; omega) (by show 2 * 0 + (1 + 0) + (13 * (2 + 1) + 42) ≤ xrl te.1; omega) hlocks
    exact ⟨U, st, hrun, hend, hWU, hsame, ce, hce, hO.cls, hO.vm⟩
  obtain ⟨U, st, hrun, hend, hWU, hsame, ce, hce, hcc, hvn⟩ := hgo T eT X'
  refine ⟨U, st, .threw (hT h), hrun, hend, ⟨⟨_, rfl, rfl⟩, ?_⟩, locs, ?_, hf⟩
  · have hRU := hR'.moved hWU.alike
    obtain ⟨-, z2, z3, -, -, z6⟩ := hsame
    replace z2 : s'.heap.size ≤ U.heap.size := z2
    replace z3 : U.heap.size ≤ s'.heap.size + 1 := z3
    rw [hheap, hR.1] at z2 z3
    have hlt : hT h < U.heap.size := (Array.getElem?_eq_some_iff.mp hce).1
    refine hRU.mkO (ci := ci) (n := 6) (dv := fun _ => .null) hb0 hq ⟨ce, hce, ?_, hvn, fun k hk => absurd hk (by omega)⟩ (by omega) (fun y hy => ?_)
    · have h9 := hKn.2.1
      rw [hcc] at h9
      exact Option.some.inj h9
    · have hyl : y < H.size := by rw [hR.1]; exact hy
      obtain ⟨c', w1, w2, w3, w4⟩ := z6 y H[y] (by rw [hheap]; exact Array.getElem?_eq_getElem hyl)
      have w1 : U.heap[y]? = some c' := w1
      rw [w1, Array.getElem?_eq_getElem hyl, sm_eqCell w2 w3 (fun i => w4 i (by intro q; cases q))]
  · rw [← hs'] at hWU hsame
    have := sm_rebased X hWU hsame
    rw [hmc, hms] at this
    exact this
