/-! a call that throws, and is caught -/
theorem sm_thrown : ∀ (n j pc : Nat) (L S : List Value) (h : sm_H) (k : Nat) (v : Option Value) (h' : sm_H), sm_run n j pc L S h = some (k + 1, v, h') → ∃ a, v = some (.ref a) ∧ hC h' a = 16 + k
  | 0, j, pc, L, S, h, k, v, h', r => by cases r
  | n + 1, j, pc, L, S, h, k, v, h', r => by
    have ih := sm_thrown n
    unfold sm_run at r
    split at r
    · cases r
    · split at r
      · cases r; exact ⟨_, rfl, if_pos rfl⟩
      split at r
      · exact ih _ _ _ _ _ _ _ _ r
      · split at r
        · rename_i C t f S' _
          by_cases hC : C
          · rw [if_pos hC] at r; exact ih _ _ _ _ _ _ _ _ r
          · rw [if_neg hC] at r; exact ih _ _ _ _ _ _ _ _ r
        · split at r
          · exact ih _ _ _ _ _ _ _ _ r
          · split at r
            · exact ih _ _ _ _ _ _ _ _ r
            · split at r
              · cases r
              · split at r
                · exact ih _ _ _ _ _ _ _ _ r
                · split at r
                  · exact ih _ _ _ _ _ _ _ _ r
                  · split at r
                    · exact ih _ _ _ _ _ _ _ _ r
                    · split at r
                      · split at r
                        · exact ih _ _ _ _ _ _ _ _ r
                        · split at r
                          · exact ih _ _ _ _ _ _ _ _ r
                          · cases r
                        · cases r
                      · cases r
section SMK
variable {E : CtlPost} {e : Env} {d : Bool} {acts : List Action} {U : State} {f : JFrame} {a : Addr} {Q : Handler → Pre}
/-- one entry that covers the place: its class is resolved, or is resolved now -/
theorem sm_go_cold {x : ExceptionTableEntry} {t : List ExceptionTableEntry} {cc : ClassId} {cell : Cell} (hx : covers x f.pc = true) (h0 : x.catchType ≠ 0) (hcl : U.vm.ClassLinks e.platform f.method.cls x.catchType cc) (hcell : U.heap[a]? = some cell) (hobj : ∀ k, cell.vm ≠ .statics k)
    (hk : ∃ k, (U.vm.noted f.method.cls x.catchType (.cls cc)).classes[cell.cls]? = some k) (hc : ∃ k, (U.vm.noted f.method.cls x.catchType (.cls cc)).classes[cc]? = some k) :
    wp (findHandler.go f a (x :: t)) Q E e d acts U ↔
      if (U.vm.noted f.method.cls x.catchType (.cls cc)).assignable cell.cls cc = true then Q (.found x.handlerPc) d acts (U.setVm (U.vm.noted f.method.cls x.catchType (.cls cc))) else wp (findHandler.go f a t) Q E e d acts (U.setVm (U.vm.noted f.method.cls x.catchType (.cls cc))) := by
  simp only [covers] at hx
  have hg := resolveClass_links e.toSetting hcl
  obtain ⟨ha, ht⟩ := hg.op (op := VmOp.resolveClass f.method.cls x.catchType) rfl
  have hsz : (U.vm.noted f.method.cls x.catchType (.cls cc)).classes.size ≤ U.vm.classes.size := by no_record
  generalize U.vm.noted f.method.cls x.catchType (.cls cc) = vm2 at *
  cases hfit : vm2.assignable cell.cls cc <;>
    simp [findHandler.go, hx, h0, ha, ht, hsz, hcell, hobj, hk, hc, hfit, VmOp.dirties, VmOp.acts]
theorem sm_catch_step {r : List Frame} {pc : Nat} {vm2 : Vm} (hfind : ∀ (Q : Handler → Pre) (E : CtlPost) (d : Bool) (acts : List Action), wp (findHandler f a) Q E e d acts U ↔ Q (.found pc) d acts (U.setVm vm2)) :
    (stepThrowing e U a (.java f :: r)).Is ((U.setVm vm2).setFrames (.java { f with pc := pc, stack := [.ref a] } :: r)) [] := by
  simp only [stepThrowing, searchFrame, vmDo]
  generalize hr : Sem.go _ e false [] U = res
  obtain ⟨as, rfl, ha⟩ := Sem.eq_ok_of hr (a := Handler.found pc) (s' := U.setVm vm2) (acts' := []) (by simp [hfind _ _ _ _])
  exact ⟨rfl, ha⟩
theorem sm_caught {tb : Tables} {T target : State} {g : JFrame} {c : Code} {below : List Frame} (h : At T g.method c below) {pc : Nat} {vm2 : Vm} (hfind : ∀ (Q : Handler → Pre) (E : CtlPost) (d : Bool) (acts : List Action), wp (findHandler g a) Q E e d acts ((T.setTop g).pushFrame (.throwing a)) ↔ Q (.found pc) d acts (((T.setTop g).pushFrame (.throwing a)).setVm vm2))
    (hrest : Steps tb e below ((T.setVm vm2).setTop { g with pc := pc, stack := [.ref a] }) target) : Steps tb e below ((T.setTop g).pushFrame (.throwing a)) target := by
  obtain ⟨hgo, hw⟩ := h.throwing a
  refine Steps.head hgo hw ?_
  rw [stepThread_throwing (frames_entered h.top _), (sm_catch_step (U := (T.setTop g).pushFrame (.throwing a)) hfind).1]
  obtain ⟨g₀, hg⟩ := Option.isSome_iff_exists.mp h.top
  obtain ⟨r, hr⟩ := State.topJava?_eq_some.mp hg
  have hr2 : (T.setVm vm2).frames = .java g₀ :: r := hr
  have e1 : (((T.setTop g).pushFrame (.throwing a)).setVm vm2).setFrames (.java { g with pc := pc, stack := [.ref a] } :: T.frames.tail) = (T.setVm vm2).setTop { g with pc := pc, stack := [.ref a] } := by
    rw [State.setTop_of_frames _ hr2, hr]
    show ((((T.setTop g).pushFrame (.throwing a)).setFrames _).setVm vm2) = ((T.setFrames _).setVm vm2)
    rw [State.pushFrame, State.setFrames_setFrames, State.setTop_of_frames _ hr, State.setFrames_setFrames]
    rfl
  rw [e1]
  exact hrest
end SMK
/-- the search through a catching method's table -/
theorem sm_search {s U : State} {e : Env} {f : JFrame} {a k : Nat} {cell : Cell} {args : Array Value} {D : va_G} (hpl : e.platform.magicAccessors = ({} : Platform).magicAccessors) (hown : s.vm.findClass "BuildingTextLaw" = some f.method.cls) (hts : ∀ w ∈ Tg, w.before args s = true) (hK : va_K D xcl [] s) (hX : sm_X s) (hcell : U.heap[a]? = some cell) (hobj : cell.vm = .none) {qk : vw_C} (hqk : xcl[k]? = some qk) (hcc : cell.cls = D.1 k) :
    ∀ (es : List ExceptionTableEntry) (ex hd : List (Nat × Nat × Nat × Nat)) (he : Nat × Nat × Nat × Nat), es.map (fun h => (h.startPc, h.endPc, h.handlerPc, h.catchType)) = ex → sm_ents ex hd → hd.find? (fun e => decide (e.1 ≤ f.pc) && decide (f.pc < e.2.1) && decide (e.2.2.2 = k)) = some he → ∀ vm : Vm, s.WarmedH vm →
      ∃ vm', s.WarmedH vm' ∧ ∀ (Q : Handler → Pre) (E : CtlPost) (d : Bool) (acts : List Action), wp (findHandler.go f a es) Q E e d acts (U.setVm vm) ↔ Q (.found he.2.2.1) d acts (U.setVm vm')
  | [], ex, hd, he, h1, h2, h3, vm0, hW => by
    cases h1
    cases hd with
    | nil => cases h3
    | cons _ _ => exact absurd h2 id
  | x :: es, ex, hd, he, h1, h2, h3, vm0, hW => by
    cases h1
    cases hd with
    | nil => exact absurd h2 id
    | cons f0 fs =>
      obtain ⟨⟨a1, a2, a3, a4, q, a5, a6⟩, hp, h2⟩ := h2
      dsimp only at a1 a2 a3 a4 a6
      by_cases hcv : covers x f.pc = true
      · obtain ⟨cc, hcc', hcl⟩ := Cond.classLink_spec hown (hts _ a6) e.platform hpl
        have hcl2 := hW.classLinks hcl
        obtain ⟨dk, _, _, kt, hdk, _, _, _, _, hkt, _, hopen⟩ := hcl.here
        have hW2 : s.WarmedH (vm0.noted f.method.cls x.catchType (.cls cc)) := hW.noted hdk hopen (State.rightAt_cls hcl)
        have hKk := (hK.1 k qk hqk).2.1
        obtain ⟨ks, hks, -⟩ := Vm.findClass_spec hKk
        obtain ⟨ks', hks', -⟩ := hW2.alike.2.2 _ _ hks
        obtain ⟨kt', hkt', -⟩ := hW2.alike.2.2 _ _ hkt
        have hgo := fun (Q : Handler → Pre) (E : CtlPost) (d : Bool) (acts : List Action) => sm_go_cold (U := U.setVm vm0) (f := f) (a := a) (e := e) (E := E) (d := d) (acts := acts) (Q := Q) (t := es) (cell := cell) hcv a4 hcl2 hcell (fun z => by rw [hobj]; exact fun w => by cases w) ⟨ks', by rw [hcc]; exact hks'⟩ ⟨kt', hkt'⟩
        by_cases hk : f0.2.2.2 = k
        · have hfe : he = f0 := by
            rw [List.find?_cons] at h3
            have hc1 : (decide (f0.1 ≤ f.pc) && decide (f.pc < f0.2.1) && decide (f0.2.2.2 = k)) = true := by
              simp only [covers, Bool.and_eq_true, decide_eq_true_eq] at hcv ⊢
              rw [← a1, ← a2]
              exact ⟨hcv, hk⟩
            rw [hc1] at h3
            exact (Option.some.inj h3).symm
          subst hfe
          refine ⟨_, hW2, fun Q E d acts => (hgo Q E d acts).trans ?_⟩
          have hqq : q = qk := by
            rw [hk, hqk] at a5
            exact (Option.some.inj a5).symm
          subst hqq
          have hcd : cc = D.1 k := Option.some.inj (hcc'.symm.trans hKk)
          have hasg : (vm0.noted f.method.cls x.catchType (.cls cc)).assignable cell.cls cc = true := by rw [hcc, hcd]; exact va_asg _ _
          rw [a3]
          exact iff_of_eq (if_pos hasg)
        · have h3' : fs.find? (fun e => decide (e.1 ≤ f.pc) && decide (f.pc < e.2.1) && decide (e.2.2.2 = k)) = some he := by
            rw [List.find?_cons] at h3
            have hc1 : (decide (f0.1 ≤ f.pc) && decide (f.pc < f0.2.1) && decide (f0.2.2.2 = k)) = false := by
              rw [decide_eq_false hk, Bool.and_false]
            rw [hc1] at h3
            exact h3
          have hmem := List.mem_of_find?_eq_some h3'
          have hpr := List.find?_some h3'
          simp only [Bool.and_eq_true, decide_eq_true_eq] at hpr
          have hpair := hp he hmem
          have n1 : xcn he.2.2.2 = qk.1 := by unfold xcn; rw [hpr.2, hqk]
          have n2 : xcn f0.2.2.2 = q.1 := by unfold xcn; rw [a5]
          rw [n1, n2] at hpair
          have hno := hX.2.1 _ hpair _ _ hKk hcc'
          obtain ⟨vm', g1, g2⟩ := sm_search hpl hown hts hK hX hcell hobj hqk hcc es _ fs he rfl h2 h3' (vm0.noted f.method.cls x.catchType (.cls cc)) hW2
          refine ⟨vm', g1, fun Q E d acts => (hgo Q E d acts).trans ?_⟩
          have hasg : ¬ (vm0.noted f.method.cls x.catchType (.cls cc)).assignable cell.cls cc = true := by
            rw [hW2.alike.assignable, hcc, hno]
            decide
          exact (iff_of_eq (if_neg hasg)).trans (g2 Q E d acts)
      · have hcf : covers x f.pc = false := by simpa using hcv
        have h3' : fs.find? (fun e => decide (e.1 ≤ f.pc) && decide (f.pc < e.2.1) && decide (e.2.2.2 = k)) = some he := by
          rw [List.find?_cons] at h3
          have hc1 : (decide (f0.1 ≤ f.pc) && decide (f.pc < f0.2.1) && decide (f0.2.2.2 = k)) = false := by
            simp only [covers] at hcf
            rw [← a1, ← a2, hcf, Bool.false_and]
          rw [hc1] at h3
          exact h3
        obtain ⟨vm', g1, g2⟩ := sm_search hpl hown hts hK hX hcell hobj hqk hcc es _ fs he rfl h2 h3' vm0 hW
        exact ⟨vm', g1, fun Q E d acts => (W.findHandler_go_skip hcf).trans (g2 Q E d acts)⟩
set_option maxHeartbeats 1000000 in
theorem xcatches {l : Launch} {D : va_G} {base : Nat} : sm_catches l Tg NW D base := by
  intro n hrd j j' pc k a hp mc ms i d S As r h h1 p e s m args below meth c H locs cells slots ls Q hin hsz hR hf hb0 hx hcl hrun hhd q1 q2 go
  obtain ⟨hexec, hb, hml, hret, hlocks, hmn, hown, hts, hnw, hK, hX, -, hexT⟩ := id hin
  obtain ⟨x, rfl, hhd⟩ : ∃ x, i = .invokevirtual x ∧ xhd j pc k = some hp := by
    unfold xhi at hhd
    split at hhd
    · exact ⟨_, rfl, hhd⟩
    · cases hhd
  replace hhd : xhd j pc k = some hp := hhd
  unfold xhd at hhd
  obtain ⟨he, hfd, hhp⟩ := Option.map_eq_some_iff.mp hhd
  have hne : xhds.getD j [] ≠ [] := fun z => by rw [z] at hfd; cases hfd
  have hk4 := xhd_kd j hne
  obtain ⟨hents, how⟩ := xe_ok j hk4
  obtain ⟨⟨len, hdg, hlen⟩, -, -, -, hc⟩ := xst.2.2.2 j pc _ d hx
  rw [hlen rfl] at hdg
  obtain ⟨c1, cm, c2, c3, ⟨q, hq1, hq2⟩, -⟩ := hc
  have hcls : (xmn j).cls = "BuildingTextLaw" := by
    show xon (xow j) = _
    rw [how]
    rfl
  rw [hcls] at hown
  have hlink : Cond.methodLink "BuildingTextLaw" x (xmn d.1) ∈ Tg := by
    unfold xat at hx
    split at hx
    · split at hx
      · split at hx
        · rename_i d' hxr
          cases hx
          replace hxr : (match xlk xlM (xow j) x with
            | some d => xif (decide (d.2 < 2) && decide (xkd d.1 = 0) && xroom j d.1) (some d)
            | none => none) = some d := hxr
          split at hxr
          · rename_i d2 hd'
            obtain ⟨k1, k2⟩ := xif_some hxr
            cases k2
            simp only [Bool.and_eq_true, decide_eq_true_eq] at k1
            rw [how] at hd'
            obtain ⟨ql, w1, w2⟩ := xlk_mem hd'
            cases w1
            exact xl14 _ w2 k1.1.1
          · cases hxr
        · cases hx
      · cases hx
    · cases hx
  unfold sm_cl at hcl
  dsimp only at hcl
  split at hcl
  · rename_i b r2 hdrop
    split at hcl
    · rename_i hq
      cases hcl
      have hn : (S.take (xna d.1)).reverse.length = xna d.1 := by rw [List.length_reverse, List.length_take]; omega
      have hsk : S = (S.take (xna d.1)).reverse.reverse ++ .ref b :: r := by rw [List.reverse_reverse, ← hdrop, List.take_append_drop]
      generalize hAs : (S.take (xna d.1)).reverse = As at *
      obtain ⟨cellB, kb1, kb2, kb3, -⟩ := hR.2.2.1 b _ q hq.2.1 hq1
      have hfc : s.vm.findClass (xmn d.1).cls = some cellB.cls := by rw [kb2, ← hq2]; exact (hK.1 _ q hq1).2.1
      intro T eT X
      obtain ⟨mk, methM, hnamed, hmethM, hstM, habM⟩ := Cond.instanceMethod_spec (hts _ c2)
      obtain ⟨methM', cM, hmethM', hcM, -, hlM, -, -, -, hsigM⟩ := Cond.code_spec hnamed (hts _ cm.1)
      cases hmethM.symm.trans hmethM'
      obtain ⟨c9, r9, m9, z1, z2, z3, z4, kP, hkP, hkPi⟩ := Cond.selects_spec (hts _ c3)
      cases hfc.symm.trans z1
      cases (State.methodFound?_of_named hnamed ⟨cm.2.2.1, cm.2.2.2.1⟩).symm.trans z2
      cases hnamed.symm.trans z3
      have hselP : selectMethod e.platform s.vm cellB.cls mk = .method mk := by rw [Launch.admits_selectMethod X.admits]; exact z4
      have hpl : As.length = methM.sig.parameters.length := by
        have h2 := cm.2.2.2.2.1
        rw [hsigM] at h2
        rw [hn]
        exact (Option.some.inj h2).symm
      obtain ⟨vm₁, X₁, hstep₁⟩ := X.invokevirtual hexec hown (hts _ hlink) hnamed hmethM hstM hkP hkPi ⟨cm.2.2.1, cm.2.2.2.1⟩ (a := b) (cell := cellB) (by rw [eT]; exact kb1)
        (fun z hz => by rw [kb3] at hz; cases hz) hselP hmethM habM hkP hkPi (g := F0 m pc ls S) rfl (argsL := As) (rest := r) hpl hsk (by rw [hb]; exact hdg)
      have hM : MetFree l (xmn d.1) (headSpec (xws Tg d.1) (sm_rm d.1 (hT h1 - hT h) (hU h1 - hU h))) (sm_Pc D base NW (.ref b :: As) h) (fun _ _ _ _ _ => True) (fun a0 st o t => (o = .threw a ∧ sm_R D base t h1 t.heap) ∧ ∃ L, sm_FE st t L (hT h1 - hT h) (hU h1 - hU h) ∧ ∀ q ∈ L, base ≤ q.base) := by
        refine MetFree.of_bodyS (code := xcc d.1) (maxLocals := xml d.1) (ret := xrt d.1) cm.2.1 ?_ ?_
        · intro args s m hpre hnm
          obtain ⟨meth, c, g1, g2, g3, g4, g5, g6, -⟩ := Cond.code_spec hnm (atoms_spec (ws := xws Tg d.1) hpre _ List.mem_cons_self)
          exact ⟨meth, c, g1, g2, g3, g4, g5, g6⟩
        · intro p e s m args below meth c s₁ B hml hv _
          obtain ⟨rfl, hR, hK, hnw, hX⟩ := hv
          have hts := atoms_spec (ws := xws Tg d.1) B.pre
          have hin : sm_In Tg NW D base d.1 p s m (Value.ref b :: As).toArray meth c := ⟨B.exec, B.bytes, hml, B.returns, B.notSynchronized, (name_of_methodNamed B.named B.method).1, findClass_of_methodNamed B.named, fun w hw => hts w (List.mem_cons_of_mem _ hw), hnw, hK, hX, ⟨_, hR.2.2.2.2.2⟩, fun _ => by rw [sm_noex B (hts _ List.mem_cons_self), cm.2.2.2.2.2.2]; rfl⟩
          have hw := hrd d.1 0 _ [] h (k + 1) (some (.ref a)) h1 hrun p e s m (Value.ref b :: As).toArray below meth c s.heap [] 0 0 _ _ _ hin (sm_entry (.ref b :: As) hq.2.2.2) hR (fun q hq => by cases hq) hb0 (Nat.zero_add _) (Nat.zero_add _)
          have hh0 : s₁.heap = s.heap := by rw [B.state]; rfl
          obtain ⟨t, st, o, g1, g2, ⟨⟨a', g3, g4⟩, g5⟩, L, g6, g7⟩ := hw s₁ hh0 (Stand.of_body B)
          cases g3
          rw [lg_entry_eq]
          exact ⟨t, o, st, g1, g2, ⟨g4, g5⟩, L, g6, g7⟩
      have hnm₁ : (T.setVm vm₁).methodNamed? (xmn d.1) = some mk := X₁.named hnamed
      obtain ⟨kY, hkY, -⟩ := className_of_methodNamed hnm₁
      have hgd : ∀ w ∈ xws Tg d.1, w ∈ Tg ∧ sm_good w := by
        intro w hw
        have hw' : w ∈ Tg := sm_inX cm.1 w hw
        exact ⟨hw', xst.2.1 w hw'⟩
      have hwords := pay_in hts hgd
      have hinitY : kY.init = .initialized := Cond.initialized_spec (findClass_of_methodNamed hnm₁) hkY (hwords _ (List.mem_cons_of_mem _ cm.2.2.2.2.2.1) #[] (T.setVm vm₁) X₁.warmed)
      have hmY : (T.setVm vm₁).vm.method? mk = some methM := by
        rw [X₁.warmed.alike.method?]
        exact hmethM
      have hat : At (T.setVm vm₁) (F0 m pc ls r).method c below := X₁.here
      have happ : (headSpec (xws Tg d.1) (sm_rm d.1 (hT h1 - hT h) (hU h1 - hU h))).appliesLoose (xmn d.1) e.platform ((T.setVm vm₁).calling (F0 m pc ls r) mk (Value.ref b :: As).toArray) = true :=
        Spec.appliesLoose_calling (g := F0 m pc ls r) hat (by rw [hb]; exact hdg) hnm₁ hkY hinitY
          (X₁.room_calling (g := F0 m pc ls r) (R' := sm_rm d.1 (hT h1 - hT h) (hU h1 - hU h)) (hsz.trans hml.symm) hmY hcM c1.1 (by rw [hlM]; have c12 := c1.2; have c13 := hq.2.2.1; show 2 * 0 + (r.map fun v => v.category).sum + (xml d.1 + 11) + xrl d.1 ≤ xrl j; omega) q1 q2)
          (atoms_intro fun w hw => hwords w hw _ _ X₁.warmed)
      obtain ⟨mid, hmid⟩ := hat.above
      have hfr : ((T.setVm vm₁).setTop (F0 m pc ls r)).frames = (.java (F0 m pc ls r) :: mid) ++ below := by rw [State.frames_setTop' _ hat.top, hmid]; rfl
      obtain ⟨o, s₂, hsteps, -, hend, ⟨ho, hR1⟩, L, hfe, hL⟩ := Steps.callFree hM p X.admits X.cas X.clock (acts := []) hfr happ ((sm_Pc_blind xst.2.2.1) _ _ _ _ (sm_Pc_at xst.2.2.1 hR hK hnw hX (T.setVm vm₁) eT X₁.warmed)) trivial
      subst ho
      have htl : (T.setVm vm₁).frames.tail = below := X₁.tail
      rw [State.frames_setTop' _ hat.top, htl] at hend
      obtain ⟨T', X', hWT, -, ht⟩ := X₁.outOfThrown (g := F0 m pc ls r) rfl hend hfe.1 hfe.2
      have hheap : s₂.heap = T'.heap := by rw [ht]; exact Stand.throwing_heap _ _ _
      have hvm : s₂.vm = T'.vm := by rw [ht]; exact Stand.throwing_vm _ _ _
      have hRs : sm_R D base s h1 T'.heap := by
        rw [← hheap]
        refine hR1.moved ?_
        rw [hvm]
        exact X'.warmed.alike.symm
      obtain ⟨a', ea, hka⟩ := sm_thrown n d.1 0 _ [] h k _ h1 hrun
      cases ea
      have hlk : he.2.2.2 = k := by
        have := List.find?_some hfd
        simp only [Bool.and_eq_true, decide_eq_true_eq] at this
        exact this.2
      obtain ⟨qk, hqk⟩ : ∃ qk, xcl[k]? = some qk := by
        have hmem := List.mem_of_find?_eq_some hfd
        have : ∀ (ex hd : List (Nat × Nat × Nat × Nat)), sm_ents ex hd → ∀ e ∈ hd, ∃ q, xcl[e.2.2.2]? = some q := by
          intro ex hd
          induction hd generalizing ex with
          | nil => intro _ e he; cases he
          | cons f0 fs ih =>
            intro hh e he
            cases ex with
            | nil => exact absurd hh id
            | cons e0 es =>
              obtain ⟨⟨-, -, -, -, q, w5, -⟩, -, w2⟩ := hh
              rcases List.mem_cons.mp he with z | z
              · rw [z]; exact ⟨q, w5⟩
              · exact ih es w2 e z
        rw [← hlk]
        exact this _ _ hents he hmem
      obtain ⟨ce, w1, w2, w3, -⟩ := hRs.2.2.1 a k qk hka hqk
      have hj9 : j < 169 := by
        rcases Nat.lt_or_ge j 169 with z | z
        · exact z
        · exfalso
          rcases Nat.lt_or_ge j 171 with y | y
          · rcases (show j = 169 ∨ j = 170 by omega) with this | this
            · subst this
              exact absurd hk4 (by decide)
            · subst this
              exact absurd hk4 (by decide)
          · exact absurd hk4 (by unfold xkd; rw [List.getD_eq_getElem?_getD, List.getElem?_eq_none (by show xkds.length ≤ j; exact y)]; decide)
      have hplat : e.platform.magicAccessors = ({} : Platform).magicAccessors := by rw [X.admits.platform]
      obtain ⟨vm', g1, g2⟩ := sm_search (U := (T'.setTop (F0 m pc ls r)).pushFrame (.throwing a)) (f := F0 m pc ls r) (a := a) (k := k) (cell := ce) hplat hown hts hK hX (by rw [Stand.throwing_heap]; exact w1) w3 hqk w2 c.exceptionTable.toList _ _ he (hexT hj9) hents hfd T'.vm X'.warmed
      have hmeth : ((T'.setTop (F0 m pc ls r)).pushFrame (.throwing a)).vm.method? (F0 m pc ls r).method = some meth := by
        rw [Stand.throwing_vm, X'.warmed.alike.method?]
        exact X'.method
      have hself : ((T'.setTop (F0 m pc ls r)).pushFrame (.throwing a)).setVm T'.vm = (T'.setTop (F0 m pc ls r)).pushFrame (.throwing a) := by
        have := Stand.throwing_vm T' (F0 m pc ls r) a
        conv => rhs; rw [show (T'.setTop (F0 m pc ls r)).pushFrame (.throwing a) = ((T'.setTop (F0 m pc ls r)).pushFrame (.throwing a)).setVm ((T'.setTop (F0 m pc ls r)).pushFrame (.throwing a)).vm from rfl, this]
      rw [hself] at g2
      obtain ⟨tt, st, hQ⟩ := go T'.heap (locs ++ L) hRs (fun q hq => by
        rcases List.mem_append.mp hq with z | z
        · exact hf q z
        · exact hL q z) (T'.setVm vm') rfl (X'.noted g1)
      refine ⟨tt, hstep₁ _ fun acts => ?_, hQ⟩
      rw [doInvoke_state]
      refine hsteps.trans ?_
      rw [ht]
      rw [← hhp] at st
      exact sm_caught (g := F0 m pc ls r) X'.here (fun Q E d acts => (W.findHandler_eq hmeth X'.code).trans (g2 Q E d acts)) st
    · cases hcl
  · cases hcl
