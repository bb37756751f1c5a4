/-! calls of methods that catch; calls that throw and are caught -/
section SMC
variable {p : Program} {l : Launch} {e : Env} {R : Room} {s : State} {m : MethodId} {args : Array Value} {below : List Frame} {meth : Method} {c : Code} {H : Heap} {locs : List Loc} {cells slots : Nat} {Q : State → Prop} {base : Nat} {D : va_G} {h h' : sm_H}
/-- the words of a method that catches -/
def xwc (j : Nat) : List Cond := Cond.codeWith (xmn j) (xcc j) (xml j) (xrt j) (xex j) :: Tg
theorem sm_withex {y : MethodName} {S : Spec} {cc : ByteArray} {ml : Nat} {rt : Option FieldType} {s₁ : State} (B : BodyLoose p l y S cc ml rt e s m args below meth c s₁) {bytes : ByteArray} {maxL : Nat} {ret : Option FieldType} {hh : List (Nat × Nat × Nat × Nat)} (h : (Cond.codeWith y bytes maxL ret hh).before args s = true) : c.exceptionTable.toList.map (fun h => (h.startPc, h.endPc, h.handlerPc, h.catchType)) = hh := by
  obtain ⟨m9, meth', c', hn9, hm', hc', -, -, hx, -⟩ := Cond.codeWith_spec h
  cases B.named.symm.trans hn9
  have hcd := B.here.code
  rw [State.code?_eq] at hcd
  have hvm : s₁.vm = s.vm := by rw [B.state]; rfl
  rw [hvm, hm'] at hcd
  have e1 : c' = c := Option.some.inj (hc'.symm.trans hcd)
  subst e1
  exact hx
theorem sm_metW {n : Nat} (hrd : sm_Road l Tg NW D base n) {j : Nat} (hm : sm_hlp j) {As : List Value} {v : Option Value} (hlen : (sm_fl As).length ≤ xml j) (hb0 : base ≤ hT h) (hrun : sm_run n j 0 (sm_en As (xml j)) [] h = some (0, v, h')) :
    Met l (xmn j) (xwc j) (sm_rm j (hT h' - hT h) (hU h' - hU h)) (sm_Pc D base NW As h) (sm_Qc D base v h') (hT h' - hT h) (hU h' - hU h) (fun q => base ≤ q) := by
  refine va_MetW (cc := xcc j) (maxL := xml j) (ret := xrt j) (hh := xex j) hm.2.1 rfl ?_
  intro p e s m args below meth c s₁ B hml hv
  obtain ⟨rfl, hR, hK, hnw, hX⟩ := hv
  have hts := atoms_spec (ws := xwc j) B.pre
  have hin : sm_In Tg NW D base j p s m As.toArray meth c := ⟨B.exec, B.bytes, hml, B.returns, B.notSynchronized, (name_of_methodNamed B.named B.method).1, findClass_of_methodNamed B.named, fun w hw => hts w (List.mem_cons_of_mem _ hw), hnw, hK, hX, ⟨_, hR.2.2.2.2.2⟩, fun _ => sm_withex B (hts _ List.mem_cons_self)⟩
  rw [lg_entry_eq]
  refine sm_Wm (fun t ht => ?_) (hrd j 0 _ [] h 0 v h' hrun p e s m As.toArray below meth c s.heap [] 0 0 _ _ _ hin (sm_entry As hlen) hR (fun q hq => by cases hq) hb0 (Nat.zero_add _) (Nat.zero_add _))
  obtain ⟨o, h1, h2, ⟨h3, h4⟩, L, h5, h6⟩ := ht
  exact ⟨o, h1, h2, ⟨h3, h4⟩, L, ⟨⟨v, h3⟩, h5.1, h5.2⟩, h6⟩
theorem xhelps {l : Launch} {D : va_G} {base : Nat} : sm_helps l Tg NW D base := by
  intro n hrd j j' pc x z mc ms S As r v h h1 p e s m args below meth c H locs cells slots ls Q hin hsz hR hf hb0 hx hcl hrun q1 q2 go
  obtain ⟨hexec, hb, hml, hret, hlocks, hmn, hown, hts, hnw, hK, hX, -, hexT⟩ := id hin
  obtain ⟨hdg, hlk, hk4, hroom⟩ : decode (xcc j) pc = .ok (.invokestatic x, 3) ∧ xlk xlM (xow j) x = some (z, 3) ∧ xkd z = 4 ∧ xroom j z = true := by
    unfold xat at hx
    split at hx
    · rename_i i len hd
      split at hx
      · rename_i hl
        split at hx
        · rename_i d' hxr
          cases hx
          have hlen : len = 3 := by
            rcases hl with q | q
            · cases q
            · exact q
          subst hlen
          replace hxr : (match xlk xlM (xow j) x with
            | some d => xif ((decide (d.2 < 2) && decide (xkd d.1 = 1) && xroom j d.1) || (decide (d.2 = 3) && decide (xkd d.1 = 4) && xroom j d.1) || ((decide (d.2 = 4) || decide (d.2 = 5)) && decide (1 ≤ xrk j) && decide (21 ≤ xrl j)) || (decide (d.2 = 6) && decide (3 ≤ xrk j) && decide (85 ≤ xrl j))) (some d)
            | none => none) = some (z, 3) := hxr
          split at hxr
          · rename_i d hd'
            obtain ⟨k1, k2⟩ := xif_some hxr
            cases k2
            simp only [Bool.or_eq_true, Bool.and_eq_true, decide_eq_true_eq] at k1
            rcases k1 with ((⟨⟨k1, -⟩, -⟩ | ⟨⟨-, k2⟩, k3⟩) | ⟨⟨k1, -⟩, -⟩) | ⟨⟨k1, -⟩, -⟩
            · omega
            · exact ⟨hd, hd', k2, k3⟩
            · omega
            · omega
          · cases hxr
        · cases hx
      · cases hx
    · cases hx
  have hlp := xh_ok z hk4
  have hlink : Cond.methodLink (xmn j).cls x (xmn z) ∈ Tg := (xM1 hlk).2.2.2.2.2 rfl
  have hrm := xroom_ok hroom
  unfold sm_cl at hcl
  dsimp only at hcl
  split at hcl
  · rename_i hq
    cases hcl
    have hM := sm_metW hrd hlp hq.2.2.2 hb0 hrun
    have hn : (S.take (xna j')).reverse.length = xna j' := by rw [List.length_reverse, List.length_take]; omega
    have hsk : S = (S.take (xna j')).reverse.reverse ++ S.drop (xna j') := by rw [List.reverse_reverse, List.take_append_drop]
    have hgd : ∀ w ∈ xwc j', w ∈ Tg ∧ sm_good w := by
      intro w hw
      have hw' : w ∈ Tg := by
        rcases List.mem_cons.mp hw with q | q
        · rw [q]; exact hlp.1
        · exact q
      exact ⟨hw', xst.2.1 w hw'⟩
    have hK9 : Back l (sm_rm j mc ms) p e below s args (xmn j') 3 8 (PreOf (sm_rm j mc ms) (hT h1 - hT h) (hU h1 - hU h) (sm_Pc D base NW (S.take (xna j')).reverse h)) (PostOf (sm_Qc D base v h1) (hT h1 - hT h) (hU h1 - hU h) (fun q => base ≤ q)) :=
      va_backW (hh := xex j') (bytes := xcc j') (maxL := xml j') (ret := xrt j') hM (sm_Pc_blind xst.2.2.1) rfl rfl hrm.1 hrm.2 (pay_in hts hgd) List.mem_cons_self (fun a' U hW => word_at hW (xst.2.1 _ hlp.2.2.2.2.2.1) (hts _ hlp.2.2.2.2.2.1))
    refine sm_back (H := H) (g := F0 m pc ls S) (rest := S.drop (xna j')) (a := (S.take (xna j')).reverse.toArray) (h' := h1) (D := D) (base := base) (v := v) ?_ hf go
    intro T eT X
    obtain ⟨mk, methM, cM, hnamed, hmethM, -, -, -, -, -, -, hsigM⟩ := Cond.codeWith_spec (hts _ hlp.1)
    have hstatic : methM.isStatic = true := Cond.static_spec hnamed hmethM (hts _ hlp.2.2.2.2.2.2)
    obtain ⟨kP, hkP, -⟩ := className_of_methodNamed hnamed
    have hinitP : kP.init = .initialized := Cond.initialized_spec (findClass_of_methodNamed hnamed) hkP (hts _ hlp.2.2.2.2.2.1)
    have hpl : (S.take (xna j')).reverse.length = methM.sig.parameters.length := by
      have h2 := hlp.2.2.2.2.1
      rw [hsigM] at h2
      rw [hn]
      exact (Option.some.inj h2).symm
    obtain ⟨vm₁, X₁, hstep₁⟩ := X.invokestatic hexec hown (hts _ hlink) hnamed hmethM hstatic hkP hinitP ⟨hlp.2.2.1, hlp.2.2.2.1⟩ (g := F0 m pc ls S) rfl (argsL := (S.take (xna j')).reverse) (rest := S.drop (xna j')) hpl hsk (by rw [hb]; exact hdg)
    obtain ⟨v', ⟨U', l2, c2, s2⟩, X', ⟨g', mk', t, L, e1, e2, hq9, w1, hL, w2, w3⟩, hsteps⟩ := hK9 m meth c ⟨T.setVm vm₁, locs, cells, slots⟩ (F0 m pc ls (S.drop (xna j'))) (.invokestatic x) mk (S.take (xna j')).reverse.toArray X₁ rfl (hsz.trans hml.symm) (by rw [hb]; exact hdg) (lv_room hq.2.2.1) (X₁.named hnamed) ⟨q1, q2, sm_Pc_at xst.2.2.1 hR hK hnw hX (T.setVm vm₁) eT X₁.warmed⟩
    dsimp only [Pt.U, Pt.locs, Pt.cells, Pt.slots] at X' e1 e2 w1 w2 w3 hsteps
    subst w1; subst w2; subst w3
    exact ⟨v', (T.setVm vm₁).calling g' mk' (S.take (xna j')).reverse.toArray, t, U', L, eT, X', hL, e1, e2, hq9, fun target hh => hstep₁ _ fun acts => by rw [doInvoke_state]; exact hsteps.trans hh⟩
  · cases hcl
end SMC
