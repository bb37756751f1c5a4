/-! Arrays.copyOf of references -/
def cp3n : MethodName := ⟨"java/util/Arrays", "copyOf", "([Ljava/lang/Object;ILjava/lang/Class;)[Ljava/lang/Object;"⟩
def cpT : FieldType := .array (.object "java/lang/Object")
def cp2w : List Cond := Cond.code sm_cname prog_27_method_119_code 2 (some cpT) :: Tg
def cp3w : List Cond := Cond.code cp3n prog_27_method_120_code 4 (some cpT) :: Tg
def cp3P (D : va_G) (base : Nat) (a : Nat) (n : Int32) (mi : Nat) (h : sm_H) : Array Value → State → Prop := fun v U => sm_Pc D base NW [.ref a, .int n, .ref mi] h v U ∧ va_Mi "[Ljava/lang/Object;" mi U
theorem cp3P_blind {D : va_G} {base a mi : Nat} {n : Int32} {h : sm_H} : FrameBlind (cp3P D base a n mi h) := by
  intro v U g mk hp
  exact ⟨sm_Pc_blind xst.2.2.1 v U g mk hp.1, va_Mi.moved (u := U) (U := U.calling g mk v) (Vm.Alike.refl U.vm) hp.2⟩
theorem nI_hL {h : sm_H} {a : Nat} {n : Int32} (hn : ¬ n < 0) (hle : hL h a ≤ n.toNatClampNeg) : (if n < nI (hL h a) then n else nI (hL h a)) = nI (hL h a) ∧ (nI (hL h a)).toNatClampNeg = hL h a ∧ ¬ nI (hL h a) < 0 := by
  have hb : n.toNatClampNeg < 2 ^ 31 := by
    have := n.toInt_lt
    show n.toInt.toNat < _
    omega
  have hlt : hL h a < 2 ^ 31 := by omega
  have e1 := nI_clamp hlt
  refine ⟨?_, e1, nI_pos hlt⟩
  rw [if_neg]
  intro z
  have z1 := Int32.lt_iff_toInt_lt.mp z
  have z2 : (nI (hL h a)).toInt.toNat = hL h a := e1
  have z3 : n.toInt.toNat = n.toNatClampNeg := rfl
  have z4 : 0 ≤ n.toInt := by
    have := Int32.not_lt.mp hn
    simpa using Int32.le_iff_toInt_le.mp this
  omega
/-- an array's places are written anew -/
theorem sm_R.setAll {D : va_G} {base : Nat} {U : State} {h : sm_H} {H H1 : Heap} (hR : sm_R D base U h H) {a : Nat} {g : Nat → Value} {cA : ClassId} {ty : FieldType} (h15 : ¬ sm_ro (hC h a)) (ht : sm_ty (hC h a) = some ty) (hA1 : ArrOfT U cA ty) (hA2 : va_RA U cA ty)
    (e1 : H1[a]? = some (arrV cA (hL h a) g)) (e2 : H1.size = H.size) (e3 : ∀ q, q ≠ a → H1[q]? = H[q]?) : sm_R D base U (hT h, hU h, hC h, hL h, hF h, fun b j => if b = a then g j else hA h b j, hZ h) H1 := by
  obtain ⟨r1, r2, r3, r4, r5, r6⟩ := hR
  have hba : base ≤ a := r2 a (fun z => by rw [z] at ht; cases ht) h15
  refine ⟨e2.trans r1, r2, fun b ci q hb hq => ?_, fun b ty' hb hb' => ?_, fun b ty' hb hb' => ?_, sm_Zk r6 hba e3 (sm_arS e1)⟩
  · replace hb : hC h b = 16 + ci := hb
    have hne : b ≠ a := by
      intro e
      subst e
      rw [hb] at ht
      unfold sm_ty at ht
      split at ht <;> first | omega | cases ht
    exact (r3 b ci q hb hq).kept (e3 b hne)
  · replace hb : ¬ sm_ro (hC h b) := hb
    replace hb' : sm_ty (hC h b) = some ty' := hb'
    by_cases e : b = a
    · subst e
      rw [ht] at hb'
      cases hb'
      refine ⟨cA, hA1, hA2, e1.trans ?_⟩
      congr 2
      funext j
      show g j = if b = b then g j else hA h b j
      rw [if_pos rfl]
    · obtain ⟨cB, k1, k2, k3⟩ := r4 b ty' hb hb'
      refine ⟨cB, k1, k2, (e3 b e).trans (k3.trans ?_)⟩
      congr 2
      funext j
      show hA h b j = if b = a then g j else hA h b j
      rw [if_neg e]
  · replace hb : sm_ro (hC h b) := hb
    have e : b ≠ a := fun q => h15 (q ▸ hb)
    obtain ⟨cell, k1, k2, k3, k4, k5⟩ := r5 b ty' hb hb'
    refine ⟨cell, (e3 b e).trans k1, k2, k3, k4, fun j hj => (k5 j hj).trans ?_⟩
    show some (hA h b j) = some (if b = a then g j else hA h b j)
    rw [if_neg e]
set_option maxHeartbeats 1000000 in
theorem cp3 {l : Launch} {D : va_G} {base a mi : Nat} {n : Int32} {h : sm_H} (hCa : hC h a = 7) (hn0 : ¬ n < 0) (hle : hL h a ≤ n.toNatClampNeg) (hbig : n.toNatClampNeg * 4 ≤ 536870912) (hel : cpE h a) (hb0 : base ≤ hT h) :
    Met l cp3n cp3w { frames := 1, cells := 1, slots := n.toNatClampNeg, locals := 41 } (cp3P D base a n mi h) (sm_Qc D base (some (.ref (hT h))) (cpA h a n.toNatClampNeg)) 1 n.toNatClampNeg (fun q => base ≤ q) := by
  refine Met.ofW (cc := prog_27_method_120_code) (maxL := 4) (ret := some cpT) (by decide +kernel) rfl ?_
  intro p e s m args below meth c s₁ B hml hv
  obtain ⟨⟨rfl, hR, hK, hnw, hX⟩, hMi⟩ := hv
  have hts0 := atoms_spec (ws := cp3w) B.pre
  have hts : ∀ w ∈ Tg, w.before _ s = true := fun w hw => hts0 w (List.mem_cons_of_mem _ hw)
  have hexec := B.exec
  have hb := B.bytes
  have hown : s.vm.findClass "java/util/Arrays" = some m.cls := findClass_of_methodNamed B.named
  have hname : meth.name = "copyOf" := (name_of_methodNamed B.named B.method).1
  obtain ⟨k1, k2, k3⟩ := nI_hL hn0 hle
  rw [lg_entry_eq]
  have hl := sm_entry [.ref a, .int n, .ref mi] (n := 4) (Nat.le_of_ble_eq_true rfl)
  replace hl : sm_lc _ 4 [.ref a, .int n, .ref mi, jk] := hl
  generalize (lg_sl [Value.ref a, .int n, .ref mi] ++ List.replicate (4 - (lg_sl [Value.ref a, .int n, .ref mi]).length) Slot.unset).toArray = ls at hl ⊢
  refine sm_pure (i := .aload_n 2) (d := (0, 0)) hexec hb (by decide +kernel) trivial hl rfl (fun ls hl => ?_)
  refine va_ldcM (pc := 1) hexec hb hown (hts _ tw_135) hMi (by decide +kernel) ?_
  refine sm_branch (pc := 3) (i := .if_acmp .ne 10) (d := (13, 0)) hexec hb (by decide +kernel) rfl rfl (fun z => absurd rfl z) (fun _ => ?_)
  refine sm_pure (pc := 6) (i := .iload_n 1) (d := (0, 0)) hexec hb (by decide +kernel) trivial hl rfl (fun ls hl => ?_)
  have hs7 : sm_hp (.anewarray 2) (0, 0) [.int n] h = some ([.ref (hT h)], newA h 7 n.toNatClampNeg .null) := if_pos ⟨hn0, hbig⟩
  have w1 : hT (newA h 7 n.toNatClampNeg .null) - hT h = 1 := by show hT h + 1 - hT h = 1; omega
  have w2 : hU (newA h 7 n.toNatClampNeg .null) - hU h = n.toNatClampNeg := by show hU h + n.toNatClampNeg - hU h = _; omega
  refine sm_heap (pc := 7) (i := .anewarray 2) (d := (0, 0)) (own := "java/util/Arrays") hexec hb hts hnw xst.1 hown hK hR (by decide +kernel) ⟨tw_137, xao⟩ hs7 (fun q hq => by cases hq) hb0 (by rw [w1]; exact Nat.le_refl 1) (by rw [w2, Nat.zero_add]; exact Nat.le_refl _) (fun H1 locs1 hR1 hf1 => ?_)
  rw [w1, w2]
  generalize hh1 : newA h 7 n.toNatClampNeg .null = h1 at hR1
  have c1 : hC h1 (hT h) = 7 := by rw [← hh1]; exact if_pos rfl
  have hne : a ≠ hT h := by
    intro z
    have := (hR.lt (a := a)).2 (.object "java/lang/Object") (by rw [hCa]; rfl)
    rw [hR.1] at this
    omega
  have c2 : hC h1 a = 7 := by rw [← hh1]; exact (if_neg hne).trans hCa
  have l1 : hL h1 a = hL h a := by rw [← hh1]; exact if_neg hne
  have l2 : hL h1 (hT h) = n.toNatClampNeg := by rw [← hh1]; exact if_pos rfl
  have a1 : hA h1 a = hA h a := by rw [← hh1]; funext j; exact if_neg hne
  refine sm_branch (pc := 10) (i := .goto 14) (d := (24, 0)) hexec hb (by decide +kernel) rfl rfl (fun _ => ?_) (fun z => absurd trivial z)
  refine sm_pure (pc := 24) (i := .astore_n 3) (d := (0, 0)) hexec hb (by decide +kernel) trivial hl rfl (fun ls hl => ?_)
  replace hl : sm_lc ls 4 [.ref a, .int n, .ref mi, .ref (hT h)] := hl
  refine sm_pure (pc := 25) (i := .aload_n 0) (d := (0, 0)) hexec hb (by decide +kernel) trivial hl rfl (fun ls hl => ?_)
  refine sm_pure (pc := 26) (i := .iconst 0) (d := (0, 0)) hexec hb (by decide +kernel) rfl hl rfl (fun ls hl => ?_)
  refine sm_pure (pc := 27) (i := .aload_n 3) (d := (0, 0)) hexec hb (by decide +kernel) trivial hl rfl (fun ls hl => ?_)
  refine sm_pure (pc := 28) (i := .iconst 0) (d := (0, 0)) hexec hb (by decide +kernel) rfl hl rfl (fun ls hl => ?_)
  refine sm_pure (pc := 29) (i := .aload_n 0) (d := (0, 0)) hexec hb (by decide +kernel) trivial hl rfl (fun ls hl => ?_)
  have hs30 : sm_hp .arraylength (0, 0) [.ref a, .int (sm_k (0, 0)), .ref (hT h), .int (sm_k (0, 0)), .ref a] h1 = some ([.int (nI (hL h1 a)), .int (sm_k (0, 0)), .ref (hT h), .int (sm_k (0, 0)), .ref a], h1) := if_pos (by rw [c2]; rfl)
  refine sm_heap (pc := 30) (i := .arraylength) (d := (0, 0)) (own := "java/util/Arrays") hexec hb hts hnw xst.1 hown hK hR1 (by decide +kernel) trivial hs30 hf1 (by rw [← hh1]; exact Nat.le_succ_of_le hb0) (by rw [Nat.sub_self]; exact Nat.le_refl 1) (by rw [Nat.sub_self, Nat.zero_add]; exact Nat.le_refl _) (fun H2 locs2 hR2 hf2 => ?_)
  rw [Nat.sub_self, Nat.sub_self, l1]
  refine sm_pure (pc := 31) (i := .iload_n 1) (d := (0, 0)) hexec hb (by decide +kernel) trivial hl rfl (fun ls hl => ?_)
  refine va_mmin (pc := 32) hexec hb (hml.trans hl.2.1.symm) hown (hts _ tw_138) (hts _ tw_139) (hts _ xmath.1) (hts _ tw_140) (Nat.le_refl 1) (by show 1 + (1 + (1 + (1 + 0))) + 13 ≤ 41; decide) (Nat.le_refl _) (by show 0 + n.toNatClampNeg + 0 ≤ n.toNatClampNeg; omega) (by decide +kernel) ?_
  rw [k1]
  intro T eT X
  obtain ⟨cA, x1, x2, x3⟩ := hR2.2.2.2.1 a (.object "java/lang/Object") (by rw [c2]; decide) (by rw [c2]; rfl)
  obtain ⟨cB, y1, y2, y3⟩ := hR2.2.2.2.1 (hT h) (.object "java/lang/Object") (by rw [c1]; decide) (by rw [c1]; rfl)
  rw [l1, a1] at x3
  rw [l2] at y3
  obtain ⟨kA, compA, u1, u2, u3, -⟩ := id x2
  obtain ⟨kB, compB, v1, v2, v3, -⟩ := id y2
  have d35 : decode prog_27_method_120_code 35 = .ok (.invokestatic 150, 3) := by decide +kernel
  have hk0 : (0 : Int32).toNatClampNeg = 0 := by decide
  obtain ⟨vm', X', step⟩ := X.arraycopy hexec hown (hts _ tw_141) (hts _ tw_143) (hts _ tw_142) (hts _ tw_9) (src := a) (dst := hT h) (cs := arrV cA (hL h a) (hA h a)) (cd := arrV cB n.toNatClampNeg (hA h1 (hT h))) (srcPos := 0) (destPos := 0) (n := nI (hL h a)) (by rw [eT]; exact x3) (by rw [eT]; exact y3)
    (fun _ w => by cases w) (fun _ w => by cases w) (fun w => by cases w) (fun w => by cases w) u1 v1 u2 v2 rfl (by decide) (by decide) k3
    (by rw [arrV_size]; have q : (nI (hL h a)).toInt.toNat = hL h a := k2; have q2 : (0 : Int32).toInt = 0 := by decide
        omega)
    (by rw [arrV_size]; have q : (nI (hL h a)).toInt.toNat = hL h a := k2; have q2 : (0 : Int32).toInt = 0 := by decide
        omega)
    (fun vm₁ hal i hi => by
      rw [k2] at hi
      have e9 : (arrV cA (hL h a) (hA h a)).slots.getD ((0 : Int32).toNatClampNeg + i) .null = hA h a i := by
        rw [hk0, Nat.zero_add, Array.getD_eq_getD_getElem?, arrV_read _ _ hi]
        rfl
      rw [e9]
      rcases hel i hi with q | ⟨b, q, q1, q2⟩
      · rw [q]; exact ⟨rfl, trivial⟩
      · rw [q]
        obtain ⟨ci, hci⟩ : ∃ ci, hC h b = 16 + ci := ⟨hC h b - 16, by omega⟩
        have hlt : ci < xob := by omega
        obtain ⟨qq, hqq⟩ : ∃ q, xcl[ci]? = some q := ⟨_, List.getElem?_eq_getElem (Nat.lt_of_lt_of_le hlt xob_le)⟩
        have hbT : b ≠ hT h := by
          intro z
          have := (hR.lt (a := b)).1 ci qq hci hqq
          rw [hR.1] at this
          exact absurd z (Nat.ne_of_lt this)
        have hci1 : hC h1 b = 16 + ci := by rw [← hh1]; exact (if_neg hbT).trans hci
        obtain ⟨cellV, g1, g2, g3, -⟩ := hR2.2.2.1 b ci qq hci1 hqq
        have hcls := (hK.1 ci qq hqq).2
        obtain ⟨c0, t1, f1, f2, f3⟩ := Cond.castable_spec (va_Nw.use (A := #[Value.ref a, .int n, .ref mi]) rfl (hnw _ (xcast_ok ci qq hlt hqq)))
        cases hcls.1.symm.trans f1
        cases v3.symm.trans f2
        obtain ⟨kC, hkC, -⟩ := hcls.2
        obtain ⟨kE, hkE, -⟩ := Vm.findClass_spec v3
        obtain ⟨kC', hkC', -⟩ := hal.2.2 _ _ hkC
        obtain ⟨kE', hkE', -⟩ := hal.2.2 _ _ hkE
        refine ⟨rfl, cellV, (show T.heap[b]? = some cellV by rw [eT]; exact g1), (fun q w => by rw [g3] at w; cases w), ⟨kC', by rw [g2]; exact hkC'⟩, ⟨kE', hkE'⟩, ?_⟩
        show vm₁.assignable _ _ = true
        rw [hal.assignable, g2]
        exact f3)
    (g := F0 m 35 ls [.int (nI (hL h a)), .int 0, .ref (hT h), .int 0, .ref a]) rfl (by rw [hml]; exact hl.2.1) (rest := []) rfl (by rw [hb]; exact d35) (Nat.le_refl 1) (by show 2 * 0 + 0 + (nativeFrameWords "java/lang/System" "arraycopy" 5 + 11) ≤ 41; decide)
  have e1 : copied (arrV cA (hL h a) (hA h a)) (arrV cB n.toNatClampNeg (hA h1 (hT h))) 0 0 (nI (hL h a)) = arrV cB n.toNatClampNeg (va_cpy (hA h a) (hA h1 (hT h)) 0 0 (hL h a)) := by
    have := va_copied (fun v : Value => v) cA cB (n0 := hL h a) (n1 := n.toNatClampNeg) (sp := 0) (dp := 0) (n := hL h a) (hA h a) (hA h1 (hT h)) (by omega)
    rw [← this]
    unfold copied
    rw [hk0, k2]
  rw [e1] at X' step
  generalize hW : (T.setVm vm').setCell (hT h) (arrV cB n.toNatClampNeg (va_cpy (hA h a) (hA h1 (hT h)) 0 0 (hL h a))) = T3 at X' step
  have hlt : hT h < H2.size := (Array.getElem?_eq_some_iff.mp y3).1
  have hheap : T3.heap = H2.setIfInBounds (hT h) (arrV cB n.toNatClampNeg (va_cpy (hA h a) (hA h1 (hT h)) 0 0 (hL h a))) := by rw [← hW, ← eT]; rfl
  have hR3 : sm_R D base s (cpA h a n.toNatClampNeg) T3.heap := by
    have := hR2.setAll (a := hT h) (g := va_cpy (hA h a) (hA h1 (hT h)) 0 0 (hL h a)) (H1 := T3.heap) (by rw [c1]; decide) (by rw [c1]; rfl) y1 y2 (by rw [hheap, l2]; simp [Array.getElem?_setIfInBounds, hlt]) (by rw [hheap]; simp) (fun q hq => by rw [hheap]; simp [Array.getElem?_setIfInBounds, Ne.symm hq])
    have e5 : (hT h1, hU h1, hC h1, hL h1, hF h1, fun b j => if b = hT h then va_cpy (hA h a) (hA h1 (hT h)) 0 0 (hL h a) j else hA h1 b j, hZ h1) = cpA h a n.toNatClampNeg := by
      subst hh1
      unfold cpA
      refine congrArg (fun z => (hT h + 1, hU h + n.toNatClampNeg, (fun b => if b = hT h then 7 else hC h b), (fun b => if b = hT h then n.toNatClampNeg else hL h b), hF h, z, hZ h)) ?_
      funext b j
      by_cases hbb : b = hT h
      · rw [if_pos hbb, if_pos hbb]
        unfold va_cpy
        by_cases hj : j < hL h a
        · rw [if_pos ⟨Nat.zero_le _, by omega⟩, if_pos hj, Nat.zero_add, Nat.sub_zero]
        · rw [if_neg (fun z => hj (by omega)), if_neg hj]
          exact if_pos rfl
      · rw [if_neg hbb, if_neg hbb]
        exact if_neg hbb
    rw [e5] at this
    exact this
  have hend : W p l e (headSpec cp3w { frames := 1, cells := 1, slots := n.toNatClampNeg, locals := 41 }).room s m #[Value.ref a, .int n, .ref mi] below meth c T3.heap (locs2 ++ ((arrV cA (hL h a) (hA h a)).stretch (0 : Int32).toNatClampNeg (nI (hL h a)).toNatClampNeg).zipIdx.map fun q => ⟨hT h, (0 : Int32).toNatClampNeg + q.2⟩) 1 (0 + n.toNatClampNeg)
      (MQ below (sm_Qc D base (some (.ref (hT h))) (cpA h a n.toNatClampNeg)) #[Value.ref a, .int n, .ref mi] s 1 n.toNatClampNeg (fun q => base ≤ q)) (F0 m 38 ls []) := by
    refine sm_pure (pc := 38) (i := .aload_n 3) (d := (0, 0)) hexec hb (by decide +kernel) trivial hl rfl (fun ls hl => ?_)
    rw [Nat.zero_add]
    refine sm_return (pc := 39) (i := .areturn) (ret := some cpT) (v := some (.ref (hT h))) (Qc := sm_Qc D base (some (.ref (hT h))) (cpA h a n.toNatClampNeg)) (free := fun q => base ≤ q) hexec hb (by decide +kernel) B.returns rfl B.notSynchronized (fun t ht hW => ⟨rfl, by rw [ht]; exact hR3.moved hW.alike⟩) (fun q hq => ?_)
    rcases List.mem_append.mp hq with z | z
    · exact hf2 q z
    · obtain ⟨y, -, hy⟩ := List.mem_map.mp z
      rw [← hy]
      exact hb0
  obtain ⟨t, st, hQ⟩ := hend T3 rfl X'
  exact ⟨t, step t st, hQ⟩
set_option maxHeartbeats 1000000 in
theorem cp2 {l : Launch} {D : va_G} {base a : Nat} {n : Int32} {h : sm_H} (hCa : hC h a = 7) (hn0 : ¬ n < 0) (hle : hL h a ≤ n.toNatClampNeg) (hbig : n.toNatClampNeg * 4 ≤ 536870912) (hel : cpE h a) (hb0 : base ≤ hT h) :
    Met l sm_cname cp2w { frames := 2, cells := 1, slots := n.toNatClampNeg, locals := 64 } (sm_Pc D base NW [.ref a, .int n] h) (sm_Qc D base (some (.ref (hT h))) (cpA h a n.toNatClampNeg)) 1 n.toNatClampNeg (fun q => base ≤ q) := by
  refine Met.ofW (cc := prog_27_method_119_code) (maxL := 2) (ret := some cpT) (by decide +kernel) rfl ?_
  intro p e s m args below meth c s₁ B hml hv
  obtain ⟨rfl, hR, hK, hnw, hX⟩ := hv
  have hts0 := atoms_spec (ws := cp2w) B.pre
  have hts : ∀ w ∈ Tg, w.before _ s = true := fun w hw => hts0 w (List.mem_cons_of_mem _ hw)
  have hexec := B.exec
  have hb := B.bytes
  have hown : s.vm.findClass "java/util/Arrays" = some m.cls := findClass_of_methodNamed B.named
  obtain ⟨mi, hMi⟩ := hX.2.2
  rw [lg_entry_eq]
  have hl := sm_entry [.ref a, .int n] (n := 2) (Nat.le_of_ble_eq_true rfl)
  replace hl : sm_lc _ 2 [.ref a, .int n] := hl
  generalize (lg_sl [Value.ref a, .int n] ++ List.replicate (2 - (lg_sl [Value.ref a, .int n]).length) Slot.unset).toArray = ls at hl ⊢
  refine sm_pure (pc := 0) (i := .aload_n 0) (d := (0, 0)) hexec hb (by decide +kernel) trivial hl rfl (fun ls hl => ?_)
  refine sm_pure (pc := 1) (i := .iload_n 1) (d := (0, 0)) hexec hb (by decide +kernel) trivial hl rfl (fun ls hl => ?_)
  refine sm_pure (pc := 2) (i := .aload_n 0) (d := (0, 0)) hexec hb (by decide +kernel) trivial hl rfl (fun ls hl => ?_)
  obtain ⟨cA, x1, x2, x3⟩ := hR.2.2.2.1 a (.object "java/lang/Object") (by rw [hCa]; decide) (by rw [hCa]; rfl)
  refine va_getC (pc := 3) (C := "[Ljava/lang/Object;") hexec hb (hml.trans hl.2.1.symm) hown (hts _ tw_115) (va_Nw.use (A := _) rfl (hnw _ nw_1309)) (hts _ tw_1308) (hts _ tw_116) (hts _ tw_131) hMi ⟨_, x3, rfl, va_nmO x2 (by decide +kernel)⟩ (by show 1 ≤ 2; decide) (by show 1 + (1 + 0) + 14 ≤ 64; decide) (by decide +kernel) ?_
  have hM := cp3 (l := l) (D := D) (mi := mi) hCa hn0 hle hbig hel hb0
  have hgd : ∀ w ∈ cp3w, w ∈ Tg ∧ sm_good w := by
    intro w hw
    have hw' : w ∈ Tg := by
      rcases List.mem_cons.mp hw with q | q
      · rw [q]; exact tw_134
      · exact q
    exact ⟨hw', xst.2.1 w hw'⟩
  have hgd2 : GoodIn Tg (va_wsS "java/util/Arrays" 300 cp3n cp3w) := by
    intro w hw
    unfold va_wsS at hw
    rcases List.mem_append.mp hw with q | q
    · rcases List.mem_cons.mp q with q | q
      · rw [q]; exact ⟨tw_132, xst.2.1 _ tw_132⟩
      · rcases List.mem_cons.mp q with q | q
        · rw [q]; exact ⟨tw_133, xst.2.1 _ tw_133⟩
        · rw [List.mem_singleton.mp q]; exact ⟨tw_8, xst.2.1 _ tw_8⟩
    · exact hgd w q
  have d6 : decode prog_27_method_119_code 6 = .ok (.invokestatic 300, 3) := by decide +kernel
  refine sm_back (H := s.heap) (g := F0 m 6 ls [.ref mi, .int n, .ref a]) (rest := []) (a := #[Value.ref a, .int n, .ref mi]) (h' := cpA h a n.toNatClampNeg) (D := D) (base := base) (v := some (.ref (hT h))) (va_runS ⟨hexec, hb, hml, hown, hts⟩ hM (va_cwS 3 hts hgd2 rfl rfl rfl ⟨by decide, by decide, by decide +kernel⟩ ⟨Nat.le_refl 2, Nat.le_of_ble_eq_true rfl⟩) ⟨cp3P_blind, fun U hU hW => ⟨sm_Pc_at xst.2.2.1 hR hK hnw hX U hU hW, hMi.moved hW.alike⟩⟩ rfl rfl hl.2.1 rfl (Nat.le_of_ble_eq_true rfl) d6 ⟨Nat.le_refl _, by show 0 + n.toNatClampNeg ≤ n.toNatClampNeg; omega⟩) (fun q hq => by cases hq) (fun H' locs' hR' hf' => ?_)
  · rw [Nat.zero_add, Nat.zero_add]
    exact sm_return (pc := 9) (i := .areturn) (ret := some cpT) (v := some (.ref (hT h))) (Qc := sm_Qc D base (some (.ref (hT h))) (cpA h a n.toNatClampNeg)) (free := fun q => base ≤ q) hexec hb (by decide +kernel) B.returns rfl B.notSynchronized (fun t ht hW => ⟨rfl, by rw [ht]; exact hR'.moved hW.alike⟩) hf'
theorem xcopy {l : Launch} {D : va_G} {base : Nat} : sm_copy l Tg NW D base := by
  intro j x pc mc ms a n r h p e s m args below meth c H locs cells slots ls Q hin hsz hR hf hb0 hrm hlink hdg hCa hn0 hle hbig hsum hel hcells hslots kk
  obtain ⟨hexec, hb, hml, hret, hlocks, hmn, hown, hts, hnw, hK, hX, -, hexT⟩ := id hin
  have hM := cp2 (l := l) (D := D) hCa hn0 hle hbig hel hb0
  have hgd2 : GoodIn Tg (va_wsS (xmn j).cls x sm_cname cp2w) := by
    intro w hw
    unfold va_wsS at hw
    rcases List.mem_append.mp hw with q | q
    · rcases List.mem_cons.mp q with q | q
      · rw [q]; exact ⟨hlink, xst.2.1 _ hlink⟩
      · rcases List.mem_cons.mp q with q | q
        · rw [q]; exact ⟨tw_113, xst.2.1 _ tw_113⟩
        · rw [List.mem_singleton.mp q]; exact ⟨tw_8, xst.2.1 _ tw_8⟩
    · have hw' : w ∈ Tg := by
        rcases List.mem_cons.mp q with q | q
        · rw [q]; exact tw_114
        · exact q
      exact ⟨hw', xst.2.1 w hw'⟩
  exact sm_back (H := H) (g := F0 m pc ls (.int n :: .ref a :: r)) (rest := r) (a := #[Value.ref a, .int n]) (h' := cpA h a n.toNatClampNeg) (D := D) (base := base) (v := some (.ref (hT h))) (va_runS ⟨hexec, hb, hml, hown, hts⟩ hM (va_cwS 2 hts hgd2 rfl rfl rfl ⟨by decide, by decide, by decide +kernel⟩ ⟨hrm.1, hrm.2⟩) ⟨sm_Pc_blind xst.2.2.1, sm_Pc_at xst.2.2.1 hR hK hnw hX⟩ rfl rfl hsz rfl (lv_room hsum) hdg ⟨hcells, hslots⟩) hf kk
/-- WHAT THE SMALL MACHINE ANSWERS THE MODEL ANSWERS: nothing is owed any more -/
theorem x_road {l : Launch} {D : va_G} {base : Nat} (hl : l.flags = pinnedFlags ++ [noTraceFlag]) : ∀ n, sm_Road l Tg NW D base n := sm_road xst xcopy (xthrows hl) xcatches xhelps
