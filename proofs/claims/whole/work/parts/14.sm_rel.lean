/-! WHAT THE SMALL HEAP SAYS OF THE MACHINE's -/
def sm_ar (U : State) (H : Heap) (a : Nat) (ty : FieldType) (n : Nat) (f : Nat → Value) : Prop := ∃ cA : ClassId, ArrOfT U cA ty ∧ va_RA U cA ty ∧ H[a]? = some (arrV cA n f)
def sm_rd (U : State) (H : Heap) (a : Nat) (ty : FieldType) (n : Nat) (f : Nat → Value) : Prop := ∃ cell : Cell, H[a]? = some cell ∧ U.isArrayOf cell ty ∧ cell.vm ≠ .unknown ∧ cell.slots.size = n ∧ ∀ i, i < n → cell.slots[i]? = some (f i)
theorem sm_ar.rd {U : State} {H : Heap} {a : Nat} {ty : FieldType} {n : Nat} {f : Nat → Value} (h : sm_ar U H a ty n f) : sm_rd U H a ty n f := by
  obtain ⟨cA, h1, -, h3⟩ := h
  exact ⟨_, h3, h1 n f, fun q => (by cases q), arrV_size _ _ _, fun i hi => arrV_read _ _ hi⟩
theorem sm_ar.moved {u U : State} (hvm : u.vm.Alike U.vm) {H : Heap} {a : Nat} {ty : FieldType} {n : Nat} {f : Nat → Value} (h : sm_ar u H a ty n f) : sm_ar U H a ty n f := by
  obtain ⟨cA, h1, h2, h3⟩ := h
  exact ⟨cA, arrOfT_moved hvm h1, h2.moved hvm, h3⟩
theorem sm_rd.moved {u U : State} (hvm : u.vm.Alike U.vm) {H : Heap} {a : Nat} {ty : FieldType} {n : Nat} {f : Nat → Value} (h : sm_rd u H a ty n f) : sm_rd U H a ty n f := by
  obtain ⟨cell, h1, h2, h3⟩ := h
  exact ⟨cell, h1, State.isArrayOf_alike hvm h2, h3⟩
/-- the kinds that nobody writes: the script, the JDK's empty array -/
abbrev sm_ro (t : Nat) : Prop := t = 14 ∨ t = 15
/-- a static that holds a reference or null, and what 'laysStatic' says of it -/
def sm_LS (C n d : String) (A : Nat → Prop) (U : State) (H : Heap) : Prop := ∃ (c : ClassId) (k : Class) (i : Nat) (f : Field) (a : Nat) (cell : Cell), U.vm.findClass C = some c ∧ U.fieldFound? C n d = some (c, k, i, f) ∧ f.isStatic = true ∧ k.statics = some a ∧ H[a]? = some cell ∧ cell.vm.isStatics = true ∧ cell.cls = c ∧ f.slot < cell.slots.size ∧ k.staticTypes[f.slot]? = some f.type ∧ (cell.slots[f.slot]? = some .null ∨ ∃ q, cell.slots[f.slot]? = some (.ref q)) ∧ ¬ A a
theorem sm_LS.moved {C n d : String} {A : Nat → Prop} {u U : State} {H : Heap} (hvm : u.vm.Alike U.vm) (h : sm_LS C n d A u H) : sm_LS C n d A U H := by
  obtain ⟨c, k, i, f, a, cell, h0, h1, h2, h3, h4, h5, h6, h7, h8, h9⟩ := h
  obtain ⟨k', hi', he⟩ := State.fieldFound?_setVm hvm h1
  exact ⟨c, k', i, f, a, cell, by rw [hvm.findClass]; exact h0, hi', h2, by rw [he]; exact h3, h4, h5, h6, h7, by rw [he]; exact h8, h9⟩
theorem sm_LS.kept {C n d : String} {A : Nat → Prop} {U : State} {H H1 : Heap} (h : sm_LS C n d A U H) (hq : ∀ a : Nat, a < H.size → ¬ A a → H1[a]? = H[a]?) : sm_LS C n d A U H1 := by
  obtain ⟨c, k, i, f, a, cell, h0, h1, h2, h3, h4, h5, h6, h7, h8, h9, h10⟩ := h
  exact ⟨c, k, i, f, a, cell, h0, h1, h2, h3, by rw [hq a (Array.getElem?_eq_some_iff.mp h4).1 h10]; exact h4, h5, h6, h7, h8, h9, h10⟩
/-- what is known of statics: ArrayList's empty array, Throwable's two; no cell from base on holds statics -/
def sm_Zs (base z : Nat) (U : State) (H : Heap) : Prop := va_Z "java/util/ArrayList" "DEFAULTCAPACITY_EMPTY_ELEMENTDATA" "[Ljava/lang/Object;" (.ref z) (fun q => base ≤ q) U H ∧ sm_LS "java/lang/Throwable" "UNASSIGNED_STACK" "[Ljava/lang/StackTraceElement;" (fun q => base ≤ q) U H ∧ sm_LS "java/lang/Throwable" "SUPPRESSED_SENTINEL" "Ljava/util/List;" (fun q => base ≤ q) U H ∧ ∀ (a : Nat) (cell : Cell), base ≤ a → H[a]? = some cell → cell.vm.isStatics = false
theorem sm_Zs.moved {base z : Nat} {u U : State} {H : Heap} (hvm : u.vm.Alike U.vm) (h : sm_Zs base z u H) : sm_Zs base z U H := ⟨h.1.moved hvm, h.2.1.moved hvm, h.2.2.1.moved hvm, h.2.2.2⟩
def sm_R (D : va_G) (base : Nat) (U : State) (h : sm_H) (H : Heap) : Prop :=
  H.size = hT h ∧ (∀ a, hC h a ≠ 0 → ¬ sm_ro (hC h a) → base ≤ a) ∧
  (∀ a ci q, hC h a = 16 + ci → xcl[ci]? = some q → t_OB a (D.1 ci) q.2.2 (D.2 ci) H (fun k => hF h (128 * ci + k) a)) ∧
  (∀ a ty, ¬ sm_ro (hC h a) → sm_ty (hC h a) = some ty → sm_ar U H a ty (hL h a) (hA h a)) ∧
  (∀ a ty, sm_ro (hC h a) → sm_ty (hC h a) = some ty → sm_rd U H a ty (hL h a) (hA h a)) ∧
  sm_Zs base (hZ h) U H
theorem sm_R.moved {D : va_G} {base : Nat} {u U : State} (hvm : u.vm.Alike U.vm) {h : sm_H} {H : Heap} (hR : sm_R D base u h H) : sm_R D base U h H := by
  obtain ⟨h1, h2, h3, h4, h5, h6⟩ := hR
  exact ⟨h1, h2, h3, fun a ty p q => (h4 a ty p q).moved hvm, fun a ty p q => (h5 a ty p q).moved hvm, h6.moved hvm⟩
theorem sm_R.rd {D : va_G} {base : Nat} {U : State} {h : sm_H} {H : Heap} (hR : sm_R D base U h H) {a : Nat} {ty : FieldType} (ht : sm_ty (hC h a) = some ty) : sm_rd U H a ty (hL h a) (hA h a) := by
  by_cases e : sm_ro (hC h a)
  · exact hR.2.2.2.2.1 a ty e ht
  · exact (hR.2.2.2.1 a ty e ht).rd
theorem sm_Zk {base z : Nat} {U : State} {H H1 : Heap} (h : sm_Zs base z U H) {a : Nat} (hb : base ≤ a) (e3 : ∀ q, q ≠ a → H1[q]? = H[q]?) (e4 : ∀ cell : Cell, H1[a]? = some cell → cell.vm.isStatics = false) : sm_Zs base z U H1 := by
  have k : ∀ q : Nat, q < H.size → ¬ base ≤ q → H1[q]? = H[q]? := fun q _ h2 => e3 q (fun e => h2 (by rw [e]; exact hb))
  refine ⟨h.1.kept k, h.2.1.kept k, h.2.2.1.kept k, fun q cell hq hc => ?_⟩
  by_cases e : q = a
  · subst e; exact e4 cell hc
  · exact h.2.2.2 q cell hq (by rw [← e3 q e]; exact hc)
theorem sm_Zn {base z : Nat} {U : State} {H H1 : Heap} {k : Nat} (h : sm_Zs base z U H) (hk : H.size = k) (e2 : H1.size = k + 1) (e3 : ∀ q, q < k → H1[q]? = H[q]?) (e4 : ∀ cell : Cell, H1[k]? = some cell → cell.vm.isStatics = false) : sm_Zs base z U H1 := by
  have w : ∀ q : Nat, q < H.size → ¬ base ≤ q → H1[q]? = H[q]? := fun q h1 _ => e3 q (by omega)
  refine ⟨h.1.kept w, h.2.1.kept w, h.2.2.1.kept w, fun q cell hq hc => ?_⟩
  have hl : q < H1.size := (Array.getElem?_eq_some_iff.mp hc).1
  by_cases e : q = k
  · subst e; exact e4 cell hc
  · exact h.2.2.2 q cell hq (by rw [← e3 q (by omega)]; exact hc)
theorem sm_obS {o : Nat} {cC : ClassId} {N : Nat} {iS : Nat → Nat} {H : Heap} {V : Nat → Value} (h : t_OB o cC N iS H V) : ∀ cell : Cell, H[o]? = some cell → cell.vm.isStatics = false := by
  intro cell hc
  obtain ⟨cell', h1, -, h3, -⟩ := h
  rw [h1] at hc
  cases hc
  rw [h3]
  rfl
theorem sm_arS {H : Heap} {a n : Nat} {cA : ClassId} {f : Nat → Value} (h : H[a]? = some (arrV cA n f)) : ∀ cell : Cell, H[a]? = some cell → cell.vm.isStatics = false := by
  intro cell hc
  rw [h] at hc
  cases hc
  rfl
/-- a cell is written that is an array -/
theorem sm_R.setA {D : va_G} {base : Nat} {U : State} {h : sm_H} {H H1 : Heap} (hR : sm_R D base U h H) {a i : Nat} {v : Value} {cA : ClassId} {ty : FieldType} (h15 : ¬ sm_ro (hC h a)) (ht : sm_ty (hC h a) = some ty) (hA1 : ArrOfT U cA ty) (hA2 : va_RA U cA ty)
    (e1 : H1[a]? = some (arrV cA (hL h a) (updV (hA h a) i v))) (e2 : H1.size = H.size) (e3 : ∀ q, q ≠ a → H1[q]? = H[q]?) : sm_R D base U (putA h a i v) H1 := by
  obtain ⟨r1, r2, r3, r4, r5, r6⟩ := hR
  have hba : base ≤ a := r2 a (fun z => by rw [z] at ht; cases ht) h15
  refine ⟨e2.trans r1, r2, fun b ci q hb hq => ?_, fun b ty' hb hb' => ?_, fun b ty' hb hb' => ?_, sm_Zk r6 hba e3 (sm_arS e1)⟩
  · replace hb : hC h b = 16 + ci := hb
    have hne : b ≠ a := by
      intro e
      subst e
      rw [hb] at ht
      unfold sm_ty at ht
      split at ht <;> first | omega | cases ht
    exact (r3 b ci q hb hq).kept (e3 b hne)
  · replace hb : ¬ sm_ro (hC h b) := hb
    replace hb' : sm_ty (hC h b) = some ty' := hb'
    by_cases e : b = a
    · subst e
      rw [ht] at hb'
      cases hb'
      refine ⟨cA, hA1, hA2, e1.trans ?_⟩
      congr 2
      funext j
      show updV (hA h b) i v j = if b = b ∧ j = i then v else hA h b j
      by_cases ej : j = i
      · rw [updV, if_pos ej, if_pos ⟨rfl, ej⟩]
      · rw [updV, if_neg ej, if_neg (fun q => ej q.2)]
    · obtain ⟨cB, k1, k2, k3⟩ := r4 b ty' hb hb'
      refine ⟨cB, k1, k2, (e3 b e).trans (k3.trans ?_)⟩
      congr 2
      funext j
      show hA h b j = if b = a ∧ j = i then v else hA h b j
      rw [if_neg (fun q => e q.1)]
  · replace hb : sm_ro (hC h b) := hb
    have e : b ≠ a := fun q => h15 (q ▸ hb)
    obtain ⟨cell, k1, k2, k3, k4, k5⟩ := r5 b ty' hb hb'
    refine ⟨cell, (e3 b e).trans k1, k2, k3, k4, fun j hj => (k5 j hj).trans ?_⟩
    show some (hA h b j) = some (if b = a ∧ j = i then v else hA h b j)
    rw [if_neg (fun q => e q.1)]
/-- an object's field is written -/
theorem sm_R.setF {D : va_G} {base : Nat} {U : State} {h : sm_H} {H H1 : Heap} (hR : sm_R D base U h H) {a ci k : Nat} {v : Value} {q : vw_C} (hC1 : hC h a = 16 + ci) (hq : xcl[ci]? = some q) (hN : ∀ (cj : Nat) (r : vw_C), xcl[cj]? = some r → r.2.2 ≤ 128) (hk : k < 128)
    (e1 : t_OB a (D.1 ci) q.2.2 (D.2 ci) H1 (updV (fun j => hF h (128 * ci + j) a) k v)) (e2 : H1.size = H.size) (e3 : ∀ q, q ≠ a → H1[q]? = H[q]?) : sm_R D base U (putF h (128 * ci + k) a v) H1 := by
  obtain ⟨r1, r2, r3, r4, r5, r6⟩ := hR
  have hba : base ≤ a := r2 a (by omega) (fun z => by omega)
  refine ⟨e2.trans r1, r2, fun b cj r hb hr => ?_, fun b ty' hb hb' => ?_, fun b ty' hb hb' => ?_, sm_Zk r6 hba e3 (sm_obS e1)⟩
  · replace hb : hC h b = 16 + cj := hb
    by_cases e : b = a
    · subst e
      have ec : cj = ci := by omega
      subst ec
      rw [hq] at hr
      cases hr
      refine e1.to (fun j _ => ?_)
      show updV (fun j => hF h (128 * cj + j) b) k v j = if 128 * cj + j = 128 * cj + k ∧ b = b then v else hF h (128 * cj + j) b
      by_cases ej : j = k
      · rw [updV, if_pos ej, if_pos ⟨by omega, rfl⟩]
      · rw [updV, if_neg ej, if_neg (fun q => ej (by omega))]
    · refine ((r3 b cj r hb hr).kept (e3 b e)).to (fun j _ => ?_)
      show hF h (128 * cj + j) b = if 128 * cj + j = 128 * ci + k ∧ b = a then v else hF h (128 * cj + j) b
      rw [if_neg (fun q => e q.2)]
  · replace hb : ¬ sm_ro (hC h b) := hb
    replace hb' : sm_ty (hC h b) = some ty' := hb'
    have e : b ≠ a := by
      intro e
      subst e
      rw [hC1] at hb'
      unfold sm_ty at hb'
      split at hb' <;> first | omega | cases hb'
    obtain ⟨cB, k1, k2, k3⟩ := r4 b ty' hb hb'
    exact ⟨cB, k1, k2, (e3 b e).trans k3⟩
  · replace hb : sm_ro (hC h b) := hb
    have e : b ≠ a := fun q => by subst q; omega
    obtain ⟨cell, k1, k2⟩ := r5 b ty' hb hb'
    exact ⟨cell, (e3 b e).trans k1, k2⟩
theorem sm_R.lt {D : va_G} {base : Nat} {U : State} {h : sm_H} {H : Heap} (hR : sm_R D base U h H) {a : Nat} : (∀ ci q, hC h a = 16 + ci → xcl[ci]? = some q → a < H.size) ∧ (∀ ty, sm_ty (hC h a) = some ty → a < H.size) := by
  refine ⟨fun ci q h1 h2 => ?_, fun ty h1 => ?_⟩
  · obtain ⟨cell, h3, -⟩ := hR.2.2.1 a ci q h1 h2
    exact (Array.getElem?_eq_some_iff.mp h3).1
  · obtain ⟨cell, h3, -⟩ := hR.rd h1
    exact (Array.getElem?_eq_some_iff.mp h3).1
/-- a new object -/
theorem sm_R.mkO {D : va_G} {base : Nat} {U : State} {h : sm_H} {H H1 : Heap} (hR : sm_R D base U h H) {ci n : Nat} {dv : Nat → Value} {q : vw_C} (hb : base ≤ hT h) (hq : xcl[ci]? = some q)
    (e1 : t_OB (hT h) (D.1 ci) q.2.2 (D.2 ci) H1 (fun k => dv (128 * ci + k))) (e2 : H1.size = hT h + 1) (e3 : ∀ q, q < hT h → H1[q]? = H[q]?) : sm_R D base U (newO h ci n dv) H1 := by
  have hlt := fun (a : Nat) => hR.lt (a := a)
  obtain ⟨r1, r2, r3, r4, r5, r6⟩ := hR
  have hc : ∀ b, b ≠ hT h → hC (newO h ci n dv) b = hC h b := fun b e => if_neg e
  refine ⟨e2, fun b h1 h2 => ?_, fun b cj r h1 h2 => ?_, fun b ty' h1 h2 => ?_, fun b ty' h1 h2 => ?_, sm_Zn r6 r1 e2 e3 (sm_obS e1)⟩
  · by_cases e : b = hT h
    · rw [e]; exact hb
    · rw [hc b e] at h1 h2
      exact r2 b h1 h2
  · by_cases e : b = hT h
    · have h9 : hC (newO h ci n dv) b = 16 + ci := if_pos e
      have ec : cj = ci := by omega
      subst ec
      rw [hq] at h2
      cases h2
      subst e
      refine e1.to (fun j _ => ?_)
      show dv (128 * cj + j) = if hT h = hT h then dv (128 * cj + j) else _
      rw [if_pos rfl]
    · rw [hc b e] at h1
      have hl := (hlt b).1 cj r h1 h2
      rw [r1] at hl
      refine ((r3 b cj r h1 h2).kept (e3 b hl)).to (fun j _ => ?_)
      show hF h (128 * cj + j) b = if b = hT h then _ else hF h (128 * cj + j) b
      rw [if_neg e]
  · by_cases e : b = hT h
    · have h9 : hC (newO h ci n dv) b = 16 + ci := if_pos e
      rw [h9] at h2
      unfold sm_ty at h2
      split at h2 <;> first | omega | cases h2
    · rw [hc b e] at h1 h2
      have hl := (hlt b).2 ty' h2
      rw [r1] at hl
      obtain ⟨cB, k1, k2, k3⟩ := r4 b ty' h1 h2
      exact ⟨cB, k1, k2, (e3 b hl).trans k3⟩
  · by_cases e : b = hT h
    · have h9 : hC (newO h ci n dv) b = 16 + ci := if_pos e
      omega
    · rw [hc b e] at h1 h2
      have hl := (hlt b).2 ty' h2
      rw [r1] at hl
      obtain ⟨cell, k1, k2⟩ := r5 b ty' h1 h2
      exact ⟨cell, (e3 b hl).trans k1, k2⟩
/-- a new array -/
theorem sm_R.mkA {D : va_G} {base : Nat} {U : State} {h : sm_H} {H H1 : Heap} (hR : sm_R D base U h H) {t n : Nat} {dv : Value} {ty : FieldType} {cA : ClassId} (hb : base ≤ hT h) (ht : sm_ty t = some ty) (h15 : ¬ sm_ro t) (hA1 : ArrOfT U cA ty) (hA2 : va_RA U cA ty)
    (e1 : H1[hT h]? = some (arrV cA n (fun _ => dv))) (e2 : H1.size = hT h + 1) (e3 : ∀ q, q < hT h → H1[q]? = H[q]?) : sm_R D base U (newA h t n dv) H1 := by
  have hlt := fun (a : Nat) => hR.lt (a := a)
  obtain ⟨r1, r2, r3, r4, r5, r6⟩ := hR
  have hc : ∀ b, b ≠ hT h → hC (newA h t n dv) b = hC h b := fun b e => if_neg e
  have hl9 : ∀ b, b ≠ hT h → hL (newA h t n dv) b = hL h b := fun b e => if_neg e
  have ha9 : ∀ b, b ≠ hT h → hA (newA h t n dv) b = hA h b := fun b e => by
    funext j
    exact if_neg e
  have t16 : ∀ cj, t ≠ 16 + cj := by
    intro cj e
    rw [e] at ht
    unfold sm_ty at ht
    split at ht <;> first | omega | cases ht
  refine ⟨e2, fun b h1 h2 => ?_, fun b cj r h1 h2 => ?_, fun b ty' h1 h2 => ?_, fun b ty' h1 h2 => ?_, sm_Zn r6 r1 e2 e3 (sm_arS e1)⟩
  · by_cases e : b = hT h
    · rw [e]; exact hb
    · rw [hc b e] at h1 h2
      exact r2 b h1 h2
  · by_cases e : b = hT h
    · have h9 : hC (newA h t n dv) b = t := if_pos e
      exact absurd (h9.symm.trans h1) (t16 cj)
    · rw [hc b e] at h1
      have hl := (hlt b).1 cj r h1 h2
      rw [r1] at hl
      exact (r3 b cj r h1 h2).kept (e3 b hl)
  · by_cases e : b = hT h
    · have h9 : hC (newA h t n dv) b = t := if_pos e
      rw [h9, ht] at h2
      cases h2
      subst e
      refine ⟨cA, hA1, hA2, e1.trans ?_⟩
      have q1 : hL (newA h t n dv) (hT h) = n := if_pos rfl
      have q2 : hA (newA h t n dv) (hT h) = fun _ => dv := by
        funext j
        exact if_pos rfl
      rw [q1, q2]
    · rw [hc b e] at h1 h2
      have hl := (hlt b).2 ty' h2
      rw [r1] at hl
      obtain ⟨cB, k1, k2, k3⟩ := r4 b ty' h1 h2
      rw [hl9 b e, ha9 b e]
      exact ⟨cB, k1, k2, (e3 b hl).trans k3⟩
  · by_cases e : b = hT h
    · have h9 : hC (newA h t n dv) b = t := if_pos e
      exact absurd (by rw [h9] at h1; exact h1) h15
    · rw [hc b e] at h1 h2
      have hl := (hlt b).2 ty' h2
      rw [r1] at hl
      obtain ⟨cell, k1, k2⟩ := r5 b ty' h1 h2
      rw [hl9 b e, ha9 b e]
      exact ⟨cell, (e3 b hl).trans k1, k2⟩
