/-! the heap's instructions: what the machine does -/
/-- what the tables say of the classes -/
def sm_cls (Ts : List Cond) : Prop := ∀ (ci : Nat) (q : vw_C), xcl[ci]? = some q → q.2.2 ≤ 128 ∧ (∀ w ∈ u_ws q.1 q.2.1 q.2.2, w ∈ Ts) ∧ (∀ k, k < q.2.2 → parseFieldDescriptor (q.2.1 k).2.2.1 = some (xty ci k)) ∧ (∀ a, a < q.2.2 → ∀ b, b < q.2.2 → a ≠ b → (q.2.1 a).2.1 ≠ (q.2.1 b).2.1)
/-- a field's link: k its place, z = 0 in its own class's reach, else a nest mate's -/
def sm_fok (Ts NW : List Cond) (own : String) (x ci k z : Nat) : Prop := ∃ (q : vw_C) (ref : String), xcl[ci]? = some q ∧ k < q.2.2 ∧ (ref = (q.2.1 k).1 ∨ Cond.sameField ref (q.2.1 k).1 (q.2.1 k).2.1 (q.2.1 k).2.2.1 ∈ Ts) ∧
  ((z = 0 ∧ Cond.fieldLink own x ref (q.2.1 k).2.1 (q.2.1 k).2.2.1 ∈ Ts) ∨ (z ≠ 0 ∧ ∃ host, Cond.fieldLinkNest own x ref (q.2.1 k).2.1 (q.2.1 k).2.2.1 host ∈ NW))
/-- a field that may be written there -/
def sm_wok (own mn : String) (ci k z : Nat) : Prop := ∃ q : vw_C, xcl[ci]? = some q ∧ ((q.2.1 k).2.2.2 = false ∨ ((q.2.1 k).2.2.2 = true ∧ z = 0 ∧ mn = "<init>" ∧ (q.2.1 k).1 = own))
def sm_hok (Ts NW : List Cond) (own mn : String) (i : Instr) (d : Nat × Nat) : Prop := match i with
  | .getfield x => sm_fok Ts NW own x d.1 (d.2 / 2) (d.2 % 2)
  | .putfield x => sm_fok Ts NW own x d.1 (d.2 / 2) (d.2 % 2) ∧ sm_wok own mn d.1 (d.2 / 2) (d.2 % 2)
  | .new x => d.2 = 0 → ∃ q : vw_C, xcl[d.1]? = some q ∧ Cond.classLink own x q.1 ∈ Ts ∧ Cond.instantiable q.1 q.2.2 ∈ Ts ∧ Cond.initialized q.1 ∈ Ts
  | .newarray t => Cond.arrayClass (newarray.typeOf t) ∈ Ts
  | .checkcast x => ∃ q : vw_C, xcl[d.1]? = some q ∧ Cond.classLink own x q.1 ∈ Ts
  | .anewarray x => Cond.classLink own x "java/lang/Object" ∈ Ts ∧ Cond.arrayOver (.object "java/lang/Object") ∈ NW
  | .aastore => ∀ (ci : Nat) (q : vw_C), ci < xob → xcl[ci]? = some q → Cond.castable q.1 "java/lang/Object" ∈ NW
  | .ldc x => Cond.constant own x (sm_k d) ∈ Ts
  | .ldc2_w x => Cond.constantLong own x (lN d.1) ∈ Ts
  | .getstatic x => Cond.fieldLink own x "java/util/ArrayList" "DEFAULTCAPACITY_EMPTY_ELEMENTDATA" "[Ljava/lang/Object;" ∈ Ts
  | _ => True
theorem sm_inn {i : Int32} {n m : Nat} (h : sm_in i n) (e : m = n) : ¬ (i < 0 ∨ m ≤ i.toNatClampNeg) := fun z => z.elim h.1 (fun z => by rw [e] at z; exact absurd h.2 (Nat.not_lt.mpr z))
section SMH
variable {p : Program} {l : Launch} {e : Env} {R : Room} {s : State} {m : MethodId} {args : Array Value} {below : List Frame} {meth : Method} {c : Code} {H : Heap} {locs : List Loc} {cells slots : Nat} {Q : State → Prop} {cc : ByteArray} {pc base : Nat} {ls : Array Slot} {S S' : List Value} {D : va_G} {h h' : sm_H} {Ts NW : List Cond} {own : String}
theorem sm_same {Ts : List Cond} (hts : ∀ w ∈ Ts, w.before args s = true) {ref o n t : String} (hs : ref = o ∨ Cond.sameField ref o n t ∈ Ts) : ∀ x, s.fieldFound? o n t = some x → s.fieldFound? ref n t = some x := by
  intro x hx
  rcases hs with rfl | hs
  · exact hx
  · exact u_same (hts _ hs) x hx
theorem sm_getf (hexec : p.tables.exec = Jvm.exec) (hb : c.code = cc) (hts : ∀ w ∈ Ts, w.before args s = true) (hnw : ∀ w ∈ NW, va_Nw w s) (hcl : sm_cls Ts) (hown : s.vm.findClass own = some m.cls) (hK : va_K D xcl [] s) (hR : sm_R D base s h H) {x ci k z a : Nat} {r : List Value} (hok : sm_fok Ts NW own x ci k z) (hC1 : hC h a = 16 + ci) (hdg : decode cc pc = .ok (.getfield x, 3))
    (kk : W p l e R s m args below meth c H locs cells slots Q (F0 m (pc + 3) ls (hF h (128 * ci + k) a :: r))) : W p l e R s m args below meth c H locs cells slots Q (F0 m pc ls (.ref a :: r)) := by
  obtain ⟨q, ref, hq, hk, hs, hlk⟩ := hok
  obtain ⟨-, hin, hty, -⟩ := hcl ci q hq
  obtain ⟨cell, q1, q2, q3, q4⟩ := hR.2.2.1 a ci q hC1 hq
  obtain ⟨hS, hfc, kC, hkC, hkind⟩ := hK.1 ci _ hq
  obtain ⟨cf, kf, fi, f, hi, hsl⟩ := hS k hk
  have hst := (u_facts hfc hkC (u_lays hts hin hk) hi).1
  rcases hlk with ⟨-, hl⟩ | ⟨-, host, hl⟩
  · exact W.getf hexec hb hown (hts _ hl) (sm_same hts hs _ hi) hst q1 (by rw [q3]; exact fun h => by cases h) (by rw [hsl]; exact q4 k hk) rfl rfl hdg kk
  · exact va_Wgetf hexec hb hown (va_Nw.use rfl (hnw _ hl)) (sm_same hts hs _ hi) hst q1 (by rw [q3]; exact fun h => by cases h) (by rw [hsl]; exact q4 k hk) rfl rfl hdg kk
theorem sm_putf (hexec : p.tables.exec = Jvm.exec) (hb : c.code = cc) (hts : ∀ w ∈ Ts, w.before args s = true) (hnw : ∀ w ∈ NW, va_Nw w s) (hcl : sm_cls Ts) (hown : s.vm.findClass own = some m.cls) (hK : va_K D xcl [] s) (hR : sm_R D base s h H) {x ci k z a : Nat} {v : Value} {r : List Value} (hok : sm_fok Ts NW own x ci k z) (hwk : sm_wok own meth.name ci k z) (hC1 : hC h a = 16 + ci) (hn : narrow (xty ci k) v = v) (hfit : fits (xty ci k) v = true) (hdg : decode cc pc = .ok (.putfield x, 3)) (hf : ∀ q ∈ locs, base ≤ q.base)
    (kk : ∀ (H' : Heap) (locs' : List Loc), sm_R D base s (putF h (128 * ci + k) a v) H' → (∀ q ∈ locs', base ≤ q.base) → W p l e R s m args below meth c H' locs' cells slots Q (F0 m (pc + 3) ls r)) : W p l e R s m args below meth c H locs cells slots Q (F0 m pc ls (v :: .ref a :: r)) := by
  obtain ⟨q, ref, hq, hk, hs, hlk⟩ := hok
  obtain ⟨q', hq', hwr⟩ := hwk
  rw [hq] at hq'
  cases hq'
  obtain ⟨hN, hin, hty, hnm⟩ := hcl ci q hq
  have hap := va_apart (own := own) (ci := ci) hts hin (xty ci) hty hnm hK hq
  obtain ⟨cell, q1, q2, q3, q4⟩ := hR.2.2.1 a ci q hC1 hq
  obtain ⟨hS, hfc, kC, hkC, hkind⟩ := hK.1 ci _ hq
  obtain ⟨cf, kf, fi, f, hi, hsl⟩ := hS k hk
  have hst := (u_facts hfc hkC (u_lays hts hin hk) hi).1
  have hba : base ≤ a := hR.2.1 a (by omega) (fun z => by omega)
  have done : ∀ H' : Heap, H'[a]? = some (cell.setSlot f.slot v) → H'.size = H.size → (∀ q, q ≠ a → H'[q]? = H[q]?) → W p l e R s m args below meth c H' (locs ++ [⟨a, f.slot⟩]) cells slots Q (F0 m (pc + 3) ls r) := by
    intro H' e1 e2 e3
    rw [hsl] at e1 ⊢
    refine kk H' _ (hR.setF hC1 hq (fun cj r hr => (hcl cj r hr).1) (by omega) ⟨_, e1, q2, q3, t_set q4 hap hk v⟩ e2 e3) (fun q hq => ?_)
    rcases List.mem_append.mp hq with h1 | h1
    · exact hf q h1
    · rw [List.mem_singleton.mp h1]
      exact hba
  have hlay := hts _ (hin _ (u_in_lay hk))
  unfold u_lay at hlay
  rcases hwr with hfin | ⟨hfin, hz, hmn, hdecl⟩
  · rw [if_neg (by rw [hfin]; decide)] at hlay
    have h6 := u_store hfc hkC hkind hlay hi (hty k hk) hn hfit
    rcases hlk with ⟨-, hl⟩ | ⟨-, host, hl⟩
    · exact W.putK hexec hb (f := f) ⟨hown, hts _ hl, ⟨_, _, _, sm_same hts hs _ hi⟩, hst⟩ (by rw [q2]; exact h6) q1 q3 (by rw [hsl]; exact k2_hasslot (q4 k hk)) rfl rfl hdg done
    · exact va_WputK hexec hb (f := f) hown (va_Nw.use rfl (hnw _ hl)) (sm_same hts hs _ hi) hst (by rw [q2]; exact h6) q1 q3 (by rw [hsl]; exact k2_hasslot (q4 k hk)) rfl rfl hdg done
  · rcases hlk with ⟨-, hl⟩ | ⟨h0, -⟩
    · rw [if_pos hfin] at hlay
      have hcf : m.cls = cf := by
        obtain ⟨_, _, c', _, _, _, -, -, hf', -, -, -, hown2, -⟩ := Cond.laysFinal_spec hlay
        have e1 : c' = cf := by have := hi.symm.trans hf'; simp at this; exact this.1.symm
        rw [hdecl] at hown2
        rw [← e1]; exact Option.some.inj (hown.symm.trans hown2)
      have h6 := u_fits hfc hkC hkind (Or.inr hlay) hi (hty k hk) hn hfit
      exact W.putFinK hexec hb hown (hts _ hl) (sm_same hts hs _ hi) hst hcf hmn (by rw [q2]; exact h6) q1 q3 (by rw [hsl]; exact k2_hasslot (q4 k hk)) rfl rfl hdg done
    · exact absurd hz h0
theorem sm_ast {a i : Nat} {v : Value} {ty : FieldType} (hR : sm_R D base s h H) (h15 : ¬ sm_ro (hC h a)) (ht : sm_ty (hC h a) = some ty) (hf : ∀ q ∈ locs, base ≤ q.base) {cA : ClassId} (hA1 : ArrOfT s cA ty) (hA2 : va_RA s cA ty)
    (kk : ∀ (H' : Heap) (locs' : List Loc), sm_R D base s (putA h a i v) H' → (∀ q ∈ locs', base ≤ q.base) → W p l e R s m args below meth c H' locs' cells slots Q (F0 m (pc + 1) ls S)) :
    ∀ H' : Heap, H'[a]? = some ((arrV cA (hL h a) (hA h a)).setSlot i v) → H'.size = H.size → (∀ q, q ≠ a → H'[q]? = H[q]?) → W p l e R s m args below meth c H' (locs ++ [⟨a, i⟩]) cells slots Q (F0 m (pc + 1) ls S) := by
  intro H' e1 e2 e3
  rw [arrV_store] at e1
  have hba : base ≤ a := hR.2.1 a (by intro z; rw [z] at ht; cases ht) h15
  refine kk H' _ (hR.setA h15 ht hA1 hA2 e1 e2 e3) (fun q hq => ?_)
  rcases List.mem_append.mp hq with h1 | h1
  · exact hf q h1
  · rw [List.mem_singleton.mp h1]
    exact hba
theorem sm_heap (hexec : p.tables.exec = Jvm.exec) (hb : c.code = cc) (hts : ∀ w ∈ Ts, w.before args s = true) (hnw : ∀ w ∈ NW, va_Nw w s) (hcl : sm_cls Ts) (hown : s.vm.findClass own = some m.cls) (hK : va_K D xcl [] s) (hR : sm_R D base s h H) {i : Instr} {d : Nat × Nat} (hdg : decode cc pc = .ok (i, sm_len i)) (hok : sm_hok Ts NW own meth.name i d) (hh : sm_hp i d S h = some (S', h'))
    (hf : ∀ q ∈ locs, base ≤ q.base) (hbs : base ≤ hT h) (hcells : cells + (hT h' - hT h) ≤ R.cells) (hslots : slots + (hU h' - hU h) ≤ R.slots)
    (kk : ∀ (H' : Heap) (locs' : List Loc), sm_R D base s h' H' → (∀ q ∈ locs', base ≤ q.base) → W p l e R s m args below meth c H' locs' (cells + (hT h' - hT h)) (slots + (hU h' - hU h)) Q (F0 m (pc + sm_len i) ls S')) : W p l e R s m args below meth c H locs cells slots Q (F0 m pc ls S) := by
  have z1 : ∀ t : sm_H, hT t - hT t = 0 := fun t => Nat.sub_self _
  have z2 : ∀ t : sm_H, hU t - hU t = 0 := fun t => Nat.sub_self _
  cases i with
  | getfield x =>
    replace hh : sm_gf d.1 (d.2 / 2) S h = some (S', h') := hh
    unfold sm_gf at hh
    split at hh
    · split at hh
      · rename_i hc
        cases hh
        refine sm_getf hexec hb hts hnw hcl hown hK hR hok hc hdg ?_
        have := kk H locs hR hf
        rw [z1, z2] at this
        exact this
      · cases hh
    · cases hh
  | putfield x =>
    replace hh : sm_pf d.1 (d.2 / 2) S h = some (S', h') := hh
    unfold sm_pf at hh
    split at hh
    · split at hh
      · rename_i hc
        cases hh
        exact sm_putf hexec hb hts hnw hcl hown hK hR hok.1 hok.2 hc.1 hc.2.1 hc.2.2 hdg hf (fun H' locs' r1 r2 => by
          have := kk H' locs' r1 r2
          rw [show hT (putF h (128 * d.1 + d.2 / 2) _ _) = hT h from rfl, show hU (putF h (128 * d.1 + d.2 / 2) _ _) = hU h from rfl, z1, z2] at this
          exact this)
      · cases hh
    · cases hh
  | new x =>
    replace hh : (if d.2 = 0 then sm_nw d.1 S h else none) = some (S', h') := hh
    split at hh
    · rename_i hd0
      unfold sm_nw at hh
      obtain ⟨q, hq, hl, hins, hini⟩ := hok hd0
      rw [hq] at hh
      cases hh
      obtain ⟨hN, hin, hty, hnm⟩ := hcl d.1 q hq
      have hKn := hK.1 d.1 q hq
      have w1 : hT h + 1 - hT h = 1 := by omega
      have w2 : hU h + q.2.2 - hU h = q.2.2 := by omega
      rw [show hT (newO h d.1 q.2.2 _) = hT h + 1 from rfl, w1] at hcells
      rw [show hU (newO h d.1 q.2.2 _) = hU h + q.2.2 from rfl, w2] at hslots
      refine W.newcK hexec hb hown (hts _ hl) (hts _ hins) (hts _ hini) rfl hdg hcells hslots hKn.2.1 hR.1 fun H1 kC hkC e1 e2 e3 => ?_
      have := kk H1 locs (hR.mkO (ci := d.1) (n := q.2.2) (dv := fun g => defaultValue (xty d.1 (g - 128 * d.1))) hbs hq ((u_born (xty d.1) hts hin hKn hkC e1 hty).to (fun j _ => by rw [show 128 * d.1 + j - 128 * d.1 = j by omega])) e2 e3) hf
      rw [show hT (newO h d.1 q.2.2 _) = hT h + 1 from rfl, w1, show hU (newO h d.1 q.2.2 _) = hU h + q.2.2 from rfl, w2] at this
      exact this
    · cases hh
  | newarray t =>
    replace hh : sm_na t S h = some (S', h') := hh
    unfold sm_na at hh
    split at hh
    · rename_i n r
      split at hh
      · rename_i hc
        cases hh
        have w1 : hT h + 1 - hT h = 1 := by omega
        have w2 : hU h + n.toNatClampNeg - hU h = n.toNatClampNeg := by omega
        rw [show hT (newA h (sm_nt t) n.toNatClampNeg _) = hT h + 1 from rfl, w1] at hcells
        rw [show hU (newA h (sm_nt t) n.toNatClampNeg _) = hU h + n.toNatClampNeg from rfl, w2] at hslots
        have ht : sm_ty (sm_nt t) = some (newarray.typeOf t) ∧ ¬ sm_ro (sm_nt t) := by
          have := hc.2.2
          cases t <;> first | exact ⟨rfl, by decide⟩ | exact absurd rfl this
        refine va_newaK hexec hb (hts _ hok) rfl hdg rfl hc.1 rfl hc.2.1 hcells hslots hR.1 fun H1 cA e1 e2 e3 hAr hNm => ?_
        have := kk H1 locs (hR.mkA hbs ht.1 ht.2 hAr (by cases t <;> exact hNm) e1 e2 e3) hf
        rw [show hT (newA h (sm_nt t) n.toNatClampNeg _) = hT h + 1 from rfl, w1, show hU (newA h (sm_nt t) n.toNatClampNeg _) = hU h + n.toNatClampNeg from rfl, w2] at this
        exact this
      · cases hh
    · cases hh
  | arraylength =>
    replace hh : sm_le S h = some (S', h') := hh
    unfold sm_le at hh
    split at hh
    · split at hh
      · rename_i a r hc
        cases hh
        obtain ⟨ty, ht⟩ := Option.isSome_iff_exists.mp hc
        obtain ⟨cell, c1, c2, c3, c4, c5⟩ := hR.rd ht
        refine W.alen hexec hb c1 c2 (n := nI (hL h a)) (by rw [c4]; rfl) rfl rfl hdg ?_
        have := kk H locs hR hf
        rw [z1, z2] at this
        exact this
      · cases hh
    · cases hh
  | iaload =>
    replace hh : sm_al .int S h = some (S', h') := hh
    unfold sm_al at hh
    split at hh
    · split at hh
      · rename_i a r hc
        cases hh
        obtain ⟨cell, c1, c2, c3, c4, c5⟩ := hR.rd hc.1
        have hn := sm_inn hc.2 c4
        refine W.iald hexec hb c1 c2 c3 hn (c5 _ hc.2.2) rfl rfl hdg ?_
        have := kk H locs hR hf
        rw [z1, z2] at this
        exact this
      · cases hh
    · cases hh
  | laload =>
    replace hh : sm_al .long S h = some (S', h') := hh
    unfold sm_al at hh
    split at hh
    · split at hh
      · rename_i a r hc
        cases hh
        obtain ⟨cell, c1, c2, c3, c4, c5⟩ := hR.rd hc.1
        have hn := sm_inn hc.2 c4
        refine W.lald hexec hb c1 c2 c3 hn (c5 _ hc.2.2) rfl rfl hdg ?_
        have := kk H locs hR hf
        rw [z1, z2] at this
        exact this
      · cases hh
    · cases hh
  | caload =>
    replace hh : sm_al .char S h = some (S', h') := hh
    unfold sm_al at hh
    split at hh
    · split at hh
      · rename_i a r hc
        cases hh
        obtain ⟨cell, c1, c2, c3, c4, c5⟩ := hR.rd hc.1
        have hn := sm_inn hc.2 c4
        refine W.cald hexec hb c1 c2 c3 hn (c5 _ hc.2.2) rfl rfl hdg ?_
        have := kk H locs hR hf
        rw [z1, z2] at this
        exact this
      · cases hh
    · cases hh
  | baload =>
    replace hh : sm_bl2 S h = some (S', h') := hh
    unfold sm_bl2 at hh
    split at hh
    · split at hh
      · rename_i a r hc
        cases hh
        rcases hc.1 with h4 | h4
        · obtain ⟨cell, c1, c2, c3, c4, c5⟩ := hR.rd (a := a) (ty := .byte) (by rw [h4]; rfl)
          have hn := sm_inn hc.2 c4
          refine W.bald hexec hb c1 c2 c3 hn (c5 _ hc.2.2) rfl rfl hdg ?_
          have := kk H locs hR hf
          rw [z1, z2] at this
          exact this
        · obtain ⟨cell, c1, c2, c3, c4, c5⟩ := hR.rd (a := a) (ty := .boolean) (by rw [h4]; rfl)
          have hn := sm_inn hc.2 c4
          refine W.zald hexec hb c1 c2 c3 hn (c5 _ hc.2.2) rfl rfl hdg ?_
          have := kk H locs hR hf
          rw [z1, z2] at this
          exact this
      · cases hh
    · cases hh
  | iastore =>
    replace hh : sm_ai S h = some (S', h') := hh
    unfold sm_ai at hh
    split at hh
    · split at hh
      · rename_i a r hc
        cases hh
        have h15 : ¬ sm_ro (hC h a) := by rw [hc.1]; decide
        have ht : sm_ty (hC h a) = some .int := by rw [hc.1]; rfl
        obtain ⟨cA, a1, a2, a3⟩ := hR.2.2.2.1 a .int h15 ht
        refine W.iast hexec hb a3 (a1 _ _) (fun q => by cases q) (by rw [arrV_size]; exact fun z => z.elim hc.2.1 (fun z => absurd hc.2.2 (Nat.not_lt.mpr z))) rfl rfl hdg (sm_ast hR h15 ht hf a1 a2 fun H' locs' r1 r2 => ?_)
        have := kk H' locs' r1 r2
        rw [show hT (putA h a _ _) = hT h from rfl, show hU (putA h a _ _) = hU h from rfl, z1, z2] at this
        exact this
      · cases hh
    · cases hh
  | lastore =>
    replace hh : sm_aj S h = some (S', h') := hh
    unfold sm_aj at hh
    split at hh
    · split at hh
      · rename_i a r hc
        cases hh
        have h15 : ¬ sm_ro (hC h a) := by rw [hc.1]; decide
        have ht : sm_ty (hC h a) = some .long := by rw [hc.1]; rfl
        obtain ⟨cA, a1, a2, a3⟩ := hR.2.2.2.1 a .long h15 ht
        refine W.last hexec hb a3 (a1 _ _) (fun q => by cases q) (by rw [arrV_size]; exact fun z => z.elim hc.2.1 (fun z => absurd hc.2.2 (Nat.not_lt.mpr z))) rfl rfl hdg (sm_ast hR h15 ht hf a1 a2 fun H' locs' r1 r2 => ?_)
        have := kk H' locs' r1 r2
        rw [show hT (putA h a _ _) = hT h from rfl, show hU (putA h a _ _) = hU h from rfl, z1, z2] at this
        exact this
      · cases hh
    · cases hh
  | castore =>
    replace hh : sm_ac S h = some (S', h') := hh
    unfold sm_ac at hh
    split at hh
    · split at hh
      · rename_i a r hc
        cases hh
        have h15 : ¬ sm_ro (hC h a) := by rw [hc.1]; decide
        have ht : sm_ty (hC h a) = some .char := by rw [hc.1]; rfl
        obtain ⟨cA, a1, a2, a3⟩ := hR.2.2.2.1 a .char h15 ht
        refine W.cast hexec hb a3 (a1 _ _) (fun q => by cases q) (by rw [arrV_size]; exact fun z => z.elim hc.2.1 (fun z => absurd hc.2.2 (Nat.not_lt.mpr z))) rfl rfl hdg (sm_ast hR h15 ht hf a1 a2 fun H' locs' r1 r2 => ?_)
        have := kk H' locs' r1 r2
        rw [show hT (putA h a _ _) = hT h from rfl, show hU (putA h a _ _) = hU h from rfl, z1, z2] at this
        exact this
      · cases hh
    · cases hh
  | bastore =>
    replace hh : sm_ab S h = some (S', h') := hh
    unfold sm_ab at hh
    split at hh
    · split at hh
      · rename_i a r hc
        cases hh
        have h15 : ¬ sm_ro (hC h a) := by rw [hc.1]; decide
        have ht : sm_ty (hC h a) = some .byte := by rw [hc.1]; rfl
        obtain ⟨cA, a1, a2, a3⟩ := hR.2.2.2.1 a .byte h15 ht
        refine W.bast hexec hb a3 (a1 _ _) (fun q => by cases q) (by rw [arrV_size]; exact fun z => z.elim hc.2.1 (fun z => absurd hc.2.2 (Nat.not_lt.mpr z))) rfl rfl hdg (sm_ast hR h15 ht hf a1 a2 fun H' locs' r1 r2 => ?_)
        have := kk H' locs' r1 r2
        rw [show hT (putA h a _ _) = hT h from rfl, show hU (putA h a _ _) = hU h from rfl, z1, z2] at this
        exact this
      · split at hh
        · rename_i a r _ hc
          cases hh
          have h15 : ¬ sm_ro (hC h a) := by rw [hc.1]; decide
          have ht : sm_ty (hC h a) = some .boolean := by rw [hc.1]; rfl
          obtain ⟨cA, a1, a2, a3⟩ := hR.2.2.2.1 a .boolean h15 ht
          refine W.zast hexec hb a3 (a1 _ _) (fun q => by cases q) (by rw [arrV_size]; exact fun z => z.elim hc.2.1 (fun z => absurd hc.2.2 (Nat.not_lt.mpr z))) rfl rfl hdg (sm_ast hR h15 ht hf a1 a2 fun H' locs' r1 r2 => ?_)
          have := kk H' locs' r1 r2
          rw [show hT (putA h a _ _) = hT h from rfl, show hU (putA h a _ _) = hU h from rfl, z1, z2] at this
          exact this
        · cases hh
    · cases hh
  | checkcast x =>
    replace hh : sm_cc d.1 S h = some (S', h') := hh
    unfold sm_cc at hh
    obtain ⟨q, hq, hl⟩ := hok
    split at hh
    · cases hh
      refine lv_castN hexec hb hdg ?_
      have := kk H locs hR hf
      rw [z1, z2] at this
      exact this
    · split at hh
      · rename_i a r hc
        cases hh
        obtain ⟨cell, q1, q2, q3, q4⟩ := hR.2.2.1 a d.1 q hc hq
        have hKn := hK.1 d.1 q hq
        refine va_castS hexec hb hown (hts _ hl) hKn.2 ⟨cell, q1, by rw [q3]; rfl, by rw [q2]; exact hKn.2.1⟩ hdg ?_
        have := kk H locs hR hf
        rw [z1, z2] at this
        exact this
      · cases hh
    · cases hh
  | anewarray x =>
    replace hh : sm_an S h = some (S', h') := hh
    unfold sm_an at hh
    split at hh
    · rename_i n r
      split at hh
      · rename_i hc
        cases hh
        have w1 : hT h + 1 - hT h = 1 := by omega
        have w2 : hU h + n.toNatClampNeg - hU h = n.toNatClampNeg := by omega
        rw [show hT (newA h 7 n.toNatClampNeg .null) = hT h + 1 from rfl, w1] at hcells
        rw [show hU (newA h 7 n.toNatClampNeg .null) = hU h + n.toNatClampNeg from rfl, w2] at hslots
        refine W.anew hexec hb hown (hts _ hok.1) (va_AO.use (C := "java/lang/Object") (hnw _ hok.2)) rfl hdg rfl hc.1 hc.2 hcells hslots fun cA kA comp f1 f2 f3 f4 => ?_
        have e1 : (H.push ({ cls := cA, slots := Array.replicate n.toNatClampNeg .null, vm := .none } : Cell))[hT h]? = some (arrV cA n.toNatClampNeg (fun _ => .null)) := by rw [← hR.1, Array.getElem?_push_size, ← arrV_new]
        have e2 : (H.push ({ cls := cA, slots := Array.replicate n.toNatClampNeg .null, vm := .none } : Cell)).size = hT h + 1 := by rw [Array.size_push, hR.1]
        have e3 : ∀ q : Nat, q < hT h → (H.push ({ cls := cA, slots := Array.replicate n.toNatClampNeg .null, vm := .none } : Cell))[q]? = H[q]? := fun q hq => by rw [Array.getElem?_push, if_neg (by rw [hR.1]; omega)]
        have := kk _ locs (hR.mkA (t := 7) (ty := .object "java/lang/Object") hbs rfl (by decide) (fun N z => ⟨(fun k h => by cases h), kA, f2, comp, f3⟩) ⟨kA, comp, f2, f3, f4, f1⟩ e1 e2 e3) hf
        rw [show hT (newA h 7 n.toNatClampNeg .null) = hT h + 1 from rfl, w1, show hU (newA h 7 n.toNatClampNeg .null) = hU h + n.toNatClampNeg from rfl, w2] at this
        rw [hR.1]
        exact this
      · cases hh
    · cases hh
  | aaload =>
    replace hh : sm_al (.object "java/lang/Object") S h = some (S', h') := hh
    unfold sm_al at hh
    split at hh
    · split at hh
      · rename_i a r hc
        cases hh
        obtain ⟨cell, c1, c2, c3, c4, c5⟩ := hR.rd hc.1
        have hn := sm_inn hc.2 c4
        refine W.aald hexec hb c1 c2 rfl c3 hn (c5 _ hc.2.2) rfl rfl hdg ?_
        have := kk H locs hR hf
        rw [z1, z2] at this
        exact this
      · cases hh
    · cases hh
  | aastore =>
    replace hh : sm_aa S h = some (S', h') := hh
    unfold sm_aa at hh
    split at hh
    · split at hh
      · rename_i v i a r hc
        cases hh
        have h15 : ¬ sm_ro (hC h a) := by rw [hc.1]; decide
        have ht : sm_ty (hC h a) = some (.object "java/lang/Object") := by rw [hc.1]; rfl
        obtain ⟨cA, a1, a2, a3⟩ := hR.2.2.2.1 a _ h15 ht
        obtain ⟨ci, hci⟩ : ∃ ci, hC h v = 16 + ci := ⟨hC h v - 16, by omega⟩
        have hlt : ci < xob := by omega
        obtain ⟨q, hq⟩ : ∃ q, xcl[ci]? = some q := ⟨_, List.getElem?_eq_getElem (Nat.lt_of_lt_of_le hlt xob_le)⟩
        obtain ⟨cellV, g1, g2, g3, -⟩ := hR.2.2.1 v ci q hci hq
        have hcls := (hK.1 ci q hq).2
        obtain ⟨kA, comp, k1, k2, k3, -⟩ := id a2
        obtain ⟨kE, hkE, -⟩ := Vm.findClass_spec k3
        obtain ⟨c0, t1, f1, f2, f3⟩ := Cond.castable_spec (va_Nw.use (A := args) rfl (hnw _ (hok ci q hlt hq)))
        cases hcls.1.symm.trans f1
        cases k3.symm.trans f2
        obtain ⟨kC, hkC, -⟩ := hcls.2
        refine W.aast hexec hb a3 (fun q h => by cases h) (fun h => by cases h) k1 k2 rfl hkE ⟨hc.2.1.1, by rw [arrV_size]; exact hc.2.1.2⟩ g1 (fun q h => by rw [g3] at h; cases h) (by rw [g2]; exact hkC) (by rw [g2]; exact f3) rfl rfl hdg (sm_ast hR h15 ht hf a1 a2 fun H' locs' r1 r2 => ?_)
        have := kk H' locs' r1 r2
        rw [show hT (putA h a _ _) = hT h from rfl, show hU (putA h a _ _) = hU h from rfl, z1, z2] at this
        exact this
      · cases hh
    · split at hh
      · rename_i i a r hc
        cases hh
        have h15 : ¬ sm_ro (hC h a) := by rw [hc.1]; decide
        have ht : sm_ty (hC h a) = some (.object "java/lang/Object") := by rw [hc.1]; rfl
        obtain ⟨cA, a1, a2, a3⟩ := hR.2.2.2.1 a _ h15 ht
        refine va_WaastN hexec hb a3 (a1 _ _) (fun q => by cases q) (by rw [arrV_size]; exact fun z => z.elim hc.2.1 (fun z => absurd hc.2.2 (Nat.not_lt.mpr z))) rfl rfl hdg (sm_ast hR h15 ht hf a1 a2 fun H' locs' r1 r2 => ?_)
        have := kk H' locs' r1 r2
        rw [show hT (putA h a _ _) = hT h from rfl, show hU (putA h a _ _) = hU h from rfl, z1, z2] at this
        exact this
      · cases hh
    · cases hh
  | ldc x =>
    cases hh
    refine lv_ldc hexec hb hown (hts _ hok) hdg ?_
    have := kk H locs hR hf
    rw [z1, z2] at this
    exact this
  | ldc2_w x =>
    cases hh
    refine lv_ldc2 hexec hb hown (hts _ hok) hdg ?_
    have := kk H locs hR hf
    rw [z1, z2] at this
    exact this
  | getstatic x =>
    cases hh
    obtain ⟨cf, kf, fi, f, a, cell, g1, g2, g3, g4, g5, g6, g7, g8⟩ := hR.2.2.2.2.2.1
    refine W.gets hexec hb hown (hts _ hok) g1 g2 g3 g4 g5 (fun e => by rw [e] at g6; cases g6) g7 rfl hdg ?_
    have := kk H locs hR hf
    rw [z1, z2] at this
    exact this
  | _ => cases hh
end SMH
