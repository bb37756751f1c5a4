/-! AN EDITION's LINKS GROW: lines, ways, stops -/
def PlV (h : sm_H) (pa : Nat → Nat) (ps : List Pl) (ln : Nat → Nat) (lk st : Nat → Prop) (bt : Nat → Nat → Nat) : Prop := ∀ k, k < ps.length → hC h (pa k) = 22 ∧ (∀ a, a < 7 → hF h (768 + a) (pa k) = .int (atP ps a k)) ∧ hF h 775 (pa k) = bsV pa ps k ∧ hF h 776 (pa k) = .int (nI (ln k)) ∧ hF h 777 (pa k) = .int (pit (lk k) (nI 1) (nI 0)) ∧ hF h 778 (pa k) = .int (nI 0) ∧ hF h 779 (pa k) = .int (nI k) ∧ hF h 780 (pa k) = .long (lN (bt 0 k)) ∧ hF h 781 (pa k) = .long (lN (bt 1 k)) ∧ hF h 782 (pa k) = .long (lN (bt 2 k)) ∧ hF h 783 (pa k) = .int (pit (st k) (nI 1) (nI 0))
theorem PlV.upd {h : sm_H} {pa : Nat → Nat} {ps : List Pl} {ln ln' : Nat → Nat} {lk st lk' st' : Nat → Prop} {bt bt' : Nat → Nat → Nat} (x : PlV h pa ps ln lk st bt) (inj : ∀ i j, i < ps.length → j < ps.length → pa i = pa j → i = j) {a f : Nat} {v : Value} (ha : a < ps.length) (hf : 776 ≤ f) (h8 : f ≠ 778) (h9 : f ≠ 779) (ho : ∀ k, k ≠ a → ln' k = ln k ∧ (lk' k ↔ lk k) ∧ (st' k ↔ st k) ∧ bt' 0 k = bt 0 k ∧ bt' 1 k = bt 1 k ∧ bt' 2 k = bt 2 k) (hn : hF (putF h f (pa a) v) 776 (pa a) = .int (nI (ln' a)) ∧ hF (putF h f (pa a) v) 777 (pa a) = .int (pit (lk' a) (nI 1) (nI 0)) ∧ hF (putF h f (pa a) v) 780 (pa a) = .long (lN (bt' 0 a)) ∧ hF (putF h f (pa a) v) 781 (pa a) = .long (lN (bt' 1 a)) ∧ hF (putF h f (pa a) v) 782 (pa a) = .long (lN (bt' 2 a)) ∧ hF (putF h f (pa a) v) 783 (pa a) = .int (pit (st' a) (nI 1) (nI 0))) : PlV (putF h f (pa a) v) pa ps ln' lk' st' bt' := by
  intro k hk
  obtain ⟨x0, x1, x2, x3, x4, x5, x6, x7, x8, x9, x10⟩ := x k hk
  by_cases q : k = a
  · subst q
    obtain ⟨n1, n2, n3, n4, n5, n6⟩ := hn
    exact ⟨hC_putF.trans x0, fun i hi => (hF_putF_f (by omega)).trans (x1 i hi), (hF_putF_f (by omega)).trans x2, n1, n2, (hF_putF_f (Ne.symm h8)).trans x5, (hF_putF_f (Ne.symm h9)).trans x6, n3, n4, n5, n6⟩
  · have hne : pa k ≠ pa a := fun z => q (inj k a hk ha z)
    obtain ⟨o1, o2, o3, o4, o5, o6⟩ := ho k q
    have s := samA.putF (h := h) (f := f) (v := v) hne
    exact ⟨s.1.trans x0, fun i hi => (s.2.2.1 _).trans (x1 i hi), (s.2.2.1 _).trans x2, by rw [o1]; exact (s.2.2.1 _).trans x3, by rw [pit_c o2]; exact (s.2.2.1 _).trans x4, (s.2.2.1 _).trans x5, (s.2.2.1 _).trans x6, by rw [o4]; exact (s.2.2.1 _).trans x7, by rw [o5]; exact (s.2.2.1 _).trans x8, by rw [o6]; exact (s.2.2.1 _).trans x9, by rw [pit_c o3]; exact (s.2.2.1 _).trans x10⟩
/-- what is there as a line's places are counted -/
def AdC (h h' : sm_H) (ed lp ep : Nat) (pa : Nat → Nat) (ps : List Pl) (nw ns : Nat) (ln : Nat → Nat) (lk st : Nat → Prop) (bt : Nat → Nat → Nat) : Prop := (hC h' ed = 17 ∧ hF h' 128 ed = .ref lp ∧ hF h' 129 ed = .int (nI nw) ∧ hF h' 130 ed = .int (nI ns)) ∧ Lst h' lp ep ps.length pa ∧ PlV h' pa ps ln lk st bt ∧ (∀ c x, bt c x < 2 ^ 64) ∧ hT h' = hT h ∧ hU h' = hU h ∧ hZ h' = hZ h ∧ (∀ a, hC h' a = hC h a) ∧ ∀ c, c ≠ ed → (∀ k, k < ps.length → c ≠ pa k) → samA h h' c
section ADC
variable {h h' : sm_H} {ed lp ep : Nat} {pa : Nat → Nat} {ps : List Pl} {nw ns : Nat} {ln : Nat → Nat} {lk st : Nat → Prop} {bt : Nat → Nat → Nat}
theorem AdC.put {ln' : Nat → Nat} {lk' st' : Nat → Prop} {bt' : Nat → Nat → Nat} (x : AdC h h' ed lp ep pa ps nw ns ln lk st bt) {a f : Nat} {v : Value} (ha : a < ps.length) (V : PlV (putF h' f (pa a) v) pa ps ln' lk' st' bt') (hb : ∀ c x, bt' c x < 2 ^ 64) : AdC h (putF h' f (pa a) v) ed lp ep pa ps nw ns ln' lk' st' bt' := by
  obtain ⟨⟨x1, x2, x3, x4⟩, x5, x6, x7, x8, x9, x10, x11, x12⟩ := x
  have hk := (x6 a ha).1
  have n1 : ed ≠ pa a := kne x1 hk (by decide)
  have n2 : lp ≠ pa a := kne x5.1 hk (by decide)
  have n3 : ep ≠ pa a := kne2 x5.ke hk (by decide) (by decide)
  have se := samA.putF (h := h') (f := f) (v := v) n1
  exact ⟨⟨se.1.trans x1, (se.2.2.1 _).trans x2, (se.2.2.1 _).trans x3, (se.2.2.1 _).trans x4⟩, x5.same (samA.putF n2) (samA.putF n3) (fun i hi => hC_putF) hZ_putF (by rw [hT_putF]; exact Nat.le_refl _), V, hb, hT_putF.trans x8, hU_putF.trans x9, hZ_putF.trans x10, fun b => hC_putF.trans (x11 b), fun c hc hc2 => (x12 c hc hc2).trans (samA.putF (hc2 a ha))⟩
theorem AdC.uln (x : AdC h h' ed lp ep pa ps nw ns ln lk st bt) (inj : ∀ i j, i < ps.length → j < ps.length → pa i = pa j → i = j) {a v : Nat} (ha : a < ps.length) : AdC h (putF h' 776 (pa a) (.int (nI v))) ed lp ep pa ps nw ns (fun k => if k = a then v else ln k) lk st bt := by
  obtain ⟨y0, y1, y2, y3, y4, y5, y6, y7, y8, y9, y10⟩ := x.2.2.1 a ha
  refine x.put ha (x.2.2.1.upd inj ha (by decide) (by decide) (by decide) (fun k q => ⟨if_neg q, Iff.rfl, Iff.rfl, rfl, rfl, rfl⟩) ⟨?_, (hF_putF_f (by decide)).trans y4, (hF_putF_f (by decide)).trans y7, (hF_putF_f (by decide)).trans y8, (hF_putF_f (by decide)).trans y9, (hF_putF_f (by decide)).trans y10⟩) x.2.2.2.1
  rw [if_pos rfl]
  exact hF_putF
theorem AdC.ulk (x : AdC h h' ed lp ep pa ps nw ns ln lk st bt) (inj : ∀ i j, i < ps.length → j < ps.length → pa i = pa j → i = j) {a : Nat} (ha : a < ps.length) : AdC h (putF h' 777 (pa a) (.int (nI 1))) ed lp ep pa ps nw ns ln (fun k => lk k ∨ k = a) st bt := by
  obtain ⟨y0, y1, y2, y3, y4, y5, y6, y7, y8, y9, y10⟩ := x.2.2.1 a ha
  refine x.put ha (x.2.2.1.upd inj ha (by decide) (by decide) (by decide) (fun k q => ⟨rfl, ⟨fun z => z.resolve_right q, Or.inl⟩, Iff.rfl, rfl, rfl, rfl⟩) ⟨(hF_putF_f (by decide)).trans y3, ?_, (hF_putF_f (by decide)).trans y7, (hF_putF_f (by decide)).trans y8, (hF_putF_f (by decide)).trans y9, (hF_putF_f (by decide)).trans y10⟩) x.2.2.2.1
  rw [pit_y (Or.inr rfl)]
  exact hF_putF
theorem AdC.ust (x : AdC h h' ed lp ep pa ps nw ns ln lk st bt) (inj : ∀ i j, i < ps.length → j < ps.length → pa i = pa j → i = j) {a : Nat} (ha : a < ps.length) : AdC h (putF h' 783 (pa a) (.int (nI 1))) ed lp ep pa ps nw ns ln lk (fun k => st k ∨ k = a) bt := by
  obtain ⟨y0, y1, y2, y3, y4, y5, y6, y7, y8, y9, y10⟩ := x.2.2.1 a ha
  refine x.put ha (x.2.2.1.upd inj ha (by decide) (by decide) (by decide) (fun k q => ⟨rfl, Iff.rfl, ⟨fun z => z.resolve_right q, Or.inl⟩, rfl, rfl, rfl⟩) ⟨(hF_putF_f (by decide)).trans y3, (hF_putF_f (by decide)).trans y4, (hF_putF_f (by decide)).trans y7, (hF_putF_f (by decide)).trans y8, (hF_putF_f (by decide)).trans y9, ?_⟩) x.2.2.2.1
  rw [pit_y (Or.inr rfl)]
  exact hF_putF
theorem AdC.b0 (x : AdC h h' ed lp ep pa ps nw ns ln lk st bt) (inj : ∀ i j, i < ps.length → j < ps.length → pa i = pa j → i = j) {a v : Nat} (ha : a < ps.length) (hv : v < 2 ^ 64) : ∃ bt', (∀ c k, bt' c k = if c = 0 ∧ k = a then v else bt c k) ∧ AdC h (putF h' 780 (pa a) (.long (lN v))) ed lp ep pa ps nw ns ln lk st bt' := by
  obtain ⟨y0, y1, y2, y3, y4, y5, y6, y7, y8, y9, y10⟩ := x.2.2.1 a ha
  refine ⟨fun c k => if c = 0 ∧ k = a then v else bt c k, fun _ _ => rfl, x.put ha (x.2.2.1.upd inj ha (by decide) (by decide) (by decide) (fun k q => ⟨rfl, Iff.rfl, Iff.rfl, if_neg (fun z => q z.2), if_neg (fun z => q z.2), if_neg (fun z => q z.2)⟩) ⟨(hF_putF_f (by decide)).trans y3, (hF_putF_f (by decide)).trans y4, ?_, (hF_putF_f (by decide)).trans y8, (hF_putF_f (by decide)).trans y9, (hF_putF_f (by decide)).trans y10⟩) (fun c k => ?_)⟩
  · rw [if_pos ⟨rfl, rfl⟩]; exact hF_putF
  · split
    · exact hv
    · exact x.2.2.2.1 c k
theorem AdC.b1 (x : AdC h h' ed lp ep pa ps nw ns ln lk st bt) (inj : ∀ i j, i < ps.length → j < ps.length → pa i = pa j → i = j) {a v : Nat} (ha : a < ps.length) (hv : v < 2 ^ 64) : ∃ bt', (∀ c k, bt' c k = if c = 1 ∧ k = a then v else bt c k) ∧ AdC h (putF h' 781 (pa a) (.long (lN v))) ed lp ep pa ps nw ns ln lk st bt' := by
  obtain ⟨y0, y1, y2, y3, y4, y5, y6, y7, y8, y9, y10⟩ := x.2.2.1 a ha
  refine ⟨fun c k => if c = 1 ∧ k = a then v else bt c k, fun _ _ => rfl, x.put ha (x.2.2.1.upd inj ha (by decide) (by decide) (by decide) (fun k q => ⟨rfl, Iff.rfl, Iff.rfl, if_neg (fun z => q z.2), if_neg (fun z => q z.2), if_neg (fun z => q z.2)⟩) ⟨(hF_putF_f (by decide)).trans y3, (hF_putF_f (by decide)).trans y4, (hF_putF_f (by decide)).trans y7, ?_, (hF_putF_f (by decide)).trans y9, (hF_putF_f (by decide)).trans y10⟩) (fun c k => ?_)⟩
  · rw [if_pos ⟨rfl, rfl⟩]; exact hF_putF
  · split
    · exact hv
    · exact x.2.2.2.1 c k
theorem AdC.b2 (x : AdC h h' ed lp ep pa ps nw ns ln lk st bt) (inj : ∀ i j, i < ps.length → j < ps.length → pa i = pa j → i = j) {a v : Nat} (ha : a < ps.length) (hv : v < 2 ^ 64) : ∃ bt', (∀ c k, bt' c k = if c = 2 ∧ k = a then v else bt c k) ∧ AdC h (putF h' 782 (pa a) (.long (lN v))) ed lp ep pa ps nw ns ln lk st bt' := by
  obtain ⟨y0, y1, y2, y3, y4, y5, y6, y7, y8, y9, y10⟩ := x.2.2.1 a ha
  refine ⟨fun c k => if c = 2 ∧ k = a then v else bt c k, fun _ _ => rfl, x.put ha (x.2.2.1.upd inj ha (by decide) (by decide) (by decide) (fun k q => ⟨rfl, Iff.rfl, Iff.rfl, if_neg (fun z => q z.2), if_neg (fun z => q z.2), if_neg (fun z => q z.2)⟩) ⟨(hF_putF_f (by decide)).trans y3, (hF_putF_f (by decide)).trans y4, (hF_putF_f (by decide)).trans y7, (hF_putF_f (by decide)).trans y8, ?_, (hF_putF_f (by decide)).trans y10⟩) (fun c k => ?_)⟩
  · rw [if_pos ⟨rfl, rfl⟩]; exact hF_putF
  · split
    · exact hv
    · exact x.2.2.2.1 c k
theorem AdC.eput (x : AdC h h' ed lp ep pa ps nw ns ln lk st bt) {f v : Nat} {nw' ns' : Nat} (hf : f ≠ 128) (h1 : hF (putF h' f ed (.int (nI v))) 129 ed = .int (nI nw')) (h2 : hF (putF h' f ed (.int (nI v))) 130 ed = .int (nI ns')) : AdC h (putF h' f ed (.int (nI v))) ed lp ep pa ps nw' ns' ln lk st bt := by
  obtain ⟨⟨x1, x2, x3, x4⟩, x5, x6, x7, x8, x9, x10, x11, x12⟩ := x
  have n2 : lp ≠ ed := kne x5.1 x1 (by decide)
  have n3 : ep ≠ ed := kne2 x5.ke x1 (by decide) (by decide)
  refine ⟨⟨hC_putF.trans x1, (hF_putF_f (Ne.symm hf)).trans x2, h1, h2⟩, x5.same (samA.putF n2) (samA.putF n3) (fun i hi => hC_putF) hZ_putF (by rw [hT_putF]; exact Nat.le_refl _), fun k hk => ?_, x7, hT_putF.trans x8, hU_putF.trans x9, hZ_putF.trans x10, fun b => hC_putF.trans (x11 b), fun c hc hc2 => (x12 c hc hc2).trans (samA.putF hc)⟩
  obtain ⟨y0, y1, y2, y3, y4, y5, y6, y7, y8, y9, y10⟩ := x6 k hk
  have s := samA.putF (h := h') (f := f) (v := .int (nI v)) (kne y0 x1 (by decide))
  exact ⟨s.1.trans y0, fun i hi => (s.2.2.1 _).trans (y1 i hi), (s.2.2.1 _).trans y2, (s.2.2.1 _).trans y3, (s.2.2.1 _).trans y4, (s.2.2.1 _).trans y5, (s.2.2.1 _).trans y6, (s.2.2.1 _).trans y7, (s.2.2.1 _).trans y8, (s.2.2.1 _).trans y9, (s.2.2.1 _).trans y10⟩
theorem AdC.unw (x : AdC h h' ed lp ep pa ps nw ns ln lk st bt) {v : Nat} : AdC h (putF h' 129 ed (.int (nI v))) ed lp ep pa ps v ns ln lk st bt := x.eput (by decide) hF_putF ((hF_putF_f (by decide)).trans x.1.2.2.2)
theorem AdC.uns (x : AdC h h' ed lp ep pa ps nw ns ln lk st bt) {v : Nat} : AdC h (putF h' 130 ed (.int (nI v))) ed lp ep pa ps nw v ln lk st bt := x.eput (by decide) ((hF_putF_f (by decide)).trans x.1.2.2.1) hF_putF
end ADC
theorem EdF.ad {h : sm_H} {ed lp ep : Nat} {pa : Nat → Nat} {bt : Nat → Nat → Nat} {E : Ed} (X : EdF h ed lp ep pa bt E (fun _ => nI 0)) : AdC h h ed lp ep pa E.1 E.2.1.length E.2.2.length (linE E) (lnkE E) (stpE E) bt := ⟨X.1, X.2.1, X.2.2.1, X.2.2.2.1, rfl, rfl, rfl, fun _ => rfl, fun c _ _ => samA.refl h c⟩
/-- the line is counted: the edition is the new one -/
theorem RS.ad {h0 h h' : sm_H} {r sg sp ed len : Nat} {tx : Nat → Int32} {E E' : Ed} {s : Nat × Int32} {dT dU : Nat} (R : RS h0 h r sg sp ed len tx E s dT dU) {esp sn lp ep : Nat} {sf pa : Nat → Nat} {bt : Nat → Nat → Nat} (SL : Lst h sp esp sn sf ∧ (esp = hZ h ∨ hT h0 ≤ esp)) (X : EdF h ed lp ep pa bt E (fun _ => nI 0)) (O : EdO h (dR h0 h r sp esp) ed lp ep pa E) {nw ns : Nat} {ln : Nat → Nat} {lk st : Nat → Prop} {bt' : Nat → Nat → Nat} (Y : AdC h h' ed lp ep pa E.1 nw ns ln lk st bt') (e0 : E'.1.length = E.1.length) (hat : ∀ a k, k < E.1.length → atP E'.1 a k = atP E.1 a k) (e1 : nw = E'.2.1.length) (e2 : ns = E'.2.2.length) (h1 : ∀ k, k < E.1.length → ln k = linE E' k) (h2 : ∀ k, k < E.1.length → (lk k ↔ lnkE E' k)) (h3 : ∀ k, k < E.1.length → (st k ↔ stpE E' k)) (hB : BtW E' bt') : RS h0 h' r sg sp ed len tx E' s dT dU := by
  obtain ⟨B, w, f, ⟨r1, r2, r3, r4, r5⟩, ⟨z1, z2⟩, _⟩ := R
  obtain ⟨⟨y1, y2, y3, y4⟩, y5, y6, y7, y8, y9, y10, y11, y12⟩ := Y
  have hT0 := f.1
  have hzh : hZ h = hZ h0 := f.2.2.2.2.1
  have zk : hC h (hZ h) = 14 := by rw [hzh]; exact ((f.2.2.2.2.2 _ z2 id).1).trans z1
  have sk : ∀ a c, hC h a = c → c ≠ 17 → c ≠ 22 → samA h h' a := fun a c hc n1 n2 => y12 a (kne hc X.1.1 n1) (fun k hk => kne hc (X.2.2.1 k hk).1 n2)
  have sr := sk r 24 B.1 (by decide) (by decide)
  have hTe : hT h ≤ hT h' := Nat.le_of_eq y8.symm
  refine ⟨B.same (sr.1.trans B.1) (fun g _ _ => sr.2.2.1 g) (sk sg 3 B.2.2.2.2.2.1 (by decide) (by decide)) ((y11 sp).trans B.2.2.2.2.2.2.2.2.1), ⟨rfl, rfl, rfl, fun a _ => samA.refl h' a, sr.1.trans B.1, fun _ _ _ => rfl, (sr.2.2.1 _).trans w.2.2.2.2.2.2.1, (sr.2.2.1 _).trans w.2.2.2.2.2.2.2.1, w.2.2.2.2.2.2.2.2⟩, ?_, ⟨r1, by omega, r3, by omega, r5⟩, ⟨z1, z2⟩, esp, sn, sf, lp, ep, pa, bt', ⟨SL.1.kp (sk sp 26 SL.1.1 (by decide) (by decide)) (SL.1.ke.elim (fun q => sk esp 14 q (by decide) (by decide)) (fun q => sk esp 7 q (by decide) (by decide))) (fun b _ _ _ => y11 b) y10 hTe, by rw [y10]; exact SL.2⟩, ⟨⟨y1, y2, by rw [← e1]; exact y3, by rw [← e2]; exact y4⟩, by rw [e0]; exact y5, fun k hk => ?_, hB⟩, ?_⟩
  · refine f.trans (show Fr h h' (fun c => c = ed ∨ ∃ k, k < E.1.length ∧ c = pa k) 0 0 from ⟨hTe, by omega, by omega, by omega, y10, fun c _ hn => y12 c (fun z => hn (Or.inl z)) (fun k hk z => hn (Or.inr ⟨k, hk, z⟩))⟩) (fun _ _ q => q) (fun c hc q => ?_) (by omega) (by omega)
    rcases q with q | ⟨k, hk, q⟩
    · have := O.1.1.1; omega
    · have := (O.2.2.1 k hk).1; omega
  · rw [e0] at hk
    obtain ⟨v0, v1, v2, v3, v4, v5, v6, v7, v8, v9, v10⟩ := y6 k hk
    refine ⟨v0, fun a ha => by rw [v1 a ha, hat a k hk], ?_, by rw [v3, h1 k hk], by rw [v4]; exact congrArg Value.int (pit_c (h2 k hk)), v5, v6, v7, v8, v9, by rw [v10]; exact congrArg Value.int (pit_c (h3 k hk))⟩
    rw [v2]
    unfold bsV rO
    rw [hat 7 k hk]
  · obtain ⟨⟨o0, o1⟩, p1, q1, d2⟩ := O
    have hm : ∀ a, dR h0 h r sp esp a → dR h0 h' r sp esp a := fun a ha => ⟨ha.1, by rw [y8]; exact ha.2.1, ha.2.2⟩
    exact ⟨⟨hm _ o0, hm _ o1⟩, by rw [y11]; exact p1.imp id (hm _), fun k hk => hm _ (q1 k (by rw [← e0]; exact hk)), fun i j hi hj z => d2 i j (by rw [← e0]; exact hi) (by rw [← e0]; exact hj) z⟩
