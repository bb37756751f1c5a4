/-! a link made and added -/
def lkH (h : sm_H) (a b t : Nat) : sm_H := putF (putF (putF (newO h 5 3 (fun g => defaultValue (xty 5 (g - 128 * 5)))) 640 (hT h) (.int (nI a))) 641 (hT h) (.int (nI b))) 642 (hT h) (.int (nI t))
theorem lkH_fr {h : sm_H} {a b t : Nat} : hT (lkH h a b t) = hT h + 1 ∧ hU (lkH h a b t) = hU h + 3 ∧ hZ (lkH h a b t) = hZ h ∧ ∀ c, c ≠ hT h → samA h (lkH h a b t) c :=
  ⟨rfl, rfl, rfl, fun c q => (samA.newO q).trans ((samA.putF q).trans ((samA.putF q).trans (samA.putF q)))⟩
theorem lkH_lk {h : sm_H} {a b : Nat} {t : Bool} : LkR (lkH h a b t.toNat) (hT h) a b t := ⟨hC_putF.trans (hC_putF.trans (hC_putF.trans (if_pos rfl))), (hF_putF_f (by decide)).trans ((hF_putF_f (by decide)).trans hF_putF), (hF_putF_f (by decide)).trans hF_putF, hF_putF⟩
def PlV (h : sm_H) (pa : Nat → Nat) (E : Ed) (lin : Nat → Nat) (lnk : Nat → Prop) : Prop := ∀ k, k < E.1.length → hC h (pa k) = 22 ∧ (∀ a, a < 8 → hF h (768 + a) (pa k) = .int (atP E.1 a k)) ∧ hF h 776 (pa k) = .int (nI (lin k)) ∧ hF h 777 (pa k) = .int (pit (lnk k) (nI 1) (nI 0)) ∧ hF h 778 (pa k) = .int (nI 0)
theorem PlV.ln {h : sm_H} {pa : Nat → Nat} {E : Ed} {lin : Nat → Nat} {lnk : Nat → Prop} (x : PlV h pa E lin lnk) (inj : ∀ i j, i < E.1.length → j < E.1.length → pa i = pa j → i = j) {a : Nat} (ha : a < E.1.length) : PlV (putF h 776 (pa a) (.int (nI (lin a + 1)))) pa E (fun k => lin k + (if a = k then 1 else 0)) lnk := by
  intro k hk
  obtain ⟨x1, x2, x3, x4, x5⟩ := x k hk
  refine ⟨hC_putF.trans x1, fun i hi => (hF_putF_f (by omega)).trans (x2 i hi), ?_, (hF_putF_f (by decide)).trans x4, (hF_putF_f (by decide)).trans x5⟩
  by_cases q : a = k
  · subst q
    rw [hF_putF]
    show _ = Value.int (nI (lin a + (if a = a then 1 else 0)))
    rw [if_pos rfl]
  · rw [hF_putF_a (fun z => q (inj k a hk ha z).symm)]
    show _ = Value.int (nI (lin k + (if a = k then 1 else 0)))
    rw [if_neg q]
    exact x3
theorem PlV.wl {h : sm_H} {pa : Nat → Nat} {E : Ed} {lin : Nat → Nat} {lnk : Nat → Prop} (x : PlV h pa E lin lnk) (inj : ∀ i j, i < E.1.length → j < E.1.length → pa i = pa j → i = j) {a : Nat} (ha : a < E.1.length) : PlV (putF h 777 (pa a) (.int (nI 1))) pa E lin (fun k => lnk k ∨ a = k) := by
  intro k hk
  obtain ⟨x1, x2, x3, x4, x5⟩ := x k hk
  refine ⟨hC_putF.trans x1, fun i hi => (hF_putF_f (by omega)).trans (x2 i hi), (hF_putF_f (by decide)).trans x3, ?_, (hF_putF_f (by decide)).trans x5⟩
  by_cases q : a = k
  · subst q
    rw [hF_putF]
    exact congrArg Value.int (pit_y (Or.inr rfl)).symm
  · rw [hF_putF_a (fun z => q (inj k a hk ha z).symm), x4]
    exact congrArg Value.int (pit_c ⟨fun z => Or.inl z, fun z => z.resolve_right q⟩)
/-- what is there as a link's places are counted -/
def AdC (h h' : sm_H) (ed lp ep : Nat) (pa : Nat → Nat) (E : Ed) (lin : Nat → Nat) (lnk : Nat → Prop) : Prop := (hC h' ed = 17 ∧ hF h' 128 ed = .ref lp) ∧ Lst h' lp ep E.1.length pa ∧ PlV h' pa E lin lnk ∧ hT h' = hT h ∧ hU h' = hU h ∧ hZ h' = hZ h ∧ ∀ c, (∀ k, k < E.1.length → c ≠ pa k) → samA h h' c
theorem AdC.put {h h' : sm_H} {ed lp ep : Nat} {pa : Nat → Nat} {E : Ed} {lin lin' : Nat → Nat} {lnk lnk' : Nat → Prop} (x : AdC h h' ed lp ep pa E lin lnk) {a f : Nat} {v : Value} (ha : a < E.1.length) (V : PlV (putF h' f (pa a) v) pa E lin' lnk') : AdC h (putF h' f (pa a) v) ed lp ep pa E lin' lnk' := by
  obtain ⟨⟨x1, x2⟩, x3, x4, x5, x6, x7, x8⟩ := x
  have hk := (x4 a ha).1
  have n1 : ed ≠ pa a := kne x1 hk (by decide)
  have n2 : lp ≠ pa a := kne x3.1 hk (by decide)
  have n3 : ep ≠ pa a := fun z => by
    rcases x3.ke with q | q <;> rw [z, hk] at q <;> cases q
  exact ⟨⟨hC_putF.trans x1, ((samA.putF n1).2.2.1 _).trans x2⟩, x3.same (samA.putF n2) (samA.putF n3) (fun i hi => hC_putF) hZ_putF (by rw [hT_putF]; exact Nat.le_refl _), V, hT_putF.trans x5, hU_putF.trans x6, hZ_putF.trans x7, fun c hc => (x8 c hc).trans (samA.putF (hc a ha))⟩
theorem AdC.ln {h h' : sm_H} {ed lp ep : Nat} {pa : Nat → Nat} {E : Ed} {lin : Nat → Nat} {lnk : Nat → Prop} (x : AdC h h' ed lp ep pa E lin lnk) (inj : ∀ i j, i < E.1.length → j < E.1.length → pa i = pa j → i = j) {a : Nat} (ha : a < E.1.length) : AdC h (putF h' 776 (pa a) (.int (nI (lin a + 1)))) ed lp ep pa E (fun k => lin k + (if a = k then 1 else 0)) lnk := x.put ha (x.2.2.1.ln inj ha)
theorem AdC.wl {h h' : sm_H} {ed lp ep : Nat} {pa : Nat → Nat} {E : Ed} {lin : Nat → Nat} {lnk : Nat → Prop} (x : AdC h h' ed lp ep pa E lin lnk) (inj : ∀ i j, i < E.1.length → j < E.1.length → pa i = pa j → i = j) {a : Nat} (ha : a < E.1.length) : AdC h (putF h' 777 (pa a) (.int (nI 1))) ed lp ep pa E lin (fun k => lnk k ∨ a = k) := x.put ha (x.2.2.1.wl inj ha)
theorem c_46 {h : sm_H} {Q : Nat → Option Value → sm_H → Prop} {a b : Nat} {t : Bool} (K : Q 0 none (lkH h a b t.toNat)) : sm_wp 46 0 [.ref (hT h), .int (nI a), .int (nI b), .int (nI t.toNat)] [] (newO h 5 3 (fun g => defaultValue (xty 5 (g - 128 * 5)))) Q := by
  refine wp_pure k_46 rfl rfl ?_
  refine wp_obj k_46 rfl (Nat.le_of_ble_eq_true rfl) ?_
  refine wp_pure k_46 rfl rfl ?_
  refine wp_pure k_46 rfl rfl ?_
  refine wp_put k_46 rfl (if_pos rfl) rfl rfl ?_
  refine wp_pure k_46 rfl rfl ?_
  refine wp_pure k_46 rfl rfl ?_
  refine wp_put k_46 rfl (if_pos rfl) rfl rfl ?_
  refine wp_pure k_46 rfl rfl ?_
  refine wp_pure k_46 rfl rfl ?_
  refine wp_put k_46 rfl (if_pos rfl) (by cases t <;> rfl) (by cases t <;> rfl) ?_
  exact wp_vrt k_46 rfl rfl K
theorem adW {h0 h hx h4 : sm_H} {r sp ed : Nat} {E : Ed} {lp lw lv ls ep ew ev es : Nat} {pa wa va sa : Nat → Nat} (X : EdF h ed lp lw lv ls ep ew ev es pa wa va sa E (fun _ => nI 0)) (O : EdO h (dR h0 h r sp) ed lp lw lv ls ep ew ev es pa wa va sa E) (zz : hC h (hZ h) = 14 ∧ hZ h < hT h) (ax : hT hx = hT h + 1 ∧ hU hx = hU h + 3 ∧ hZ hx = hZ h ∧ ∀ c, c ≠ hT h → samA h hx c) {n : Nat} (f4 : Fr hx h4 (fun b => b = lw ∨ (b = ew ∧ hC hx ew = 7)) 1 n) : AdC h4 h4 ed lp ep pa E (linE E) (lnkE E) ∧ Fr h h4 (fun b => b = lw ∨ (b = ew ∧ hC h ew = 7)) 2 (n + 3) := by
  obtain ⟨a1, a2, a3, a4⟩ := ax
  have lg := X.2.1.2.1
  have keg := lg.ke
  have hge : ew < hT h := lg.2.2.2.2.2.2.1
  have hCe : hC hx ew = hC h ew := (a4 _ (by omega)).1
  have f9 : Fr h h4 (fun b => b = lw ∨ (b = ew ∧ hC h ew = 7)) 2 (n + 3) := by
    refine (show Fr h hx (fun _ => False) 1 3 from ⟨by omega, Nat.le_of_eq a1, by omega, Nat.le_of_eq a2, a3, fun a ha _ => a4 a (by omega)⟩).trans f4 (fun _ _ q => q.elim) (fun c hc q => ?_) (by omega) (by omega)
    rw [hCe] at q; exact q
  refine ⟨?_, f9⟩
  have s4 : ∀ c, c < hT h → c ≠ lw → (c ≠ ew ∨ hC h ew = 14) → samA h h4 c := fun c hc h1 h2 => f9.2.2.2.2.2 c hc (fun q => q.elim h1 (fun q => h2.elim (fun z => z q.1) (fun z => by rw [q.2] at z; cases z)))
  have sk : ∀ c d, c < hT h → hC h c = d → d ≠ 26 → d ≠ 7 → d ≠ 14 → samA h h4 c := fun c d hc hd h1 h2 h3 => s4 c hc (kne hd lg.1 h1) (Or.inl (Ne.symm (kne2 keg hd h3 h2)))
  have sz : samA h h4 (hZ h) := s4 _ zz.2 (kne zz.1 lg.1 (by decide)) (by
    by_cases q : hZ h = ew
    · right; rw [← q]; exact zz.1
    · exact Or.inl q)
  have se := sk ed 17 O.1.1.2.1 X.1.1 (by decide) (by decide) (by decide)
  have hP : ∀ k, k < E.1.length → samA h h4 (pa k) := fun k hk => sk _ 22 (O.2.2.2.2.2.1 k hk).2.1 (X.2.2.1 k hk).1 (by decide) (by decide) (by decide)
  have l1 := X.2.1.1
  refine ⟨⟨se.1.trans X.1.1, (se.2.2.1 _).trans X.1.2.1⟩, l1.same (s4 lp O.1.2.1.2.1 O.2.2.2.2.2.2.2.2.2.1.1 (Or.inl (Ne.symm (kne2 keg l1.1 (by decide) (by decide))))) ?_ (fun i hi => (hP i hi).1) f9.2.2.2.2.1 f9.1, fun k hk => ?_, rfl, rfl, rfl, fun c _ => samA.refl h4 c⟩
  · rcases l1.2.2.2.2.2.2.2.1 with ⟨y1, _⟩ | ⟨y1, _⟩
    · rw [y1]; exact sz
    · exact s4 ep l1.2.2.2.2.2.2.1 (kne y1 lg.1 (by decide)) (Or.inl (O.2.2.2.2.2.2.2.2.2.2.2.1 y1).1)
  · have y := (X.2.2.1 k hk).same (hP k hk)
    exact y
theorem lkcW {h0 h h4 h5 : sm_H} {r sg sp ed len : Nat} {tx : Nat → Int32} {E E' : Ed} {s : Nat × Int32} {dT dU n : Nat} (R : RS h0 h r sg sp ed len tx E s dT dU) {lp lw lv ls ep ew ev es : Nat} {pa wa va sa : Nat → Nat} (X : EdF h ed lp lw lv ls ep ew ev es pa wa va sa E (fun _ => nI 0)) (O : EdO h (dR h0 h r sp) ed lp lw lv ls ep ew ev es pa wa va sa E) {e' : Nat} {x : Nat × Nat × Bool} (e0 : E'.1.length = E.1.length) (e1 : E'.2.1 = E.2.1 ++ [x]) (e2 : E'.2.2 = E.2.2) (e3 : sts E'.1 = sts E.1) (hat : ∀ a k, k < E.1.length → atP E'.1 a k = atP E.1 a k) (L : Lst h4 lw e' (E.2.1.length + 1) (fun i => if i = E.2.1.length then hT h else wa i)) (f9 : Fr h h4 (fun b => b = lw ∨ (b = ew ∧ hC h ew = 7)) 2 n) (he : e' = ew ∧ hC h ew = 7 ∨ hT h ≤ e') (p2 : hT h < hT h4) (hf : LkR h4 (hT h) x.1 x.2.1 x.2.2) {lin : Nat → Nat} {lnk : Nat → Prop} (Y : AdC h4 h5 ed lp ep pa E lin lnk) (h1 : ∀ k, k < E.1.length → lin k = linE E' k) (h2 : ∀ k, k < E.1.length → (lnk k ↔ lnkE E' k)) : RS h0 h5 r sg sp ed len tx E' s (dT + 2) (dU + n) ∧ samA h h5 sp := by
  obtain ⟨y1, y2, y3, y4, y5, y6, y7⟩ := Y
  have hk4 : ∀ k, k < E.1.length → hC h4 (pa k) = 22 := fun k hk => (f9.2.2.2.2.2 _ (O.2.2.2.2.2.1 k hk).2.1 (fun q => by
    have := (X.2.2.1 k hk).1
    rcases q with q | ⟨q, q7⟩
    · rw [q, X.2.1.2.1.1] at this; cases this
    · rw [q, q7] at this; cases this)).1.trans (X.2.2.1 k hk).1
  have hk45 : ∀ k, k < E.1.length → hC h5 (pa k) = hC h4 (pa k) := fun k hk => (y3 k hk).1.trans (hk4 k hk).symm
  have kk : ∀ c, hC h4 c ≠ 22 → samA h4 h5 c := fun c hc => y7 c (fun k hk z => hc (by rw [z]; exact hk4 k hk))
  have sp9 : samA h4 h5 (hT h) := kk _ (by rw [hf.1]; decide)
  have hp5 := hf.same sp9
  have spk : hC h sp = 1 := R.1.2.2.2.2.2.2.2.2.1
  have ssp : samA h h4 sp := f9.2.2.2.2.2 sp R.2.2.2.1.2.2.2.1 (fun q => by
    rcases q with q | ⟨q, q7⟩
    · rw [q, X.2.1.2.1.1] at spk; cases spk
    · rw [q, q7] at spk; cases spk)
  refine ⟨?_, ssp.trans (kk _ (by rw [ssp.1, spk]; decide))⟩
  refine RS.lnkW R X O e0 e1 e2 e3 (p := hT h) (a := 2) (b := n) (L.same (kk _ (by rw [L.1]; decide)) (kk _ ?_) (fun i hi => ?_) y6 (Nat.le_of_eq y4.symm)) ?_ he (Nat.le_refl _) (by omega) (fun k hk => ?_) hp5
  · rcases L.ke with q | q <;> rw [q] <;> decide
  · have z := L.2.2.2.2.2.2.2.2 i hi
    dsimp only at z ⊢
    by_cases q : i = E.2.1.length
    · rw [if_pos q]; exact sp9.1
    · rw [if_neg q]
      have hi' : i < E.2.1.length := by omega
      have hi4 : hC h4 (wa i) = hC h (wa i) := (f9.2.2.2.2.2 _ (O.2.2.2.2.2.2.1 i hi').2.1 (fun q => by
        have := (X.2.2.2.1 i hi').1
        rcases q with q | ⟨q, q7⟩
        · rw [q, X.2.1.2.1.1] at this; cases this
        · rw [q, q7] at this; cases this)).1
      exact (kk _ (by rw [hi4, (X.2.2.2.1 i hi').1]; decide)).1
  · refine f9.trans (show Fr h4 h5 (fun c => ∃ k, k < E.1.length ∧ c = pa k) 0 0 from ⟨Nat.le_of_eq y4.symm, Nat.le_of_eq y4, Nat.le_of_eq y5.symm, Nat.le_of_eq y5, y6, fun c hc hn => y7 c (fun k hk z => hn ⟨k, hk, z⟩)⟩) (fun _ _ q => q.elim Or.inl (fun q => Or.inr (Or.inl q))) (fun _ _ q => Or.inr (Or.inr q)) (Nat.le_refl _) (Nat.le_refl _)
  · obtain ⟨v1, v2, v3, v4, v5⟩ := y3 k hk
    exact ⟨v1, fun a ha => by rw [v2 a ha, hat a k hk], by rw [v3, h1 k hk], by rw [v4]; exact congrArg Value.int (pit_c (h2 k hk)), v5⟩
theorem adV {h0 h hx h4 : sm_H} {r sp ed : Nat} {E : Ed} {lp lw lv ls ep ew ev es : Nat} {pa wa va sa : Nat → Nat} (X : EdF h ed lp lw lv ls ep ew ev es pa wa va sa E (fun _ => nI 0)) (O : EdO h (dR h0 h r sp) ed lp lw lv ls ep ew ev es pa wa va sa E) (zz : hC h (hZ h) = 14 ∧ hZ h < hT h) (ax : hT hx = hT h + 1 ∧ hU hx = hU h + 3 ∧ hZ hx = hZ h ∧ ∀ c, c ≠ hT h → samA h hx c) {n : Nat} (f4 : Fr hx h4 (fun b => b = lv ∨ (b = ev ∧ hC hx ev = 7)) 1 n) : AdC h4 h4 ed lp ep pa E (linE E) (lnkE E) ∧ Fr h h4 (fun b => b = lv ∨ (b = ev ∧ hC h ev = 7)) 2 (n + 3) := by
  obtain ⟨a1, a2, a3, a4⟩ := ax
  have lg := X.2.1.2.2.1
  have keg := lg.ke
  have hge : ev < hT h := lg.2.2.2.2.2.2.1
  have hCe : hC hx ev = hC h ev := (a4 _ (by omega)).1
  have f9 : Fr h h4 (fun b => b = lv ∨ (b = ev ∧ hC h ev = 7)) 2 (n + 3) := by
    refine (show Fr h hx (fun _ => False) 1 3 from ⟨by omega, Nat.le_of_eq a1, by omega, Nat.le_of_eq a2, a3, fun a ha _ => a4 a (by omega)⟩).trans f4 (fun _ _ q => q.elim) (fun c hc q => ?_) (by omega) (by omega)
    rw [hCe] at q; exact q
  refine ⟨?_, f9⟩
  have s4 : ∀ c, c < hT h → c ≠ lv → (c ≠ ev ∨ hC h ev = 14) → samA h h4 c := fun c hc h1 h2 => f9.2.2.2.2.2 c hc (fun q => q.elim h1 (fun q => h2.elim (fun z => z q.1) (fun z => by rw [q.2] at z; cases z)))
  have sk : ∀ c d, c < hT h → hC h c = d → d ≠ 26 → d ≠ 7 → d ≠ 14 → samA h h4 c := fun c d hc hd h1 h2 h3 => s4 c hc (kne hd lg.1 h1) (Or.inl (Ne.symm (kne2 keg hd h3 h2)))
  have sz : samA h h4 (hZ h) := s4 _ zz.2 (kne zz.1 lg.1 (by decide)) (by
    by_cases q : hZ h = ev
    · right; rw [← q]; exact zz.1
    · exact Or.inl q)
  have se := sk ed 17 O.1.1.2.1 X.1.1 (by decide) (by decide) (by decide)
  have hP : ∀ k, k < E.1.length → samA h h4 (pa k) := fun k hk => sk _ 22 (O.2.2.2.2.2.1 k hk).2.1 (X.2.2.1 k hk).1 (by decide) (by decide) (by decide)
  have l1 := X.2.1.1
  refine ⟨⟨se.1.trans X.1.1, (se.2.2.1 _).trans X.1.2.1⟩, l1.same (s4 lp O.1.2.1.2.1 O.2.2.2.2.2.2.2.2.2.1.2.1 (Or.inl (Ne.symm (kne2 keg l1.1 (by decide) (by decide))))) ?_ (fun i hi => (hP i hi).1) f9.2.2.2.2.1 f9.1, fun k hk => ?_, rfl, rfl, rfl, fun c _ => samA.refl h4 c⟩
  · rcases l1.2.2.2.2.2.2.2.1 with ⟨y1, _⟩ | ⟨y1, _⟩
    · rw [y1]; exact sz
    · exact s4 ep l1.2.2.2.2.2.2.1 (kne y1 lg.1 (by decide)) (Or.inl (O.2.2.2.2.2.2.2.2.2.2.2.1 y1).2.1)
  · have y := (X.2.2.1 k hk).same (hP k hk)
    exact y
theorem lkcV {h0 h h4 h5 : sm_H} {r sg sp ed len : Nat} {tx : Nat → Int32} {E E' : Ed} {s : Nat × Int32} {dT dU n : Nat} (R : RS h0 h r sg sp ed len tx E s dT dU) {lp lw lv ls ep ew ev es : Nat} {pa wa va sa : Nat → Nat} (X : EdF h ed lp lw lv ls ep ew ev es pa wa va sa E (fun _ => nI 0)) (O : EdO h (dR h0 h r sp) ed lp lw lv ls ep ew ev es pa wa va sa E) {e' : Nat} {x : Nat × Nat} (e0 : E'.1.length = E.1.length) (e1 : E'.2.1 = E.2.1) (e2 : E'.2.2 = E.2.2 ++ [x]) (e3 : sts E'.1 = sts E.1) (hat : ∀ a k, k < E.1.length → atP E'.1 a k = atP E.1 a k) (L : Lst h4 lv e' (E.2.2.length + 1) (fun i => if i = E.2.2.length then hT h else va i)) (f9 : Fr h h4 (fun b => b = lv ∨ (b = ev ∧ hC h ev = 7)) 2 n) (he : e' = ev ∧ hC h ev = 7 ∨ hT h ≤ e') (p2 : hT h < hT h4) (hf : LkR h4 (hT h) x.1 x.2 false) {lin : Nat → Nat} {lnk : Nat → Prop} (Y : AdC h4 h5 ed lp ep pa E lin lnk) (h1 : ∀ k, k < E.1.length → lin k = linE E' k) (h2 : ∀ k, k < E.1.length → (lnk k ↔ lnkE E' k)) : RS h0 h5 r sg sp ed len tx E' s (dT + 2) (dU + n) ∧ samA h h5 sp := by
  obtain ⟨y1, y2, y3, y4, y5, y6, y7⟩ := Y
  have hk4 : ∀ k, k < E.1.length → hC h4 (pa k) = 22 := fun k hk => (f9.2.2.2.2.2 _ (O.2.2.2.2.2.1 k hk).2.1 (fun q => by
    have := (X.2.2.1 k hk).1
    rcases q with q | ⟨q, q7⟩
    · rw [q, X.2.1.2.2.1.1] at this; cases this
    · rw [q, q7] at this; cases this)).1.trans (X.2.2.1 k hk).1
  have hk45 : ∀ k, k < E.1.length → hC h5 (pa k) = hC h4 (pa k) := fun k hk => (y3 k hk).1.trans (hk4 k hk).symm
  have kk : ∀ c, hC h4 c ≠ 22 → samA h4 h5 c := fun c hc => y7 c (fun k hk z => hc (by rw [z]; exact hk4 k hk))
  have sp9 : samA h4 h5 (hT h) := kk _ (by rw [hf.1]; decide)
  have hp5 := hf.same sp9
  have spk : hC h sp = 1 := R.1.2.2.2.2.2.2.2.2.1
  have ssp : samA h h4 sp := f9.2.2.2.2.2 sp R.2.2.2.1.2.2.2.1 (fun q => by
    rcases q with q | ⟨q, q7⟩
    · rw [q, X.2.1.2.2.1.1] at spk; cases spk
    · rw [q, q7] at spk; cases spk)
  refine ⟨?_, ssp.trans (kk _ (by rw [ssp.1, spk]; decide))⟩
  refine RS.lnkV R X O e0 e1 e2 e3 (p := hT h) (a := 2) (b := n) (L.same (kk _ (by rw [L.1]; decide)) (kk _ ?_) (fun i hi => ?_) y6 (Nat.le_of_eq y4.symm)) ?_ he (Nat.le_refl _) (by omega) (fun k hk => ?_) hp5
  · rcases L.ke with q | q <;> rw [q] <;> decide
  · have z := L.2.2.2.2.2.2.2.2 i hi
    dsimp only at z ⊢
    by_cases q : i = E.2.2.length
    · rw [if_pos q]; exact sp9.1
    · rw [if_neg q]
      have hi' : i < E.2.2.length := by omega
      have hi4 : hC h4 (va i) = hC h (va i) := (f9.2.2.2.2.2 _ (O.2.2.2.2.2.2.2.1 i hi').2.1 (fun q => by
        have := (X.2.2.2.2.1 i hi').1
        rcases q with q | ⟨q, q7⟩
        · rw [q, X.2.1.2.2.1.1] at this; cases this
        · rw [q, q7] at this; cases this)).1
      exact (kk _ (by rw [hi4, (X.2.2.2.2.1 i hi').1]; decide)).1
  · refine f9.trans (show Fr h4 h5 (fun c => ∃ k, k < E.1.length ∧ c = pa k) 0 0 from ⟨Nat.le_of_eq y4.symm, Nat.le_of_eq y4, Nat.le_of_eq y5.symm, Nat.le_of_eq y5, y6, fun c hc hn => y7 c (fun k hk z => hn ⟨k, hk, z⟩)⟩) (fun _ _ q => q.elim Or.inl (fun q => Or.inr (Or.inl q))) (fun _ _ q => Or.inr (Or.inr q)) (Nat.le_refl _) (Nat.le_refl _)
  · obtain ⟨v1, v2, v3, v4, v5⟩ := y3 k hk
    exact ⟨v1, fun a ha => by rw [v2 a ha, hat a k hk], by rw [v3, h1 k hk], by rw [v4]; exact congrArg Value.int (pit_c (h2 k hk)), v5⟩
theorem adS {h0 h hx h4 : sm_H} {r sp ed : Nat} {E : Ed} {lp lw lv ls ep ew ev es : Nat} {pa wa va sa : Nat → Nat} (X : EdF h ed lp lw lv ls ep ew ev es pa wa va sa E (fun _ => nI 0)) (O : EdO h (dR h0 h r sp) ed lp lw lv ls ep ew ev es pa wa va sa E) (zz : hC h (hZ h) = 14 ∧ hZ h < hT h) (ax : hT hx = hT h + 1 ∧ hU hx = hU h + 3 ∧ hZ hx = hZ h ∧ ∀ c, c ≠ hT h → samA h hx c) {n : Nat} (f4 : Fr hx h4 (fun b => b = ls ∨ (b = es ∧ hC hx es = 7)) 1 n) : AdC h4 h4 ed lp ep pa E (linE E) (lnkE E) ∧ Fr h h4 (fun b => b = ls ∨ (b = es ∧ hC h es = 7)) 2 (n + 3) := by
  obtain ⟨a1, a2, a3, a4⟩ := ax
  have lg := X.2.1.2.2.2
  have keg := lg.ke
  have hge : es < hT h := lg.2.2.2.2.2.2.1
  have hCe : hC hx es = hC h es := (a4 _ (by omega)).1
  have f9 : Fr h h4 (fun b => b = ls ∨ (b = es ∧ hC h es = 7)) 2 (n + 3) := by
    refine (show Fr h hx (fun _ => False) 1 3 from ⟨by omega, Nat.le_of_eq a1, by omega, Nat.le_of_eq a2, a3, fun a ha _ => a4 a (by omega)⟩).trans f4 (fun _ _ q => q.elim) (fun c hc q => ?_) (by omega) (by omega)
    rw [hCe] at q; exact q
  refine ⟨?_, f9⟩
  have s4 : ∀ c, c < hT h → c ≠ ls → (c ≠ es ∨ hC h es = 14) → samA h h4 c := fun c hc h1 h2 => f9.2.2.2.2.2 c hc (fun q => q.elim h1 (fun q => h2.elim (fun z => z q.1) (fun z => by rw [q.2] at z; cases z)))
  have sk : ∀ c d, c < hT h → hC h c = d → d ≠ 26 → d ≠ 7 → d ≠ 14 → samA h h4 c := fun c d hc hd h1 h2 h3 => s4 c hc (kne hd lg.1 h1) (Or.inl (Ne.symm (kne2 keg hd h3 h2)))
  have sz : samA h h4 (hZ h) := s4 _ zz.2 (kne zz.1 lg.1 (by decide)) (by
    by_cases q : hZ h = es
    · right; rw [← q]; exact zz.1
    · exact Or.inl q)
  have se := sk ed 17 O.1.1.2.1 X.1.1 (by decide) (by decide) (by decide)
  have hP : ∀ k, k < E.1.length → samA h h4 (pa k) := fun k hk => sk _ 22 (O.2.2.2.2.2.1 k hk).2.1 (X.2.2.1 k hk).1 (by decide) (by decide) (by decide)
  have l1 := X.2.1.1
  refine ⟨⟨se.1.trans X.1.1, (se.2.2.1 _).trans X.1.2.1⟩, l1.same (s4 lp O.1.2.1.2.1 O.2.2.2.2.2.2.2.2.2.1.2.2.1 (Or.inl (Ne.symm (kne2 keg l1.1 (by decide) (by decide))))) ?_ (fun i hi => (hP i hi).1) f9.2.2.2.2.1 f9.1, fun k hk => ?_, rfl, rfl, rfl, fun c _ => samA.refl h4 c⟩
  · rcases l1.2.2.2.2.2.2.2.1 with ⟨y1, _⟩ | ⟨y1, _⟩
    · rw [y1]; exact sz
    · exact s4 ep l1.2.2.2.2.2.2.1 (kne y1 lg.1 (by decide)) (Or.inl (O.2.2.2.2.2.2.2.2.2.2.2.1 y1).2.2)
  · have y := (X.2.2.1 k hk).same (hP k hk)
    exact y
theorem lkcS {h0 h h4 h5 : sm_H} {r sg sp ed len : Nat} {tx : Nat → Int32} {E E' : Ed} {s : Nat × Int32} {dT dU n : Nat} (R : RS h0 h r sg sp ed len tx E s dT dU) {lp lw lv ls ep ew ev es : Nat} {pa wa va sa : Nat → Nat} (X : EdF h ed lp lw lv ls ep ew ev es pa wa va sa E (fun _ => nI 0)) (O : EdO h (dR h0 h r sp) ed lp lw lv ls ep ew ev es pa wa va sa E) {e' : Nat} {x : Nat × Nat} (e0 : E'.1.length = E.1.length) (e1 : E'.2.1 = E.2.1) (e2 : E'.2.2 = E.2.2) (e3 : sts E'.1 = sts E.1 ++ [x]) (hat : ∀ a k, k < E.1.length → atP E'.1 a k = atP E.1 a k) (L : Lst h4 ls e' ((sts E.1).length + 1) (fun i => if i = (sts E.1).length then hT h else sa i)) (f9 : Fr h h4 (fun b => b = ls ∨ (b = es ∧ hC h es = 7)) 2 n) (he : e' = es ∧ hC h es = 7 ∨ hT h ≤ e') (p2 : hT h < hT h4) (hf : LkR h4 (hT h) x.1 x.2 true) {lin : Nat → Nat} {lnk : Nat → Prop} (Y : AdC h4 h5 ed lp ep pa E lin lnk) (h1 : ∀ k, k < E.1.length → lin k = linE E' k) (h2 : ∀ k, k < E.1.length → (lnk k ↔ lnkE E' k)) : RS h0 h5 r sg sp ed len tx E' s (dT + 2) (dU + n) ∧ samA h h5 sp := by
  obtain ⟨y1, y2, y3, y4, y5, y6, y7⟩ := Y
  have hk4 : ∀ k, k < E.1.length → hC h4 (pa k) = 22 := fun k hk => (f9.2.2.2.2.2 _ (O.2.2.2.2.2.1 k hk).2.1 (fun q => by
    have := (X.2.2.1 k hk).1
    rcases q with q | ⟨q, q7⟩
    · rw [q, X.2.1.2.2.2.1] at this; cases this
    · rw [q, q7] at this; cases this)).1.trans (X.2.2.1 k hk).1
  have hk45 : ∀ k, k < E.1.length → hC h5 (pa k) = hC h4 (pa k) := fun k hk => (y3 k hk).1.trans (hk4 k hk).symm
  have kk : ∀ c, hC h4 c ≠ 22 → samA h4 h5 c := fun c hc => y7 c (fun k hk z => hc (by rw [z]; exact hk4 k hk))
  have sp9 : samA h4 h5 (hT h) := kk _ (by rw [hf.1]; decide)
  have hp5 := hf.same sp9
  have spk : hC h sp = 1 := R.1.2.2.2.2.2.2.2.2.1
  have ssp : samA h h4 sp := f9.2.2.2.2.2 sp R.2.2.2.1.2.2.2.1 (fun q => by
    rcases q with q | ⟨q, q7⟩
    · rw [q, X.2.1.2.2.2.1] at spk; cases spk
    · rw [q, q7] at spk; cases spk)
  refine ⟨?_, ssp.trans (kk _ (by rw [ssp.1, spk]; decide))⟩
  refine RS.lnkS R X O e0 e1 e2 e3 (p := hT h) (a := 2) (b := n) (L.same (kk _ (by rw [L.1]; decide)) (kk _ ?_) (fun i hi => ?_) y6 (Nat.le_of_eq y4.symm)) ?_ he (Nat.le_refl _) (by omega) (fun k hk => ?_) hp5
  · rcases L.ke with q | q <;> rw [q] <;> decide
  · have z := L.2.2.2.2.2.2.2.2 i hi
    dsimp only at z ⊢
    by_cases q : i = (sts E.1).length
    · rw [if_pos q]; exact sp9.1
    · rw [if_neg q]
      have hi' : i < (sts E.1).length := by omega
      have hi4 : hC h4 (sa i) = hC h (sa i) := (f9.2.2.2.2.2 _ (O.2.2.2.2.2.2.2.2.1 i hi').2.1 (fun q => by
        have := (X.2.2.2.2.2 i hi').1
        rcases q with q | ⟨q, q7⟩
        · rw [q, X.2.1.2.2.2.1] at this; cases this
        · rw [q, q7] at this; cases this)).1
      exact (kk _ (by rw [hi4, (X.2.2.2.2.2 i hi').1]; decide)).1
  · refine f9.trans (show Fr h4 h5 (fun c => ∃ k, k < E.1.length ∧ c = pa k) 0 0 from ⟨Nat.le_of_eq y4.symm, Nat.le_of_eq y4, Nat.le_of_eq y5.symm, Nat.le_of_eq y5, y6, fun c hc hn => y7 c (fun k hk z => hn ⟨k, hk, z⟩)⟩) (fun _ _ q => q.elim Or.inl (fun q => Or.inr (Or.inl q))) (fun _ _ q => Or.inr (Or.inr q)) (Nat.le_refl _) (Nat.le_refl _)
  · obtain ⟨v1, v2, v3, v4, v5⟩ := y3 k hk
    exact ⟨v1, fun a ha => by rw [v2 a ha, hat a k hk], by rw [v3, h1 k hk], by rw [v4]; exact congrArg Value.int (pit_c (h2 k hk)), v5⟩
theorem c_addWay {h0 h : sm_H} {Q : Nat → Option Value → sm_H → Prop} {r sg sp ed len : Nat} {tx : Nat → Int32} {E : Ed} {s : Nat × Int32} {dT dU : Nat} (R : RS h0 h r sg sp ed len tx E s dT dU) (hn : E.2.1.length < 2 ^ 12) {a b : Nat} {t : Bool} (ha : a < E.1.length) (hb : b < E.1.length) (hab : b ≠ a) (K : ∀ h', RS h0 h' r sg sp ed len tx (E.1, E.2.1 ++ [(a, b, t)], E.2.2) s (dT + 2) (dU + (2 * E.2.1.length + 17)) → samA h h' sp → Q 0 none h') : sm_wp 19 0 [.ref ed, .int (nI a), .int (nI b), .int (nI t.toNat)] [] h Q := by
  obtain ⟨B, w, f, ⟨r1, r2, r3, r4, r5⟩, ⟨z1, z2⟩, lp, lw, lv, ls, ep, ew, ev, es, pa, wa, va, sa, X, O⟩ := id R
  have hzz : hC h (hZ h) = 14 ∧ hZ h < hT h := by
    have hzh : hZ h = hZ h0 := f.2.2.2.2.1
    have := f.1
    exact ⟨by rw [hzh]; exact ((f.2.2.2.2.2 _ z2 id).1).trans z1, by omega⟩
  have inj := O.2.2.2.2.2.2.2.2.2.2.1
  have lg := X.2.1.2.1
  refine wp_pure k_19 rfl rfl ?_
  refine wp_get k_19 rfl X.1.1 X.1.2.2.1 ?_
  refine wp_new k_19 rfl rfl ?_
  show sm_wp 19 7 [.ref ed, .int (nI a), .int (nI b), .int (nI (t.toNat))] [.ref (hT h), .ref lw] _ Q
  refine wp_pure k_19 rfl rfl ?_
  refine wp_pure k_19 rfl rfl ?_
  refine wp_pure k_19 rfl rfl ?_
  refine wp_pure k_19 rfl rfl ?_
  refine wp_ic k_19 rfl (by decide) [.int (nI a), .int (nI b), .int (nI (t.toNat))] rfl (r := [.ref (hT h), .ref lw]) (Nat.le_of_ble_eq_true rfl) (Nat.le_of_ble_eq_true rfl) rfl ?_
  refine c_46 (t := t) ⟨rfl, ?_⟩
  have ax := @lkH_fr h a b (t.toNat)
  have lk := @lkH_lk h a b t
  generalize lkH h a b (t.toNat) = hx at *
  refine wp_iv k_19 rfl [.ref (hT h)] rfl ((ax.2.2.2 lw (Nat.ne_of_lt lg.2.2.2.2.2.1)).1.trans lg.1) (r := []) (Nat.le_of_ble_eq_true rfl) (Nat.le_of_ble_eq_true rfl) rfl ?_
  refine c_add (lg.same (ax.2.2.2 _ (Nat.ne_of_lt lg.2.2.2.2.2.1)) (ax.2.2.2 _ (Nat.ne_of_lt lg.2.2.2.2.2.2.1)) (fun i hi => (ax.2.2.2 _ (Nat.ne_of_lt (lg.2.2.2.2.2.2.2.2 i hi).2.2.2)).1) ax.2.2.1 (by omega)) (by omega) (by rw [lk.1]; decide) (by rw [lk.1]; decide) (by omega) (fun h4 e' L9 he9 f4 => ⟨rfl, ?_⟩)
  refine wp_pure k_19 rfl rfl ?_
  obtain ⟨Y, f9⟩ := adW X O hzz ax f4
  have lk4 := lk.same (f4.2.2.2.2.2 (hT h) (by omega) (fun q => q.elim (fun z => by have := lg.2.2.2.2.2.1; omega) (fun z => by have := lg.2.2.2.2.2.2.1; omega)))
  have he : e' = ew ∧ hC h ew = 7 ∨ hT h ≤ e' := he9.elim (fun z => Or.inl ⟨z.1, (ax.2.2.2 ew (Nat.ne_of_lt lg.2.2.2.2.2.2.1)).1.symm.trans z.2⟩) (fun z => Or.inr (by omega))
  refine wp_pure k_19 rfl rfl ?_
  refine wp_get k_19 rfl Y.1.1 Y.1.2 ?_
  refine wp_pure k_19 rfl rfl ?_
  refine wp_iv k_19 rfl [.int (nI a)] rfl Y.2.1.1 (r := []) (Nat.le_of_ble_eq_true rfl) (Nat.le_of_ble_eq_true rfl) rfl ?_
  refine c_get Y.2.1 ha ⟨rfl, ?_⟩
  refine wp_cc k_19 rfl (Y.2.2.1 a ha).1 ?_
  refine wp_pure k_19 rfl rfl ?_
  refine wp_get k_19 rfl (Y.2.2.1 a ha).1 (Y.2.2.1 a ha).2.2.1 ?_
  refine wp_kn k_19 rfl rfl ?_
  refine wp_addN k_19 rfl ?_
  refine wp_put k_19 rfl (Y.2.2.1 a ha).1 rfl rfl ?_
  have Y5 := Y.ln inj ha
  generalize putF h4 776 (pa a) (.int (nI ((linE E) a + 1))) = h5 at *
  refine wp_pure k_19 rfl rfl ?_
  refine wp_get k_19 rfl Y5.1.1 Y5.1.2 ?_
  refine wp_pure k_19 rfl rfl ?_
  refine wp_iv k_19 rfl [.int (nI b)] rfl Y5.2.1.1 (r := []) (Nat.le_of_ble_eq_true rfl) (Nat.le_of_ble_eq_true rfl) rfl ?_
  refine c_get Y5.2.1 hb ⟨rfl, ?_⟩
  refine wp_cc k_19 rfl (Y5.2.2.1 b hb).1 ?_
  refine wp_pure k_19 rfl rfl ?_
  refine wp_get k_19 rfl (Y5.2.2.1 b hb).1 (Y5.2.2.1 b hb).2.2.1 ?_
  refine wp_kn k_19 rfl rfl ?_
  refine wp_addN k_19 rfl ?_
  refine wp_put k_19 rfl (Y5.2.2.1 b hb).1 rfl rfl ?_
  have Y6 := Y5.ln inj hb
  generalize putF h5 776 (pa b) (.int (nI ((fun k => (linE E) k + (if a = k then 1 else 0)) b + 1))) = h6 at *
  refine wp_pure k_19 rfl rfl ?_
  refine wp_get k_19 rfl Y6.1.1 Y6.1.2 ?_
  refine wp_pure k_19 rfl rfl ?_
  refine wp_iv k_19 rfl [.int (nI a)] rfl Y6.2.1.1 (r := []) (Nat.le_of_ble_eq_true rfl) (Nat.le_of_ble_eq_true rfl) rfl ?_
  refine c_get Y6.2.1 ha ⟨rfl, ?_⟩
  refine wp_cc k_19 rfl (Y6.2.2.1 a ha).1 ?_
  refine wp_kn k_19 rfl rfl ?_
  refine wp_put k_19 rfl (Y6.2.2.1 a ha).1 rfl rfl ?_
  have Y7 := Y6.wl inj ha
  generalize putF h6 777 (pa a) (.int (nI 1)) = h7 at *
  refine wp_pure k_19 rfl rfl ?_
  refine wp_get k_19 rfl Y7.1.1 Y7.1.2 ?_
  refine wp_pure k_19 rfl rfl ?_
  refine wp_iv k_19 rfl [.int (nI b)] rfl Y7.2.1.1 (r := []) (Nat.le_of_ble_eq_true rfl) (Nat.le_of_ble_eq_true rfl) rfl ?_
  refine c_get Y7.2.1 hb ⟨rfl, ?_⟩
  refine wp_cc k_19 rfl (Y7.2.2.1 b hb).1 ?_
  refine wp_kn k_19 rfl rfl ?_
  refine wp_put k_19 rfl (Y7.2.2.1 b hb).1 rfl rfl ?_
  have Y8 := Y7.wl inj hb
  generalize putF h7 777 (pa b) (.int (nI 1)) = h8 at *
  obtain ⟨y8, y9⟩ := lkcW (E' := (E.1, E.2.1 ++ [(a, b, t)], E.2.2)) R X O rfl rfl rfl rfl (fun _ _ _ => rfl) L9 f9 he (by have := f4.1; omega) lk4 Y8 (fun k hk => by
    rw [linE_way]
    by_cases q1 : a = k <;> by_cases q2 : b = k
    · exact absurd (q2.trans q1.symm) hab
    · rw [if_pos q1, if_neg q2, if_pos (Or.inl q1)]
    · rw [if_neg q1, if_pos q2, if_pos (Or.inr q2)]
    · rw [if_neg q1, if_neg q2, if_neg (fun z => z.elim q1 q2)]) (fun k hk => by
    rw [lnkE_way]
    exact or_assoc)
  exact wp_vrt k_19 rfl rfl (K _ (y8.le (by omega) (by omega)) y9)
theorem c_addServe {h0 h : sm_H} {Q : Nat → Option Value → sm_H → Prop} {r sg sp ed len : Nat} {tx : Nat → Int32} {E : Ed} {s : Nat × Int32} {dT dU : Nat} (R : RS h0 h r sg sp ed len tx E s dT dU) (hn : E.2.2.length < 2 ^ 12) {a b : Nat} (ha : a < E.1.length) (K : ∀ h', RS h0 h' r sg sp ed len tx (E.1, E.2.1, E.2.2 ++ [(a, b)]) s (dT + 2) (dU + (2 * E.2.2.length + 17)) → samA h h' sp → Q 0 none h') : sm_wp 21 0 [.ref ed, .int (nI a), .int (nI b)] [] h Q := by
  obtain ⟨B, w, f, ⟨r1, r2, r3, r4, r5⟩, ⟨z1, z2⟩, lp, lw, lv, ls, ep, ew, ev, es, pa, wa, va, sa, X, O⟩ := id R
  have hzz : hC h (hZ h) = 14 ∧ hZ h < hT h := by
    have hzh : hZ h = hZ h0 := f.2.2.2.2.1
    have := f.1
    exact ⟨by rw [hzh]; exact ((f.2.2.2.2.2 _ z2 id).1).trans z1, by omega⟩
  have inj := O.2.2.2.2.2.2.2.2.2.2.1
  have lg := X.2.1.2.2.1
  refine wp_pure k_21 rfl rfl ?_
  refine wp_get k_21 rfl X.1.1 X.1.2.2.2.1 ?_
  refine wp_new k_21 rfl rfl ?_
  show sm_wp 21 7 [.ref ed, .int (nI a), .int (nI b)] [.ref (hT h), .ref lv] _ Q
  refine wp_pure k_21 rfl rfl ?_
  refine wp_pure k_21 rfl rfl ?_
  refine wp_pure k_21 rfl rfl ?_
  refine wp_kn k_21 rfl rfl ?_
  refine wp_ic k_21 rfl (by decide) [.int (nI a), .int (nI b), .int (nI 0)] rfl (r := [.ref (hT h), .ref lv]) (Nat.le_of_ble_eq_true rfl) (Nat.le_of_ble_eq_true rfl) rfl ?_
  refine c_46 (t := false) ⟨rfl, ?_⟩
  have ax := @lkH_fr h a b (Bool.toNat false)
  have lk := @lkH_lk h a b false
  generalize lkH h a b (Bool.toNat false) = hx at *
  refine wp_iv k_21 rfl [.ref (hT h)] rfl ((ax.2.2.2 lv (Nat.ne_of_lt lg.2.2.2.2.2.1)).1.trans lg.1) (r := []) (Nat.le_of_ble_eq_true rfl) (Nat.le_of_ble_eq_true rfl) rfl ?_
  refine c_add (lg.same (ax.2.2.2 _ (Nat.ne_of_lt lg.2.2.2.2.2.1)) (ax.2.2.2 _ (Nat.ne_of_lt lg.2.2.2.2.2.2.1)) (fun i hi => (ax.2.2.2 _ (Nat.ne_of_lt (lg.2.2.2.2.2.2.2.2 i hi).2.2.2)).1) ax.2.2.1 (by omega)) (by omega) (by rw [lk.1]; decide) (by rw [lk.1]; decide) (by omega) (fun h4 e' L9 he9 f4 => ⟨rfl, ?_⟩)
  refine wp_pure k_21 rfl rfl ?_
  obtain ⟨Y, f9⟩ := adV X O hzz ax f4
  have lk4 := lk.same (f4.2.2.2.2.2 (hT h) (by omega) (fun q => q.elim (fun z => by have := lg.2.2.2.2.2.1; omega) (fun z => by have := lg.2.2.2.2.2.2.1; omega)))
  have he : e' = ev ∧ hC h ev = 7 ∨ hT h ≤ e' := he9.elim (fun z => Or.inl ⟨z.1, (ax.2.2.2 ev (Nat.ne_of_lt lg.2.2.2.2.2.2.1)).1.symm.trans z.2⟩) (fun z => Or.inr (by omega))
  refine wp_pure k_21 rfl rfl ?_
  refine wp_get k_21 rfl Y.1.1 Y.1.2 ?_
  refine wp_pure k_21 rfl rfl ?_
  refine wp_iv k_21 rfl [.int (nI a)] rfl Y.2.1.1 (r := []) (Nat.le_of_ble_eq_true rfl) (Nat.le_of_ble_eq_true rfl) rfl ?_
  refine c_get Y.2.1 ha ⟨rfl, ?_⟩
  refine wp_cc k_21 rfl (Y.2.2.1 a ha).1 ?_
  refine wp_pure k_21 rfl rfl ?_
  refine wp_get k_21 rfl (Y.2.2.1 a ha).1 (Y.2.2.1 a ha).2.2.1 ?_
  refine wp_kn k_21 rfl rfl ?_
  refine wp_addN k_21 rfl ?_
  refine wp_put k_21 rfl (Y.2.2.1 a ha).1 rfl rfl ?_
  have Y5 := Y.ln inj ha
  generalize putF h4 776 (pa a) (.int (nI ((linE E) a + 1))) = h5 at *
  obtain ⟨y8, y9⟩ := lkcV (E' := (E.1, E.2.1, E.2.2 ++ [(a, b)])) R X O rfl rfl rfl rfl (fun _ _ _ => rfl) L9 f9 he (by have := f4.1; omega) lk4 Y5 (fun k hk => by
    rw [linE_srv]) (fun k hk => Iff.rfl)
  exact wp_vrt k_21 rfl rfl (K _ (y8.le (by omega) (by omega)) y9)
theorem stop_eqs {E E0 : Ed} {P : Pl} {a b : Nat} (hE : E = (E0.1 ++ [P], E0.2.1, E0.2.2)) (hWd : EdW E0) (h6 : P.1 1 = nI 6) (haE : a = E0.1.length) : (E0.1 ++ [(P.1, P.2 ++ [b])]).length = E.1.length ∧ sts (E0.1 ++ [(P.1, P.2 ++ [b])]) = sts E.1 ++ [(a, b)] ∧ (∀ i k, k < E.1.length → atP (E0.1 ++ [(P.1, P.2 ++ [b])]) i k = atP E.1 i k) ∧ (∀ k, k < E.1.length → linE E k + (if a = k then 1 else 0) = linE (E0.1 ++ [(P.1, P.2 ++ [b])], E0.2.1, E0.2.2) k) ∧ (∀ k, k < E.1.length → (lnkE E k ∨ b = k ↔ lnkE (E0.1 ++ [(P.1, P.2 ++ [b])], E0.2.1, E0.2.2) k)) := by
  subst hE
  subst haE
  dsimp only
  have hl : ∀ P' : Pl, (E0.1 ++ [P']).length = E0.1.length + 1 := fun P' => by rw [List.length_append]; rfl
  refine ⟨by rw [hl, hl], ?_, fun i k hk => ?_, fun k hk => ?_, fun k hk => ?_⟩
  · rw [sts_new, sts_new]
    dsimp only
    rw [List.map_append, List.append_assoc]
    rfl
  · rw [hl] at hk
    by_cases q : k < E0.1.length
    · rw [atP_old q, atP_old q]
    · have q' : k = E0.1.length := by omega
      subst q'
      rw [atP_new, atP_new]
  · rw [hl] at hk
    by_cases q : k < E0.1.length
    · rw [linE_pl hWd q, linE_pl hWd q, if_neg (by omega)]; rfl
    · have q' : k = E0.1.length := by omega
      subst q'
      rw [linE_new hWd, linE_new hWd, if_pos rfl]
      dsimp only
      rw [List.length_append]
      rfl
  · rw [lnkE_pl (fun z => absurd h6 z), lnkE_pl (P := (P.1, P.2 ++ [b])) (fun z => absurd h6 z)]
    dsimp only
    rw [List.mem_append, List.mem_singleton]
    constructor
    · rintro ((z | z) | z)
      · exact Or.inl z
      · exact Or.inr (Or.inl z)
      · exact Or.inr (Or.inr z.symm)
    · rintro (z | z | z)
      · exact Or.inl (Or.inl z)
      · exact Or.inl (Or.inr z)
      · exact Or.inr z.symm
theorem c_addStop {h0 h : sm_H} {Q : Nat → Option Value → sm_H → Prop} {r sg sp ed len : Nat} {tx : Nat → Int32} {E : Ed} {s : Nat × Int32} {dT dU : Nat} (R : RS h0 h r sg sp ed len tx E s dT dU) (hn : (sts E.1).length < 2 ^ 12) {E0 : Ed} {P : Pl} {a b : Nat} (hE : E = (E0.1 ++ [P], E0.2.1, E0.2.2)) (hWd : EdW E0) (h6 : P.1 1 = nI 6) (haE : a = E0.1.length) (hb : b < E.1.length) (K : ∀ h', RS h0 h' r sg sp ed len tx (E0.1 ++ [(P.1, P.2 ++ [b])], E0.2.1, E0.2.2) s (dT + 2) (dU + (2 * (sts E.1).length + 17)) → samA h h' sp → Q 0 none h') : sm_wp 20 0 [.ref ed, .int (nI a), .int (nI b)] [] h Q := by
  obtain ⟨B, w, f, ⟨r1, r2, r3, r4, r5⟩, ⟨z1, z2⟩, lp, lw, lv, ls, ep, ew, ev, es, pa, wa, va, sa, X, O⟩ := id R
  have hzz : hC h (hZ h) = 14 ∧ hZ h < hT h := by
    have hzh : hZ h = hZ h0 := f.2.2.2.2.1
    have := f.1
    exact ⟨by rw [hzh]; exact ((f.2.2.2.2.2 _ z2 id).1).trans z1, by omega⟩
  have inj := O.2.2.2.2.2.2.2.2.2.2.1
  have lg := X.2.1.2.2.2
  obtain ⟨s1, s2, s3, s4, s5⟩ := stop_eqs (b := b) hE hWd h6 haE
  have ha : a < E.1.length := by rw [← s1, List.length_append, haE]; exact Nat.lt_succ_self _
  refine wp_pure k_20 rfl rfl ?_
  refine wp_get k_20 rfl X.1.1 X.1.2.2.2.2 ?_
  refine wp_new k_20 rfl rfl ?_
  show sm_wp 20 7 [.ref ed, .int (nI a), .int (nI b)] [.ref (hT h), .ref ls] _ Q
  refine wp_pure k_20 rfl rfl ?_
  refine wp_pure k_20 rfl rfl ?_
  refine wp_pure k_20 rfl rfl ?_
  refine wp_kn k_20 rfl rfl ?_
  refine wp_ic k_20 rfl (by decide) [.int (nI a), .int (nI b), .int (nI 1)] rfl (r := [.ref (hT h), .ref ls]) (Nat.le_of_ble_eq_true rfl) (Nat.le_of_ble_eq_true rfl) rfl ?_
  refine c_46 (t := true) ⟨rfl, ?_⟩
  have ax := @lkH_fr h a b (Bool.toNat true)
  have lk := @lkH_lk h a b true
  generalize lkH h a b (Bool.toNat true) = hx at *
  refine wp_iv k_20 rfl [.ref (hT h)] rfl ((ax.2.2.2 ls (Nat.ne_of_lt lg.2.2.2.2.2.1)).1.trans lg.1) (r := []) (Nat.le_of_ble_eq_true rfl) (Nat.le_of_ble_eq_true rfl) rfl ?_
  refine c_add (lg.same (ax.2.2.2 _ (Nat.ne_of_lt lg.2.2.2.2.2.1)) (ax.2.2.2 _ (Nat.ne_of_lt lg.2.2.2.2.2.2.1)) (fun i hi => (ax.2.2.2 _ (Nat.ne_of_lt (lg.2.2.2.2.2.2.2.2 i hi).2.2.2)).1) ax.2.2.1 (by omega)) (by omega) (by rw [lk.1]; decide) (by rw [lk.1]; decide) (by omega) (fun h4 e' L9 he9 f4 => ⟨rfl, ?_⟩)
  refine wp_pure k_20 rfl rfl ?_
  obtain ⟨Y, f9⟩ := adS X O hzz ax f4
  have lk4 := lk.same (f4.2.2.2.2.2 (hT h) (by omega) (fun q => q.elim (fun z => by have := lg.2.2.2.2.2.1; omega) (fun z => by have := lg.2.2.2.2.2.2.1; omega)))
  have he : e' = es ∧ hC h es = 7 ∨ hT h ≤ e' := he9.elim (fun z => Or.inl ⟨z.1, (ax.2.2.2 es (Nat.ne_of_lt lg.2.2.2.2.2.2.1)).1.symm.trans z.2⟩) (fun z => Or.inr (by omega))
  refine wp_pure k_20 rfl rfl ?_
  refine wp_get k_20 rfl Y.1.1 Y.1.2 ?_
  refine wp_pure k_20 rfl rfl ?_
  refine wp_iv k_20 rfl [.int (nI a)] rfl Y.2.1.1 (r := []) (Nat.le_of_ble_eq_true rfl) (Nat.le_of_ble_eq_true rfl) rfl ?_
  refine c_get Y.2.1 ha ⟨rfl, ?_⟩
  refine wp_cc k_20 rfl (Y.2.2.1 a ha).1 ?_
  refine wp_pure k_20 rfl rfl ?_
  refine wp_get k_20 rfl (Y.2.2.1 a ha).1 (Y.2.2.1 a ha).2.2.1 ?_
  refine wp_kn k_20 rfl rfl ?_
  refine wp_addN k_20 rfl ?_
  refine wp_put k_20 rfl (Y.2.2.1 a ha).1 rfl rfl ?_
  have Y5 := Y.ln inj ha
  generalize putF h4 776 (pa a) (.int (nI ((linE E) a + 1))) = h5 at *
  refine wp_pure k_20 rfl rfl ?_
  refine wp_get k_20 rfl Y5.1.1 Y5.1.2 ?_
  refine wp_pure k_20 rfl rfl ?_
  refine wp_iv k_20 rfl [.int (nI b)] rfl Y5.2.1.1 (r := []) (Nat.le_of_ble_eq_true rfl) (Nat.le_of_ble_eq_true rfl) rfl ?_
  refine c_get Y5.2.1 hb ⟨rfl, ?_⟩
  refine wp_cc k_20 rfl (Y5.2.2.1 b hb).1 ?_
  refine wp_kn k_20 rfl rfl ?_
  refine wp_put k_20 rfl (Y5.2.2.1 b hb).1 rfl rfl ?_
  have Y6 := Y5.wl inj hb
  generalize putF h5 777 (pa b) (.int (nI 1)) = h6 at *
  obtain ⟨y8, y9⟩ := lkcS (E' := (E0.1 ++ [(P.1, P.2 ++ [b])], E0.2.1, E0.2.2)) R X O s1 (by rw [hE]) (by rw [hE]) s2 s3 L9 f9 he (by have := f4.1; omega) lk4 Y6 s4 s5
  exact wp_vrt k_20 rfl rfl (K _ (y8.le (by omega) (by omega)) y9)
