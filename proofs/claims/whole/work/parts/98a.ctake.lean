/-! THE CLASS TAKES an edition -/
/-- all that the class has lies below lo -/
def cLo (lo : Nat) (P : Nat → Prop) (x sg eds ee go on bk sl ins lf ef pl pls fnd : Nat) (fa hi : Nat → Nat) (n nf : Nat) : Prop := (∀ a, a = x ∨ a = sg ∨ a = eds ∨ a = go ∨ a = on ∨ a = bk ∨ a = sl ∨ a = ins ∨ a = lf ∨ a = pl ∨ a = pls ∨ a = fnd → a < lo) ∧ ee < lo ∧ ef < lo ∧ (∀ i, i < nf → fa i < lo) ∧ (∀ e, e < n → hi e ≤ lo) ∧ (∀ a, P a → a < lo)
theorem CA.lo {h : sm_H} {x sg eds ee go on bk sl ins lf ef pl pls fnd : Nat} {ea fa lo hi onf bkf : Nat → Nat} {dk rc ex : Nat} {σ : Sg} {P : Nat → Prop} (C : CA h x sg eds ee go on bk sl ins lf ef pl pls fnd ea fa lo hi onf bkf dk rc ex σ P) : cLo (hT h) P x sg eds ee go on bk sl ins lf ef pl pls fnd fa hi (sEd σ).length (fltE (cE σ)).length := by
  obtain ⟨c1, c2, c3, c4, c5, c6, c7, c8, c9⟩ := C
  have l1 := c7.1
  have l2 := c6.2.2.1
  refine ⟨fun a ha => (c8.1 a ha).1, l1.2.2.2.2.2.2.1, l2.2.2.2.2.2.2.1, fun i hi => (l2.2.2.2.2.2.2.2.2 i hi).2.2.2, fun e he => ?_, c9.2.2.2⟩
  obtain ⟨E', _, _, r⟩ := c7.2 e he
  exact r.1
theorem CA.fresh {h h' : sm_H} {x sg eds ee go on bk sl ins lf ef pl pls fnd : Nat} {ea fa lo hi onf bkf : Nat → Nat} {dk rc ex : Nat} {σ : Sg} {P : Nat → Prop} (C : CA h x sg eds ee go on bk sl ins lf ef pl pls fnd ea fa lo hi onf bkf dk rc ex σ P) (s : ∀ a, a < hT h → samA h h' a) (hz : hZ h' = hZ h) (ht : hT h ≤ hT h') : CA h' x sg eds ee go on bk sl ins lf ef pl pls fnd ea fa lo hi onf bkf dk rc ex σ P := by
  obtain ⟨c1, c2, c3, c4, c5, c6, c7, c8, c9⟩ := C
  have o := c8.1
  have l1 := c7.1
  have l2 := c6.2.2.1
  refine ⟨c1.same (s _ (o _ (by simp)).1), c2.same (s _ (o _ (by simp)).1), c3.same (s _ (o _ (by simp)).1), c4.same (s _ (o _ (by simp)).1) (s _ (o _ (by simp)).1), c5.same (s _ (o _ (by simp)).1) (s _ (o _ (by simp)).1) (s _ (o _ (by simp)).1) (s _ (o _ (by simp)).1), c6.same (s _ (o _ (by simp)).1) (s _ (o _ (by simp)).1) (s _ l2.2.2.2.2.2.2.1) (fun i hi => s _ (l2.2.2.2.2.2.2.2.2 i hi).2.2.2) hz ht, c7.same (s _ (o _ (by simp)).1) (s _ l1.2.2.2.2.2.2.1) (fun e he a ha => ?_) (s _ (c9.2.2.2 _ c9.2.2.1)) hz ht, c8.same ht (s _ l1.2.2.2.2.2.2.1).1 (s _ l2.2.2.2.2.2.2.1).1, c9.same (s _ (c9.2.2.2 _ c9.2.2.1)) hz ht⟩
  obtain ⟨E', _, _, r⟩ := c7.2 e he
  exact s a (by have := r.1; have := ha.2; omega)
/-- the text is gone -/
theorem CA.clear {h : sm_H} {x sg eds ee go on bk sl ins lf ef pl pls fnd : Nat} {ea fa lo hi onf bkf : Nat → Nat} {dk rc ex : Nat} {σ : Sg} {P : Nat → Prop} (C : CA h x sg eds ee go on bk sl ins lf ef pl pls fnd ea fa lo hi onf bkf dk rc ex σ P) : CA (putF h 1 x (.int (nI 0))) x sg eds ee go on bk sl ins lf ef pl pls fnd ea fa lo hi onf bkf dk rc ex (clS σ) P := by
  obtain ⟨c1, c2, c3, c4, c5, c6, c7, c8, c9⟩ := C
  obtain ⟨x0, x1, x2, x3, x4, x5, x6, x7, x8, x9⟩ := c1
  have t9 : hT (putF h 1 x (.int (nI 0))) = hT h ∧ hZ (putF h 1 x (.int (nI 0))) = hZ h := ⟨hT_putF, hZ_putF⟩
  have s : ∀ a, hC h a ≠ 16 → samA h (putF h 1 x (.int (nI 0))) a := fun a ha => samA.putF (fun z => ha (by rw [z]; exact x0))
  have hx : hC (putF h 1 x (.int (nI 0))) x = 16 ∧ hF (putF h 1 x (.int (nI 0))) 1 x = .int (nI 0) ∧ ∀ f, f ≠ 1 → hF (putF h 1 x (.int (nI 0))) f x = hF h f x := ⟨hC_putF.trans x0, hF_putF, fun f hf => hF_putF_f hf⟩
  have hk : ∀ a, hC (putF h 1 x (.int (nI 0))) a = hC h a := fun a => hC_putF
  have s' : ∀ a, a ≠ x → samA h (putF h 1 x (.int (nI 0))) a := fun a ha => samA.putF ha
  generalize putF h 1 x (.int (nI 0)) = h' at *
  have l1 := c7.1
  have l2 := c6.2.2.1
  have hz9 := s _ (show hC h (hZ h) ≠ 16 by rw [c9.1]; decide)
  refine ⟨⟨hx.1, (hx.2.2 _ (by decide)).trans x1, hx.2.1, (hx.2.2 _ (by decide)).trans x3, (hx.2.2 _ (by decide)).trans x4, (hx.2.2 _ (by decide)).trans x5, (hx.2.2 _ (by decide)).trans x6, (hx.2.2 _ (by decide)).trans x7, (hx.2.2 _ (by decide)).trans x8, (hx.2.2 _ (by decide)).trans x9⟩, ⟨(hk _).trans c2.1, (s sg (by rw [c2.1]; decide)).2.1.trans c2.2.1, fun i hi => absurd hi (Nat.not_lt_zero i)⟩, c3.same (s _ (by rw [c3.1]; decide)), c4.same (s _ (by rw [c4.1]; decide)) (s _ (by rw [c4.2.2.2.1]; decide)), c5.same (s _ (by rw [c5.1.1]; decide)) (s _ (by rw [c5.2.1.1]; decide)) (s _ (by rw [c5.2.2.1.1]; decide)) (s _ (by rw [c5.2.2.2.1.1]; decide)), c6.same (s _ (by rw [c6.1]; decide)) (s _ (by rw [l2.1]; decide)) (s _ ?_) (fun i hi => ?_) t9.2 (by rw [t9.1]; exact Nat.le_refl _), c7.same (s _ (by rw [l1.1]; decide)) (s _ ?_) (fun e he a ha => ?_) hz9 t9.2 (by rw [t9.1]; exact Nat.le_refl _), c8.same (by rw [t9.1]; exact Nat.le_refl _) (hk _) (hk _), c9.same hz9 t9.2 (by rw [t9.1]; exact Nat.le_refl _)⟩
  · rcases l2.ke with q | q <;> rw [q] <;> decide
  · have f := (c6.2.2.2 i _ (List.getElem?_eq_getElem hi)).1
    exact s _ (by rw [f]; decide)
  · rcases l1.ke with q | q <;> rw [q] <;> decide
  · exact s' a (c8.2.2.2.2.2.2.1 e he a ha).2.1
theorem ge_ne {a b y : Nat} (h1 : b ≤ a) (hy : y < b) : a ≠ y := by omega
theorem take_cO {h h4 : sm_H} {P : Nat → Prop} {x sg eds ee go on bk sl ins lf ef pl pls fnd : Nat} {fa lo hi : Nat → Nat} {n nf : Nat} (c8 : cO h P x sg eds ee go on bk sl ins lf ef pl pls fnd fa lo hi n nf) (c9 : cZ h P) {b : Nat} (Lo : cLo b P x sg eds ee go on bk sl ins lf ef pl pls fnd fa hi n nf) (hb : b ≤ hT h) (ht : hT h ≤ hT h4) (sz4 : samA h h4 (hZ h)) (hel : hC h ef = 14 → ef = hZ h) {e' ef4 nf4 : Nat} {fa4 : Nat → Nat} (w1 : e' = ee ∧ hC h ee = 7 ∨ e' = hT h) (e'ef : e' ≠ ef ∨ ef = hZ h) (he4 : ef4 = ef ∨ (hT h ≤ ef4 ∧ e' < ef4)) (hf4 : ∀ i, i < nf4 → hT h ≤ fa4 i) : cO h4 P x sg eds e' go on bk sl ins lf ef4 pl pls fnd fa4 (fun i => if i = n then b else lo i) (fun i => if i = n then hT h else hi i) (n + 1) nf4 := by
  obtain ⟨o1, o2, o3, o4, o5, o6⟩ := Lo
  have bx := o1 x (by simp)
  have bsg := o1 sg (by simp)
  have beds := o1 eds (by simp)
  have bgo := o1 go (by simp)
  have bon := o1 on (by simp)
  have bbk := o1 bk (by simp)
  have bsl := o1 sl (by simp)
  have bins := o1 ins (by simp)
  have blf := o1 lf (by simp)
  have bpl := o1 pl (by simp)
  have bpls := o1 pls (by simp)
  have bfnd := o1 fnd (by simp)
  refine ⟨fun a ha => ⟨by have := (c8.1 a ha).1; omega, (c8.1 a ha).2⟩, c8.2.1, Or.inr ?_, ?_, fun q => ?_, fun i hi z => absurd (Nat.lt_of_lt_of_le (o6 _ z) hb) (Nat.not_lt.mpr (hf4 i hi)), fun e he a ha => ?_, fun e1 e2 h1 h2 hne a ha => ?_⟩
  · rcases w1 with ⟨y, y7⟩ | y
    · rw [y]; exact c8.2.2.1.resolve_left (by rw [y7]; decide)
    · exact fun z => by have := o6 _ z; omega
  · rcases he4 with y | y
    · rw [y]
      rcases c8.2.2.2.1 with q | q
      · left
        rw [hel q]; exact sz4.1.trans c9.1
      · exact Or.inr q
    · exact Or.inr (fun z => by have := o6 _ z; omega)
  · rcases he4 with y | y
    · rw [y]
      rcases e'ef with z | z
      · exact z
      · intro w
        rw [w, z, sz4.1, c9.1] at q; cases q
    · omega
  · dsimp only at ha
    by_cases q : e = n
    · rw [if_pos q, if_pos q] at ha
      have h1 := ha.1
      have h2 := ha.2
      refine ⟨fun z => absurd (o6 _ z) (Nat.not_lt.mpr h1), ge_ne h1 bx, ge_ne h1 bsg, ge_ne h1 beds, ?_, ge_ne h1 bgo, ge_ne h1 bon, ge_ne h1 bbk, ge_ne h1 bsl, ge_ne h1 bins, ge_ne h1 blf, ?_, ge_ne h1 bpl, ge_ne h1 bpls, ge_ne h1 bfnd, fun i hi => Nat.ne_of_lt (Nat.lt_of_lt_of_le h2 (hf4 i hi))⟩
      · rcases w1 with ⟨y, _⟩ | y
        · rw [y]; exact ge_ne h1 o2
        · rw [y]; exact Nat.ne_of_lt h2
      · rcases he4 with y | y
        · rw [y]; exact ge_ne h1 o3
        · exact Nat.ne_of_lt (Nat.lt_of_lt_of_le h2 y.1)
    · rw [if_neg q, if_neg q] at ha
      have he' : e < n := by omega
      have ha2 : a < hT h := by have hb' := o5 e he'; have := ha.2; omega
      obtain ⟨p0, p1, p2, p3, p4, p5, p6, p7, p8, p9, p10, p11, p12, p13, p14, p15⟩ := c8.2.2.2.2.2.2.1 e he' a ha
      refine ⟨p0, p1, p2, p3, ?_, p5, p6, p7, p8, p9, p10, ?_, p12, p13, p14, fun i hi => Nat.ne_of_lt (Nat.lt_of_lt_of_le ha2 (hf4 i hi))⟩
      · rcases w1 with ⟨y, _⟩ | y
        · rw [y]; exact p4
        · rw [y]; exact Nat.ne_of_lt ha2
      · rcases he4 with y | y
        · rw [y]; exact p11
        · exact Nat.ne_of_lt (Nat.lt_of_lt_of_le ha2 y.1)
  · dsimp only at ha ⊢
    by_cases q1 : e1 = n <;> by_cases q2 : e2 = n
    · omega
    · rw [if_pos q1, if_pos q1] at ha
      rw [if_neg q2, if_neg q2]
      have := ha.1
      have := o5 e2 (by omega)
      exact fun z => by have := z.2; omega
    · rw [if_neg q1, if_neg q1] at ha
      rw [if_pos q2, if_pos q2]
      have := ha.2
      have := o5 e1 (by omega)
      exact fun z => by have := z.1; omega
    · rw [if_neg q1, if_neg q1] at ha
      rw [if_neg q2, if_neg q2]
      exact c8.2.2.2.2.2.2.2 e1 e2 (by omega) (by omega) hne a ha
theorem take_fin {h h4 : sm_H} {x sg eds ee go on bk sl ins lf ef pl pls fnd : Nat} {ea fa lo hi onf bkf : Nat → Nat} {dk rc ex : Nat} {σ : Sg} {P : Nat → Prop} (C : CA h x sg eds ee go on bk sl ins lf ef pl pls fnd ea fa lo hi onf bkf dk rc ex σ P) (hlen : sLen σ = 0) {b : Nat} (Lo : cLo b P x sg eds ee go on bk sl ins lf ef pl pls fnd fa hi (sEd σ).length (fltE (cE σ)).length) (hb : b ≤ hT h) {ed lp lw lv ls ep ew ev es : Nat} {pa wa va sa : Nat → Nat} {E : Ed} (ht : hT h ≤ hT h4) (z4 : hZ h4 = hZ h) (sz4 : samA h h4 (hZ h)) (X4 : EdF h4 ed lp lw lv ls ep ew ev es pa wa va sa E (fun _ => nI 0)) (O4 : EdO h4 (inI b (hT h)) ed lp lw lv ls ep ew ev es pa wa va sa E) (hx4 : hC h4 x = 16 ∧ hF h4 3 x = .ref ed ∧ ∀ f, f ≠ 3 → hF h4 f x = hF h f x) (ssg : samA h h4 sg) (sfn : samA h h4 fnd) (spl : samA h h4 pl) (spls : samA h h4 pls) (hed9 : ∀ e, e < (sEd σ).length → ∀ a, inI (lo e) (hi e) a → samA h h4 a) {e' ef4 : Nat} {fa4 onf' bkf' : Nat → Nat} {dk' rc' ex' : Nat} (L4 : Lst h4 eds e' ((sEd σ).length + 1) (fun i => if i = (sEd σ).length then ed else ea i)) (G4 : GoR h4 go on bk sl E onf' bkf' dk' rc' ex') (ci4 : cI h4 ins lf ef4 fa4 (fltE E)) (w1 : e' = ee ∧ hC h ee = 7 ∨ e' = hT h) (e'ef : e' ≠ ef ∨ ef = hZ h) (he4 : ef4 = ef ∨ (hT h ≤ ef4 ∧ e' < ef4)) (hf4 : ∀ i, i < (fltE E).length → hT h ≤ fa4 i) : CR h4 x (tkS σ E) P := by
  obtain ⟨c1, c2, c3, c4, c5, c6, c7, c8, c9⟩ := C
  obtain ⟨x0, x1, x2, x3, x4, x5, x6, x7, x8, x9⟩ := c1
  have l2 := c6.2.2.1
  have cO4 := take_cO c8 c9 Lo hb ht sz4 (fun q => by
    rcases l2.2.2.2.2.2.2.2.1 with ⟨w, _⟩ | ⟨w, _⟩
    · exact w
    · rw [q] at w; cases w) w1 e'ef he4 hf4
  clear Lo c8 l2 c6 c5 w1 e'ef he4 hf4
  obtain ⟨n, hn9⟩ : ∃ n, (sEd σ).length = n := ⟨_, rfl⟩
  have eN : (sEd (tkS σ E)).length = (sEd σ).length + 1 := by
    show (sEd σ ++ [E.1]).length = (sEd σ).length + 1
    rw [List.length_append]; rfl
  have eE : sE (tkS σ E) = (sEd σ).length := by unfold sE; rw [eN]; rfl
  have gx := hx4.2.2
  refine ⟨sg, eds, e', go, on, bk, sl, ins, lf, ef4, pl, pls, fnd, (fun i => if i = (sEd σ).length then ed else ea i), fa4, (fun i => if i = (sEd σ).length then b else lo i), (fun i => if i = (sEd σ).length then hT h else hi i), onf', bkf', dk', rc', ex', ⟨hx4.1, (gx _ (by decide)).trans x1, ?_, (gx _ (by decide)).trans x3, ?_, (gx _ (by decide)).trans x5, (gx _ (by decide)).trans x6, (gx _ (by decide)).trans x7, (gx _ (by decide)).trans x8, (gx _ (by decide)).trans x9⟩, ⟨ssg.1.trans c2.1, ssg.2.1.trans c2.2.1, fun i hi => absurd hi (Nat.not_lt_zero i)⟩, c3.same sfn, c4.same spl spls, by rw [tkS_cur]; exact G4, by rw [tkS_cur]; exact ci4, ⟨by rw [eN]; exact L4, fun e he => ?_⟩, by rw [eN, tkS_cur]; exact cO4, c9.same sz4 z4 ht⟩
  · show hF h4 1 x = .int (nI 0)
    rw [gx 1 (by decide), x2, hlen]
  · rw [eE]
    show hF h4 3 x = .ref (if (sEd σ).length = (sEd σ).length then ed else ea (sEd σ).length)
    rw [if_pos rfl]
    exact hx4.2.1
  · rw [eN] at he
    rw [eE]
    dsimp only
    by_cases q : e = (sEd σ).length
    · rw [if_pos q, if_pos q, if_pos q]
      refine ⟨E, ?_, fun _ => tkS_cur.symm, ht, lp, lw, lv, ls, ep, ew, ev, es, pa, wa, va, sa, ?_, O4⟩
      · show E.1 = (sEd σ ++ [E.1]).getD e []
        rw [q, List.getD_eq_getElem?_getD, List.getElem?_append_right (Nat.le_refl _), Nat.sub_self]; rfl
      · have eu : sUn (tkS σ E) e = fun _ => nI 0 := by
          funext k
          show (if e = (sEd σ).length then nI 0 else sUn σ e k) = nI 0
          rw [if_pos q]
        rw [eu]; exact X4
    · rw [if_neg q, if_neg q, if_neg q]
      have he' : e < (sEd σ).length := by omega
      obtain ⟨E', y1, y2, r⟩ := c7.2 e he'
      refine ⟨E', ?_, fun z => absurd z q, ?_⟩
      · rw [y1]
        show (sEd σ).getD e [] = (sEd σ ++ [E.1]).getD e []
        rw [List.getD_eq_getElem?_getD, List.getD_eq_getElem?_getD, List.getElem?_append_left he']
      · have eu : sUn (tkS σ E) e = sUn σ e := by
          funext k
          show (if e = (sEd σ).length then nI 0 else sUn σ e k) = sUn σ e k
          rw [if_neg q]
        rw [eu]
        exact r.same (hed9 e he') sz4 z4 ht
theorem c_take {h : sm_H} {Q : Nat → Option Value → sm_H → Prop} {x sg eds ee go on bk sl ins lf ef pl pls fnd : Nat} {ea fa lo hi onf bkf : Nat → Nat} {dk rc ex : Nat} {σ : Sg} {P : Nat → Prop} (C : CA h x sg eds ee go on bk sl ins lf ef pl pls fnd ea fa lo hi onf bkf dk rc ex σ P) (S : SI σ) (hlen : sLen σ = 0) {b : Nat} (Lo : cLo b P x sg eds ee go on bk sl ins lf ef pl pls fnd fa hi (sEd σ).length (fltE (cE σ)).length) (hb : b ≤ hT h) {ed lp lw lv ls ep ew ev es : Nat} {pa wa va sa : Nat → Nat} {E : Ed} (X : EdF h ed lp lw lv ls ep ew ev es pa wa va sa E (fun _ => nI 0)) (O : EdO h (inI b (hT h)) ed lp lw lv ls ep ew ev es pa wa va sa E) (hWd : EdW E) (hn : E.1.length ≤ 60) (K : ∀ h', CR h' x (tkS σ E) P → (∀ a, P a → samA h h' a) → hT h ≤ hT h' → hT h' ≤ hT h + 361 → hU h ≤ hU h' → hU h' ≤ hU h + 75100 → hZ h' = hZ h → (∀ a, inI b (hT h) a → samA h h' a) → Q 0 none h') : sm_wp 7 0 [.ref x, .ref ed] [] h Q := by
  obtain ⟨c1, c2, c3, c4, c5, c6, c7, c8, c9⟩ := id C
  obtain ⟨x0, x1, x2, x3, x4, x5, x6, x7, x8, x9⟩ := c1
  obtain ⟨o1, o2, o3, o4, o5, o6⟩ := id Lo
  have hS := S.2.2.2.1
  have hS8 := S.2.2.2.2.1
  have l1 := c7.1
  have l2 := c6.2.2.1
  have bx := o1 x (by simp)
  have bsg := o1 sg (by simp)
  have beds := o1 eds (by simp)
  have bgo := o1 go (by simp)
  have bon := o1 on (by simp)
  have bbk := o1 bk (by simp)
  have bsl := o1 sl (by simp)
  have bins := o1 ins (by simp)
  have blf := o1 lf (by simp)
  have bpl := o1 pl (by simp)
  have bpls := o1 pls (by simp)
  have bfnd := o1 fnd (by simp)
  have bz := o6 _ c9.2.2.1
  have hed : ed < hT h := O.1.1.2
  have hedb : b ≤ ed := O.1.1.1
  -- the list of editions grows
  refine wp_pure k_7 rfl rfl ?_
  refine wp_get k_7 rfl x0 x3 ?_
  refine wp_pure k_7 rfl rfl ?_
  refine wp_iv k_7 rfl [.ref ed] rfl l1.1 (r := []) (Nat.le_of_ble_eq_true rfl) (Nat.le_of_ble_eq_true rfl) rfl ?_
  refine c_add l1 (by omega) (by rw [X.1.1]; decide) (by rw [X.1.1]; decide) hed (fun h1 e' L1 w1 f1 => ⟨rfl, ?_⟩)
  have t1 := f1.1
  have s1 : ∀ a, a < hT h → a ≠ eds → (a ≠ ee ∨ hC h ee = 14) → samA h h1 a := fun a ha h1 h2 => f1.2.2.2.2.2 a ha (fun q => q.elim h1 (fun q => h2.elim (fun z => z q.1) (fun z => by rw [q.2] at z; cases z)))
  have k1 : ∀ a k, a < hT h → hC h a = k → k ≠ 26 → k ≠ 7 → k ≠ 14 → samA h h1 a := fun a k ha hk q1 q2 q3 => s1 a ha (kne hk l1.1 q1) (Or.inl (Ne.symm (kne2 l1.ke hk q3 q2)))
  have sz1 : samA h h1 (hZ h) := s1 _ (by omega) (kne c9.1 l1.1 (by decide)) (by
    by_cases q : hZ h = ee
    · right; rw [← q]; exact c9.1
    · exact Or.inl q)
  have m1 : ∀ a, inI b (hT h) a → samA h h1 a := fun a ha => s1 a ha.2 (by have := ha.1; omega) (Or.inl (by have := ha.1; omega))
  have sx1 := k1 x 16 (by omega) x0 (by decide) (by decide) (by decide)
  refine wp_pure k_7 rfl rfl ?_
  refine wp_pure k_7 rfl rfl ?_
  refine wp_pure k_7 rfl rfl ?_
  refine wp_put k_7 rfl (sx1.1.trans x0) rfl rfl ?_
  -- it is the latest
  have hx2 : hC (putF h1 3 x (.ref ed)) x = 16 ∧ hF (putF h1 3 x (.ref ed)) 3 x = .ref ed ∧ ∀ f, f ≠ 3 → hF (putF h1 3 x (.ref ed)) f x = hF h f x := ⟨hC_putF.trans (sx1.1.trans x0), hF_putF, fun f hf => (hF_putF_f hf).trans (sx1.2.2.1 f)⟩
  have t2 : hT (putF h1 3 x (.ref ed)) = hT h1 ∧ hU (putF h1 3 x (.ref ed)) = hU h1 ∧ hZ (putF h1 3 x (.ref ed)) = hZ h1 := ⟨hT_putF, hU_putF, hZ_putF⟩
  have s12 : ∀ a, a ≠ x → samA h1 (putF h1 3 x (.ref ed)) a := fun a ha => samA.putF ha
  generalize putF h1 3 x (.ref ed) = h2 at *
  have z2 : hZ h2 = hZ h := t2.2.2.trans f1.2.2.2.2.1
  have s2 : ∀ a, a < hT h → a ≠ eds → (a ≠ ee ∨ hC h ee = 14) → a ≠ x → samA h h2 a := fun a ha q1 q2 q3 => (s1 a ha q1 q2).trans (s12 a q3)
  have k2 : ∀ a k, a < hT h → hC h a = k → k ≠ 26 → k ≠ 7 → k ≠ 14 → k ≠ 16 → samA h h2 a := fun a k ha hk q1 q2 q3 q4 => (k1 a k ha hk q1 q2 q3).trans (s12 a (kne hk x0 q4))
  have sz2 : samA h h2 (hZ h) := sz1.trans (s12 _ (kne c9.1 x0 (by decide)))
  have m2 : ∀ a, inI b (hT h) a → samA h h2 a := fun a ha => (m1 a ha).trans (s12 a (by have := ha.1; omega))
  obtain ⟨X2, O2⟩ := EdFO.same X O m2 sz2 z2 (by omega)
  obtain ⟨⟨ga0, ga1, ga2, ga3, ga4, ga5, ga6, ga7⟩, ⟨on1, on2, on3⟩, ⟨bk1, bk2, bk3⟩, ⟨sl1, sl2⟩, gg⟩ := c5
  have sgo := k2 go 19 (by omega) ga0 (by decide) (by decide) (by decide) (by decide)
  have son := k2 on 2 (by omega) on1 (by decide) (by decide) (by decide) (by decide)
  have sbk := k2 bk 2 (by omega) bk1 (by decide) (by decide) (by decide) (by decide)
  have ssl := k2 sl 2 (by omega) sl1 (by decide) (by decide) (by decide) (by decide)
  refine wp_pure k_7 rfl rfl ?_
  refine wp_get k_7 rfl hx2.1 ((hx2.2.2 _ (by decide)).trans x5) ?_
  refine wp_pure k_7 rfl rfl ?_
  refine wp_iv k_7 rfl [.ref ed] rfl (sgo.1.trans ga0) (r := []) (Nat.le_of_ble_eq_true rfl) (Nat.le_of_ble_eq_true rfl) rfl ?_
  refine c_learn c8.2.1.2.1 c8.2.1.2.2.1 c8.2.1.2.2.2.1 (sgo.1.trans ga0) ((sgo.2.2.1 _).trans ga1) ((sgo.2.2.1 _).trans ga2) ((sgo.2.2.1 _).trans ga3) ((sgo.2.2.1 _).trans ga4) (son.1.trans on1) (son.2.1.trans on2) (sbk.1.trans bk1) (sbk.2.1.trans bk2) (ssl.1.trans sl1) (ssl.2.1.trans sl2) X2 O2 hWd hn (fun a ha => by have := ha.1; exact ⟨by omega, by omega, by omega, by omega⟩) (by
    rw [z2]
    exact ⟨kne c9.1 ga0 (by decide), kne c9.1 on1 (by decide), kne c9.1 bk1 (by decide), kne c9.1 sl1 (by decide)⟩) (fun h3 onf' bkf' dk' rc' ex' G t3 u3 z3 s23 => ⟨rfl, ?_⟩)
  have z3' : hZ h3 = hZ h := z3.trans z2
  have k3 : ∀ a k, a < hT h → hC h a = k → k ≠ 26 → k ≠ 7 → k ≠ 14 → k ≠ 16 → k ≠ 19 → k ≠ 2 → samA h h3 a := fun a k ha hk q1 q2 q3 q4 q5 q6 => (k2 a k ha hk q1 q2 q3 q4).trans (s23 a (kne hk ga0 q5) (kne hk on1 q6) (kne hk bk1 q6) (kne hk sl1 q6))
  have m3 : ∀ a, inI b (hT h) a → samA h h3 a := fun a ha => (m2 a ha).trans (by have := ha.1; exact s23 a (by omega) (by omega) (by omega) (by omega))
  have sz3 : samA h h3 (hZ h) := sz2.trans (s23 _ (kne c9.1 ga0 (by decide)) (kne c9.1 on1 (by decide)) (kne c9.1 bk1 (by decide)) (kne c9.1 sl1 (by decide)))
  obtain ⟨X3, O3⟩ := EdFO.same X O m3 sz3 z3' (by omega)
  have sx3 := s23 x (kne x0 ga0 (by decide)) (kne x0 on1 (by decide)) (kne x0 bk1 (by decide)) (kne x0 sl1 (by decide))
  have hx3 : hC h3 x = 16 ∧ hF h3 3 x = .ref ed ∧ ∀ f, f ≠ 3 → hF h3 f x = hF h f x := ⟨sx3.1.trans hx2.1, (sx3.2.2.1 _).trans hx2.2.1, fun f hf => (sx3.2.2.1 _).trans (hx2.2.2 f hf)⟩
  have sins := k3 ins 20 (by omega) c6.1 (by decide) (by decide) (by decide) (by decide) (by decide) (by decide)
  have slf : samA h h3 lf := ((s1 lf (by omega) (Ne.symm c8.2.1.2.2.2.2) (Or.inl (Ne.symm (kne2 l1.ke l2.1 (by decide) (by decide))))).trans (s12 lf (kne l2.1 x0 (by decide)))).trans (s23 lf (kne l2.1 ga0 (by decide)) (kne l2.1 on1 (by decide)) (kne l2.1 bk1 (by decide)) (kne l2.1 sl1 (by decide)))
  have sef : samA h h3 ef := by
    rcases l2.2.2.2.2.2.2.2.1 with ⟨y, _⟩ | ⟨y, _⟩
    · rw [y]; exact sz3
    · refine ((s1 ef (by omega) (kne y l1.1 (by decide)) ?_).trans (s12 ef (kne y x0 (by decide)))).trans (s23 ef (kne y ga0 (by decide)) (kne y on1 (by decide)) (kne y bk1 (by decide)) (kne y sl1 (by decide)))
      rcases l1.ke with q | q
      · exact Or.inr q
      · exact Or.inl (Ne.symm (c8.2.2.2.2.1 q))
  have ci3 := c6.same sins slf sef (fun i hi => by
    have f := (c6.2.2.2 i _ (List.getElem?_eq_getElem hi)).1
    exact k3 _ 18 (by have := o4 i hi; omega) f (by decide) (by decide) (by decide) (by decide) (by decide) (by decide)) z3' (by omega)
  have hin3 := ci3.1
  refine wp_pure k_7 rfl rfl ?_
  refine wp_get k_7 rfl hx3.1 ((hx3.2.2 _ (by decide)).trans x6) ?_
  refine wp_pure k_7 rfl rfl ?_
  refine wp_pure k_7 rfl rfl ?_
  refine wp_get k_7 rfl hx3.1 ((hx3.2.2 _ (by decide)).trans x5) ?_
  refine wp_iv k_7 rfl [.ref ed, .ref go] rfl hin3 (r := []) (Nat.le_of_ble_eq_true rfl) (Nat.le_of_ble_eq_true rfl) rfl ?_
  refine c_inspect ci3 (by rw [z3']; exact sz3.1.trans c9.1) (by rw [z3']; omega) (by omega) X3 O3 hWd hn (by omega) (fun a ha => by have := ha.1; exact ⟨by omega, by omega⟩) G ⟨by omega, by omega, by omega, by omega⟩ (fun h4 w4 => ⟨rfl, ?_⟩)
  refine wp_vrt k_7 rfl rfl ?_
  obtain ⟨ef4, fa4, ci4, f4, he4, hf4⟩ := w4
  have z4 : hZ h4 = hZ h := f4.2.2.2.2.1.trans z3'
  have t4 := f4.1
  have t4' := f4.2.1
  have u4 := f4.2.2.1
  have u4' := f4.2.2.2.1
  have t1' := f1.2.1
  have u1 := f1.2.2.1
  have u1' := f1.2.2.2.1
  have s34 : ∀ a, a < hT h3 → a ≠ lf → (a ≠ ef ∨ ef = hZ h3) → samA h3 h4 a := fun a ha q1 q2 => f4.2.2.2.2.2 a ha (fun q => q.elim q1 (fun q => q2.elim (fun z => z q.1) (fun z => q.2 z)))
  have ke2 := l2.ke
  have k34 : ∀ a k, a < hT h3 → hC h3 a = k → k ≠ 26 → k ≠ 7 → k ≠ 14 → samA h3 h4 a := fun a k ha hk q1 q2 q3 => s34 a ha (kne hk (slf.1.trans l2.1) q1) (Or.inl (Ne.symm (kne2 (by rw [sef.1]; exact ke2) hk q3 q2)))
  have k4 : ∀ a k, a < hT h → hC h a = k → k ≠ 26 → k ≠ 7 → k ≠ 14 → k ≠ 16 → k ≠ 19 → k ≠ 2 → samA h h4 a := fun a k ha hk q1 q2 q3 q4 q5 q6 => by
    have y := k3 a k ha hk q1 q2 q3 q4 q5 q6
    exact y.trans (k34 a k (by omega) (y.1.trans hk) q1 q2 q3)
  have hlfz : hZ h ≠ lf := kne c9.1 l2.1 (by decide)
  have sz4 : samA h h4 (hZ h) := sz3.trans (s34 _ (by omega) hlfz (by
    by_cases q : hZ h = ef
    · right; rw [z3']; exact q.symm
    · exact Or.inl q))
  have m4 : ∀ a, inI b (hT h) a → samA h h4 a := fun a ha => (m3 a ha).trans (by have := ha.1; have := ha.2; exact s34 a (by omega) (by omega) (Or.inl (by omega)))
  have sx4 := k34 x 16 (by omega) hx3.1 (by decide) (by decide) (by decide)
  have gx : ∀ f, f ≠ 3 → hF h4 f x = hF h f x := fun f hf => (sx4.2.2.1 f).trans (hx3.2.2 f hf)
  have hP4 : ∀ a, P a → samA h h4 a := fun a ha => by
    have hb' := o6 a ha
    have q12 : ∀ y, (y = x ∨ y = sg ∨ y = eds ∨ y = go ∨ y = on ∨ y = bk ∨ y = sl ∨ y = ins ∨ y = lf ∨ y = pl ∨ y = pls ∨ y = fnd) → a ≠ y := fun y hy z => (c8.1 y hy).2 (by rw [← z]; exact ha)
    have q3 : a ≠ ee ∨ hC h ee = 14 := by
      rcases c8.2.2.1 with q | q
      · exact Or.inr q
      · exact Or.inl (fun z => q (by rw [← z]; exact ha))
    have q4 : a ≠ ef ∨ ef = hZ h3 := by
      rcases c8.2.2.2.1 with q | q
      · refine Or.inr ?_
        rcases l2.2.2.2.2.2.2.2.1 with ⟨y, _⟩ | ⟨y, _⟩
        · rw [z3']; exact y
        · rw [q] at y; cases y
      · exact Or.inl (fun z => q (by rw [← z]; exact ha))
    exact (((s1 a (by omega) (q12 _ (by simp)) q3).trans (s12 a (q12 _ (by simp)))).trans (s23 a (q12 _ (by simp)) (q12 _ (by simp)) (q12 _ (by simp)) (q12 _ (by simp)))).trans (s34 a (by omega) (q12 _ (by simp)) q4)
  have hed9 : ∀ e, e < (sEd σ).length → ∀ a, inI (lo e) (hi e) a → samA h h4 a := fun e he a ha => by
    have ha1 : a < hT h := by have hb' := o5 e he; have := ha.2; omega
    have ha3 : a < hT h3 := by omega
    obtain ⟨p0, p1, p2, p3, p4, p5, p6, p7, p8, p9, p10, p11, p12, p13, p14, p15⟩ := c8.2.2.2.2.2.2.1 e he a ha
    exact (((s1 a ha1 p3 (Or.inl p4)).trans (s12 a p1)).trans (s23 a p5 p6 p7 p8)).trans (s34 a ha3 p10 (Or.inl p11))
  have eds4 : samA h1 h4 eds := ((s12 eds (kne l1.1 x0 (by decide))).trans (s23 eds (kne l1.1 ga0 (by decide)) (kne l1.1 on1 (by decide)) (kne l1.1 bk1 (by decide)) (kne l1.1 sl1 (by decide)))).trans (s34 eds (by omega) c8.2.1.2.2.2.2 (Or.inl (Ne.symm (kne2 ke2 l1.1 (by decide) (by decide)))))
  have e7 : hC h1 e' = 7 := by
    rcases w1 with ⟨y, y7⟩ | y
    · rcases L1.2.2.2.2.2.2.2.1 with ⟨q, _⟩ | ⟨q, _⟩
      · exfalso
        rw [y, f1.2.2.2.2.1] at q
        rw [q, c9.1] at y7; cases y7
      · exact q
    · rcases L1.2.2.2.2.2.2.2.1 with ⟨q, _⟩ | ⟨q, _⟩
      · have := f1.2.2.2.2.1; omega
      · exact q
  have e'x : e' < b ∨ hT h ≤ e' := w1.elim (fun z => Or.inl (by omega)) (fun z => Or.inr (by omega))
  have e'ef : e' ≠ ef ∨ ef = hZ h := by
    rcases l2.2.2.2.2.2.2.2.1 with ⟨y, _⟩ | ⟨y, _⟩
    · exact Or.inr y
    · rcases w1 with ⟨q, q7⟩ | q
      · exact Or.inl (by rw [q]; exact c8.2.2.2.2.1 q7)
      · exact Or.inl (by omega)
  have e'4 : samA h1 h4 e' := by
    have hlt := L1.2.2.2.2.2.2.1
    have hneq : ∀ y, y < hT h → hC h y ≠ 7 → e' ≠ y := fun y hy hk z => by
      rcases w1 with ⟨q, q7⟩ | q
      · rw [q] at z; rw [z] at q7; exact hk q7
      · omega
    exact ((s12 e' (hneq x (by omega) (by rw [x0]; decide))).trans (s23 e' (hneq go (by omega) (by rw [ga0]; decide)) (hneq on (by omega) (by rw [on1]; decide)) (hneq bk (by omega) (by rw [bk1]; decide)) (hneq sl (by omega) (by rw [sl1]; decide)))).trans (s34 e' (by omega) (hneq lf (by omega) (by rw [l2.1]; decide)) (e'ef.imp id (fun z => z.trans z3'.symm)))
  have ka : ∀ e, e < (sEd σ).length → hC h (ea e) = 17 := fun e he => by
    obtain ⟨E', _, _, r⟩ := c7.2 e (by omega)
    obtain ⟨_, lp', lw', lv', ls', ep', ew', ev', es', pa', wa', va', sa', X', _⟩ := r
    exact X'.1.1
  have la : ∀ e, e < (sEd σ).length → ea e < hT h := fun e he => (l1.2.2.2.2.2.2.2.2 e (by omega)).2.2.2
  have L4 : Lst h4 eds e' ((sEd σ).length + 1) (fun i => if i = (sEd σ).length then ed else ea i) := L1.same eds4 e'4 (fun i hi => by
    by_cases q : i = (sEd σ).length
    · rw [if_pos q]
      exact (m4 ed O.1.1).1.trans (m1 ed O.1.1).1.symm
    · rw [if_neg q]
      have hk := ka i (by omega)
      exact (k4 _ 17 (la i (by omega)) hk (by decide) (by decide) (by decide) (by decide) (by decide) (by decide)).1.trans (k1 _ 17 (la i (by omega)) hk (by decide) (by decide) (by decide)).1.symm) (z4.trans f1.2.2.2.2.1.symm) (by omega)
  obtain ⟨X4, O4⟩ := EdFO.same X O m4 sz4 z4 (by omega)
  have g0 := G.1.1
  have G4 := G.same (k34 _ 19 (by omega) g0 (by decide) (by decide) (by decide)) (k34 _ 2 (by omega) G.2.1.1 (by decide) (by decide) (by decide)) (k34 _ 2 (by omega) G.2.2.1.1 (by decide) (by decide) (by decide)) (k34 _ 2 (by omega) G.2.2.2.1.1 (by decide) (by decide) (by decide))
  have e1lt := L1.2.2.2.2.2.2.1
  refine K h4 (take_fin C hlen Lo hb (by omega) z4 sz4 X4 O4 ⟨sx4.1.trans hx3.1, (sx4.2.2.1 _).trans hx3.2.1, gx⟩ (k4 sg 3 (by omega) c2.1 (by decide) (by decide) (by decide) (by decide) (by decide) (by decide)) (k4 _ 1 (by omega) c3.1 (by decide) (by decide) (by decide) (by decide) (by decide) (by decide)) (k4 _ 23 (by omega) c4.1 (by decide) (by decide) (by decide) (by decide) (by decide) (by decide)) (k4 _ 3 (by omega) c4.2.2.2.1 (by decide) (by decide) (by decide) (by decide) (by decide) (by decide)) hed9 L4 G4 ci4 w1 e'ef (he4.imp id (fun z => ⟨by omega, by omega⟩)) (fun i hi => by have := hf4 i hi; omega)) hP4 (by omega) (by omega) (by omega) (by omega) z4 m4
