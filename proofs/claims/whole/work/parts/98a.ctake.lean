/-! THE CLASS TAKES an edition -/
/-- all that the class has lies below lo -/
def cLo (lo : Nat) (P : Nat → Prop) (x sg eds ee go ins lf ef pl pls fnd efd : Nat) (fa hi : Nat → Nat) (n nf : Nat) : Prop := (∀ a, a = x ∨ a = sg ∨ a = eds ∨ a = go ∨ a = ins ∨ a = lf ∨ a = pl ∨ a = pls ∨ a = fnd → a < lo) ∧ ee < lo ∧ ef < lo ∧ efd < lo ∧ (∀ i, i < nf → fa i < lo) ∧ (∀ e, e < n → hi e ≤ lo) ∧ (∀ a, P a → a < lo)
theorem CA.lo {h : sm_H} {x sg eds ee go ins lf ef pl pls fnd efd : Nat} {ea fa fda lo hi : Nat → Nat} {dk rc ex : Nat} {σ : Sg} {P : Nat → Prop} (C : CA h x sg eds ee go ins lf ef pl pls fnd efd ea fa fda lo hi dk rc ex σ P) : cLo (hT h) P x sg eds ee go ins lf ef pl pls fnd efd fa hi (sEd σ).length (fltE (cE σ)).length := by
  obtain ⟨c1, c2, c3, c4, c5, c6, c7, c8, c9⟩ := C
  have l1 := c7.1
  have l2 := c6.2.2.1
  refine ⟨fun a ha => (c8.1 a ha).1, l1.2.2.2.2.2.2.1, l2.2.2.2.2.2.2.1, c3.1.2.2.2.2.2.2.1, fun i hi => (l2.2.2.2.2.2.2.2.2 i hi).2.2.2, fun e he => ?_, c9.2.2.2⟩
  obtain ⟨E', _, _, r⟩ := c7.2 e he
  exact r.1
/-- the text is gone -/
theorem CA.clear {h : sm_H} {x sg eds ee go ins lf ef pl pls fnd efd : Nat} {ea fa fda lo hi : Nat → Nat} {dk rc ex : Nat} {σ : Sg} {P : Nat → Prop} (C : CA h x sg eds ee go ins lf ef pl pls fnd efd ea fa fda lo hi dk rc ex σ P) : CA (putF h 1 x (.int (nI 0))) x sg eds ee go ins lf ef pl pls fnd efd ea fa fda lo hi dk rc ex (clS σ) P := by
  obtain ⟨c1, c2, c3, c4, c5, c6, c7, c8, c9⟩ := C
  obtain ⟨x0, x1, x2, x3, x4, x5, x6, x7, x8⟩ := c1
  have t9 : hT (putF h 1 x (.int (nI 0))) = hT h ∧ hZ (putF h 1 x (.int (nI 0))) = hZ h := ⟨hT_putF, hZ_putF⟩
  have s : ∀ a, hC h a ≠ 16 → samA h (putF h 1 x (.int (nI 0))) a := fun a ha => samA.putF (fun z => ha (by rw [z]; exact x0))
  have hx : hC (putF h 1 x (.int (nI 0))) x = 16 ∧ hF (putF h 1 x (.int (nI 0))) 1 x = .int (nI 0) ∧ ∀ f, f ≠ 1 → hF (putF h 1 x (.int (nI 0))) f x = hF h f x := ⟨hC_putF.trans x0, hF_putF, fun f hf => hF_putF_f hf⟩
  have hk : ∀ a, hC (putF h 1 x (.int (nI 0))) a = hC h a := fun a => hC_putF
  have s' : ∀ a, a ≠ x → samA h (putF h 1 x (.int (nI 0))) a := fun a ha => samA.putF ha
  generalize putF h 1 x (.int (nI 0)) = h' at *
  have l1 := c7.1
  have l2 := c6.2.2.1
  have l3 := c3.1
  have ht9 : hT h ≤ hT h' := by rw [t9.1]; exact Nat.le_refl _
  have hz9 := s _ (show hC h (hZ h) ≠ 16 by rw [c9.1]; decide)
  have kE : ∀ e, hC h e = 14 ∨ hC h e = 7 → samA h h' e := fun e q => s e (by rcases q with q | q <;> rw [q] <;> decide)
  refine ⟨⟨hx.1, (hx.2.2 _ (by decide)).trans x1, hx.2.1, (hx.2.2 _ (by decide)).trans x3, (hx.2.2 _ (by decide)).trans x4, (hx.2.2 _ (by decide)).trans x5, (hx.2.2 _ (by decide)).trans x6, (hx.2.2 _ (by decide)).trans x7, (hx.2.2 _ (by decide)).trans x8⟩, ⟨(hk _).trans c2.1, (s sg (by rw [c2.1]; decide)).2.1.trans c2.2.1, fun i hi => absurd hi (Nat.not_lt_zero i)⟩, c3.same (s _ (by rw [l3.1]; decide)) (kE _ l3.ke) (fun i hi => ?_) t9.2 ht9, c4.same (s _ (by rw [c4.1]; decide)) (s _ (by rw [c4.2.2.2.1]; decide)), c5.same (s _ (by rw [c5.1.1]; decide)), c6.same (s _ (by rw [c6.1]; decide)) (s _ (by rw [l2.1]; decide)) (kE _ l2.ke) (fun i hi => ?_) t9.2 ht9, c7.same (s _ (by rw [l1.1]; decide)) (kE _ l1.ke) (fun e he a ha => ?_) hz9 t9.2 ht9, c8.same ht9 (hk _) (hk _) (hk _), c9.same hz9 t9.2 ht9⟩
  · have q := s _ (show hC h (fda i) ≠ 16 by rw [c3.k hi]; decide)
    exact ⟨q.1, q.2.2.1 _⟩
  · have f := (c6.2.2.2 i _ (List.getElem?_eq_getElem hi)).1
    exact s _ (by rw [f]; decide)
  · exact s' a (c8.2.2.2.2.2.2.2.1 e he a ha).2.1
theorem ge_ne {a b y : Nat} (h1 : b ≤ a) (hy : y < b) : a ≠ y := by omega
theorem take_cO {h h4 : sm_H} {P : Nat → Prop} {x sg eds ee go ins lf ef pl pls fnd efd : Nat} {fa lo hi : Nat → Nat} {n nf : Nat} (c8 : cO h P x sg eds ee go ins lf ef pl pls fnd efd fa lo hi n nf) (c9 : cZ h P) {b : Nat} (Lo : cLo b P x sg eds ee go ins lf ef pl pls fnd efd fa hi n nf) (hb : b ≤ hT h) (ht : hT h ≤ hT h4) (sz4 : samA h h4 (hZ h)) (sd4 : samA h h4 efd) (hel : hC h ef = 14 → ef = hZ h) (ke2 : hC h ef = 14 ∨ hC h ef = 7) {e' ef4 go4 nf4 : Nat} {fa4 : Nat → Nat} (hgo : hT h ≤ go4 ∧ go4 < hT h4) (w1 : e' = ee ∧ hC h ee = 7 ∨ e' = hT h) (e'ef : e' ≠ ef ∨ ef = hZ h) (e'ed : e' ≠ efd ∨ efd = hZ h) (he4 : ef4 = ef ∨ (hT h ≤ ef4 ∧ e' < ef4)) (hf4 : ∀ i, i < nf4 → hT h ≤ fa4 i) : cO h4 P x sg eds e' go4 ins lf ef4 pl pls fnd efd fa4 (fun i => if i = n then b else lo i) (fun i => if i = n then hT h else hi i) (n + 1) nf4 := by
  obtain ⟨o1, o2, o3, o3d, o4, o5, o6⟩ := Lo
  have bx := o1 x (by simp)
  have bsg := o1 sg (by simp)
  have beds := o1 eds (by simp)
  have bins := o1 ins (by simp)
  have blf := o1 lf (by simp)
  have bpl := o1 pl (by simp)
  have bpls := o1 pls (by simp)
  have bfnd := o1 fnd (by simp)
  have c81 : ∀ a, (a = x ∨ a = sg ∨ a = eds ∨ a = ins ∨ a = lf ∨ a = pl ∨ a = pls ∨ a = fnd) → a < hT h4 ∧ ¬ P a := fun a ha => by
    have w := c8.1 a (by
      rcases ha with z | z | z | z | z | z | z | z <;> rw [z] <;> simp)
    exact ⟨by have := w.1; omega, w.2⟩
  have nPg : ¬ P go4 := fun z => by have := o6 _ z; have := hgo.1; omega
  refine ⟨fun a ha => ?_, c8.2.1, Or.inr ?_, ?_, ?_, ⟨fun q => ⟨?_, ?_⟩, fun q => ?_⟩, fun i hi z => absurd (Nat.lt_of_lt_of_le (o6 _ z) hb) (Nat.not_lt.mpr (hf4 i hi)), fun e he a ha => ?_, fun e1 e2 h1 h2 hne a ha => ?_⟩
  · rcases ha with z | z | z | z | z | z | z | z | z
    · exact c81 a (by rw [z]; simp)
    · exact c81 a (by rw [z]; simp)
    · exact c81 a (by rw [z]; simp)
    · rw [z]; exact ⟨hgo.2, nPg⟩
    · exact c81 a (by rw [z]; simp)
    · exact c81 a (by rw [z]; simp)
    · exact c81 a (by rw [z]; simp)
    · exact c81 a (by rw [z]; simp)
    · exact c81 a (by rw [z]; simp)
  · rcases w1 with ⟨y, y7⟩ | y
    · rw [y]; exact c8.2.2.1.resolve_left (by rw [y7]; decide)
    · exact fun z => by have := o6 _ z; omega
  · rcases he4 with y | y
    · rw [y]
      rcases c8.2.2.2.1 with q | q
      · left
        rw [hel q]; exact sz4.1.trans c9.1
      · exact Or.inr q
    · exact Or.inr (fun z => by have := o6 _ z; omega)
  · exact c8.2.2.2.2.1.imp (fun q => sd4.1.trans q) id
  · rcases he4 with y | y
    · rw [y]
      rcases e'ef with z | z
      · exact z
      · intro w
        rw [w, z, sz4.1, c9.1] at q; cases q
    · omega
  · rcases e'ed with z | z
    · exact z
    · intro w
      rw [w, z, sz4.1, c9.1] at q; cases q
  · rcases he4 with y | y
    · rw [y] at q ⊢
      rcases ke2 with z | z
      · rw [hel z, sz4.1, c9.1] at q; cases q
      · exact c8.2.2.2.2.2.1.2 z
    · have := y.1
      omega
  · dsimp only at ha
    by_cases q : e = n
    · rw [if_pos q, if_pos q] at ha
      have h1 := ha.1
      have h2 := ha.2
      refine ⟨fun z => absurd (o6 _ z) (Nat.not_lt.mpr h1), ge_ne h1 bx, ge_ne h1 bsg, ge_ne h1 beds, ?_, Nat.ne_of_lt (Nat.lt_of_lt_of_le h2 hgo.1), ge_ne h1 bins, ge_ne h1 blf, ?_, ge_ne h1 bpl, ge_ne h1 bpls, ge_ne h1 bfnd, ge_ne h1 o3d, fun i hi => Nat.ne_of_lt (Nat.lt_of_lt_of_le h2 (hf4 i hi))⟩
      · rcases w1 with ⟨y, _⟩ | y
        · rw [y]; exact ge_ne h1 o2
        · rw [y]; exact Nat.ne_of_lt h2
      · rcases he4 with y | y
        · rw [y]; exact ge_ne h1 o3
        · exact Nat.ne_of_lt (Nat.lt_of_lt_of_le h2 y.1)
    · rw [if_neg q, if_neg q] at ha
      have he' : e < n := by omega
      have ha2 : a < hT h := by have hb' := o5 e he'; have := ha.2; omega
      obtain ⟨p0, p1, p2, p3, p4, p5, p9, p10, p11, p12, p13, p14, p15, p16⟩ := c8.2.2.2.2.2.2.2.1 e he' a ha
      refine ⟨p0, p1, p2, p3, ?_, Nat.ne_of_lt (Nat.lt_of_lt_of_le ha2 hgo.1), p9, p10, ?_, p12, p13, p14, p15, fun i hi => Nat.ne_of_lt (Nat.lt_of_lt_of_le ha2 (hf4 i hi))⟩
      · rcases w1 with ⟨y, _⟩ | y
        · rw [y]; exact p4
        · rw [y]; exact Nat.ne_of_lt ha2
      · rcases he4 with y | y
        · rw [y]; exact p11
        · exact Nat.ne_of_lt (Nat.lt_of_lt_of_le ha2 y.1)
  · dsimp only at ha ⊢
    by_cases q1 : e1 = n <;> by_cases q2 : e2 = n
    · omega
    · rw [if_pos q1, if_pos q1] at ha
      rw [if_neg q2, if_neg q2]
      have := ha.1
      have := o5 e2 (by omega)
      exact fun z => by have := z.2; omega
    · rw [if_neg q1, if_neg q1] at ha
      rw [if_pos q2, if_pos q2]
      have := ha.2
      have := o5 e1 (by omega)
      exact fun z => by have := z.1; omega
    · rw [if_neg q1, if_neg q1] at ha
      rw [if_neg q2, if_neg q2]
      exact c8.2.2.2.2.2.2.2.2 e1 e2 (by omega) (by omega) hne a ha
theorem take_fin {h h4 : sm_H} {x sg eds ee go ins lf ef pl pls fnd efd : Nat} {ea fa fda lo hi : Nat → Nat} {dk rc ex : Nat} {σ : Sg} {P : Nat → Prop} (C : CA h x sg eds ee go ins lf ef pl pls fnd efd ea fa fda lo hi dk rc ex σ P) (hlen : sLen σ = 0) {b : Nat} (Lo : cLo b P x sg eds ee go ins lf ef pl pls fnd efd fa hi (sEd σ).length (fltE (cE σ)).length) (hb : b ≤ hT h) {ed lp ep go4 : Nat} {pa : Nat → Nat} {bt : Nat → Nat → Nat} {E : Ed} (ht : hT h ≤ hT h4) (z4 : hZ h4 = hZ h) (sz4 : samA h h4 (hZ h)) (X4 : EdF h4 ed lp ep pa bt E (fun _ => nI 0)) (O4 : EdO h4 (inI b (hT h)) ed lp ep pa E) (hx4 : hC h4 x = 16 ∧ hF h4 3 x = .ref ed ∧ hF h4 4 x = .ref go4 ∧ ∀ f, f ≠ 3 → f ≠ 4 → hF h4 f x = hF h f x) (ssg : samA h h4 sg) (sfn : samA h h4 fnd) (sfd : samA h h4 efd) (sfi : ∀ i, i < (sMv σ).length → samA h h4 (fda i)) (spl : samA h h4 pl) (spls : samA h h4 pls) (hed9 : ∀ e, e < (sEd σ).length → ∀ a, inI (lo e) (hi e) a → samA h h4 a) {e' ef4 : Nat} {fa4 : Nat → Nat} {dk' rc' ex' : Nat} (L4 : Lst h4 eds e' ((sEd σ).length + 1) (fun i => if i = (sEd σ).length then ed else ea i)) (G4 : GoR h4 go4 ed E dk' rc' ex') (hgo : hT h ≤ go4 ∧ go4 < hT h4) (ci4 : cI h4 ins lf ef4 fa4 (fltE E)) (w1 : e' = ee ∧ hC h ee = 7 ∨ e' = hT h) (e'ef : e' ≠ ef ∨ ef = hZ h) (e'ed : e' ≠ efd ∨ efd = hZ h) (he4 : ef4 = ef ∨ (hT h ≤ ef4 ∧ e' < ef4)) (hf4 : ∀ i, i < (fltE E).length → hT h ≤ fa4 i) : CR h4 x (tkS σ E) P := by
  obtain ⟨c1, c2, c3, c4, c5, c6, c7, c8, c9⟩ := C
  obtain ⟨x0, x1, x2, x3, x4, x5, x6, x7, x8⟩ := c1
  have l2 := c6.2.2.1
  have cO4 := take_cO c8 c9 Lo hb ht sz4 sfd (fun q => by
    rcases l2.2.2.2.2.2.2.2.1 with ⟨w, _⟩ | ⟨w, _⟩
    · exact w
    · rw [q] at w; cases w) l2.ke hgo w1 e'ef e'ed he4 hf4
  clear Lo c8 l2 c6 c5 w1 e'ef e'ed he4 hf4
  obtain ⟨n, hn9⟩ : ∃ n, (sEd σ).length = n := ⟨_, rfl⟩
  have eN : (sEd (tkS σ E)).length = (sEd σ).length + 1 := by
    show (sEd σ ++ [E.1]).length = (sEd σ).length + 1
    rw [List.length_append]; rfl
  have eE : sE (tkS σ E) = (sEd σ).length := by unfold sE; rw [eN]; rfl
  have gx := hx4.2.2.2
  refine ⟨sg, eds, e', go4, ins, lf, ef4, pl, pls, fnd, efd, (fun i => if i = (sEd σ).length then ed else ea i), fa4, fda, (fun i => if i = (sEd σ).length then b else lo i), (fun i => if i = (sEd σ).length then hT h else hi i), dk', rc', ex', ⟨hx4.1, (gx _ (by decide) (by decide)).trans x1, ?_, (gx _ (by decide) (by decide)).trans x3, ?_, hx4.2.2.1, (gx _ (by decide) (by decide)).trans x6, (gx _ (by decide) (by decide)).trans x7, (gx _ (by decide) (by decide)).trans x8⟩, ⟨ssg.1.trans c2.1, ssg.2.1.trans c2.2.1, fun i hi => absurd hi (Nat.not_lt_zero i)⟩, c3.same sfn sfd (fun i hi => ⟨(sfi i hi).1, (sfi i hi).2.2.1 _⟩) z4 ht, c4.same spl spls, ?_, by rw [tkS_cur]; exact ci4, ⟨by rw [eN]; exact L4, fun e he => ?_⟩, by rw [eN, tkS_cur]; exact cO4, c9.same sz4 z4 ht⟩
  · show hF h4 1 x = .int (nI 0)
    rw [gx 1 (by decide) (by decide), x2, hlen]
  · rw [eE]
    show hF h4 3 x = .ref (if (sEd σ).length = (sEd σ).length then ed else ea (sEd σ).length)
    rw [if_pos rfl]
    exact hx4.2.1
  · rw [eE, tkS_cur]
    show GoR h4 go4 (if (sEd σ).length = (sEd σ).length then ed else ea (sEd σ).length) E dk' rc' ex'
    rw [if_pos rfl]
    exact G4
  · rw [eN] at he
    rw [eE]
    dsimp only
    by_cases q : e = (sEd σ).length
    · rw [if_pos q, if_pos q, if_pos q]
      refine ⟨E, ?_, fun _ => tkS_cur.symm, ht, lp, ep, pa, bt, ?_, O4⟩
      · show E.1 = (sEd σ ++ [E.1]).getD e []
        rw [q, List.getD_eq_getElem?_getD, List.getElem?_append_right (Nat.le_refl _), Nat.sub_self]; rfl
      · have eu : sUn (tkS σ E) e = fun _ => nI 0 := by
          funext k
          show (if e = (sEd σ).length then nI 0 else sUn σ e k) = nI 0
          rw [if_pos q]
        rw [eu]; exact X4
    · rw [if_neg q, if_neg q, if_neg q]
      have he' : e < (sEd σ).length := by omega
      obtain ⟨E', y1, y2, r⟩ := c7.2 e he'
      refine ⟨E', ?_, fun z => absurd z q, ?_⟩
      · rw [y1]
        show (sEd σ).getD e [] = (sEd σ ++ [E.1]).getD e []
        rw [List.getD_eq_getElem?_getD, List.getD_eq_getElem?_getD, List.getElem?_append_left he']
      · have eu : sUn (tkS σ E) e = sUn σ e := by
          funext k
          show (if e = (sEd σ).length then nI 0 else sUn σ e k) = sUn σ e k
          rw [if_neg q]
        rw [eu]
        exact r.same (hed9 e he') sz4 z4 ht
/-- a going is made -/
theorem c_27 {h : sm_H} {Q : Nat → Option Value → sm_H → Prop} {ed : Nat} (K : ∀ h', hT h' = hT h + 1 → hU h' = hU h + 4 → hZ h' = hZ h → (∀ a, a < hT h → samA h h' a) → (hC h' (hT h) = 19 ∧ hF h' 384 (hT h) = .ref ed ∧ hF h' 385 (hT h) = .long (lN 0) ∧ hF h' 386 (hT h) = .long (lN 0) ∧ hF h' 387 (hT h) = .long (lN 0)) → Q 0 none h') : sm_wp 27 0 [.ref (hT h), .ref ed] [] (newO h 3 4 (fun g => defaultValue (xty 3 (g - 128 * 3)))) Q := by
  obtain ⟨a1, a2, a3, a4, a5, a6⟩ := @newO_t h 3 4 (fun g => defaultValue (xty 3 (g - 128 * 3)))
  generalize newO h 3 4 (fun g => defaultValue (xty 3 (g - 128 * 3))) = g0 at *
  refine wp_pure k_27 rfl rfl ?_
  refine wp_obj k_27 rfl (Nat.le_of_ble_eq_true rfl) ?_
  refine wp_pure k_27 rfl rfl ?_
  refine wp_pure k_27 rfl rfl ?_
  refine wp_put k_27 rfl a4 rfl rfl ?_
  exact wp_vrt k_27 rfl rfl (K _ (hT_putF.trans a1) (hU_putF.trans a2) (hZ_putF.trans a3) (fun a ha => (a6 a (Nat.ne_of_lt ha)).trans (samA.putF (Nat.ne_of_lt ha))) ⟨hC_putF.trans a4, hF_putF, (hF_putF_f (by decide)).trans ((a5 _).trans rfl), (hF_putF_f (by decide)).trans ((a5 _).trans rfl), (hF_putF_f (by decide)).trans ((a5 _).trans rfl)⟩)
theorem c_take {h : sm_H} {Q : Nat → Option Value → sm_H → Prop} {x sg eds ee go ins lf ef pl pls fnd efd : Nat} {ea fa fda lo hi : Nat → Nat} {dk rc ex : Nat} {σ : Sg} {P : Nat → Prop} (C : CA h x sg eds ee go ins lf ef pl pls fnd efd ea fa fda lo hi dk rc ex σ P) (S : SI σ) (hlen : sLen σ = 0) {b : Nat} (Lo : cLo b P x sg eds ee go ins lf ef pl pls fnd efd fa hi (sEd σ).length (fltE (cE σ)).length) (hb : b ≤ hT h) {ed lp ep : Nat} {pa : Nat → Nat} {bt : Nat → Nat → Nat} {E : Ed} (X : EdF h ed lp ep pa bt E (fun _ => nI 0)) (O : EdO h (inI b (hT h)) ed lp ep pa E) (hWd : EdW E) (hn : E.1.length ≤ 60) (K : ∀ h', CR h' x (tkS σ E) P → (∀ a, P a → samA h h' a) → hT h ≤ hT h' → hT h' ≤ hT h + 362 → hU h ≤ hU h' → hU h' ≤ hU h + 75100 → hZ h' = hZ h → (∀ a, inI b (hT h) a → samA h h' a) → Q 0 none h') : sm_wp 7 0 [.ref x, .ref ed] [] h Q := by
  obtain ⟨c1, c2, c3, c4, c5, c6, c7, c8, c9⟩ := id C
  obtain ⟨x0, x1, x2, x3, x4, x5, x6, x7, x8⟩ := c1
  obtain ⟨o1, o2, o3, o3d, o4, o5, o6⟩ := id Lo
  have hS := S.2.2.2.1
  have hS8 := S.2.2.2.2.1
  have l1 := c7.1
  have l2 := c6.2.2.1
  have l3 := c3.1
  have bx := o1 x (by simp)
  have bsg := o1 sg (by simp)
  have beds := o1 eds (by simp)
  have bins := o1 ins (by simp)
  have blf := o1 lf (by simp)
  have bpl := o1 pl (by simp)
  have bpls := o1 pls (by simp)
  have bfnd := o1 fnd (by simp)
  have bz := o6 _ c9.2.2.1
  have hed : ed < hT h := O.1.1.2
  have hedb : b ≤ ed := O.1.1.1
  -- the list of editions grows
  refine wp_pure k_7 rfl rfl ?_
  refine wp_get k_7 rfl x0 x3 ?_
  refine wp_pure k_7 rfl rfl ?_
  refine wp_iv k_7 rfl [.ref ed] rfl l1.1 (r := []) (Nat.le_of_ble_eq_true rfl) (Nat.le_of_ble_eq_true rfl) rfl ?_
  refine c_add l1 (by omega) (by rw [X.1.1]; decide) (by rw [X.1.1]; decide) hed (fun h1 e' L1 w1 f1 => ⟨rfl, ?_⟩)
  have t1 := f1.1
  have t1' := f1.2.1
  have u1 := f1.2.2.1
  have u1' := f1.2.2.2.1
  have z1 := f1.2.2.2.2.1
  have s1 : ∀ a, a < hT h → a ≠ eds → (a ≠ ee ∨ hC h ee = 14) → samA h h1 a := fun a ha h1 h2 => f1.2.2.2.2.2 a ha (fun q => q.elim h1 (fun q => h2.elim (fun z => z q.1) (fun z => by rw [q.2] at z; cases z)))
  have sx1 := s1 x (by omega) (kne x0 l1.1 (by decide)) (Or.inl (Ne.symm (kne2 l1.ke x0 (by decide) (by decide))))
  refine wp_pure k_7 rfl rfl ?_
  refine wp_pure k_7 rfl rfl ?_
  refine wp_pure k_7 rfl rfl ?_
  refine wp_put k_7 rfl (sx1.1.trans x0) rfl rfl ?_
  -- it is the latest
  have hx2 : hC (putF h1 3 x (.ref ed)) x = 16 ∧ hF (putF h1 3 x (.ref ed)) 3 x = .ref ed ∧ ∀ f, f ≠ 3 → hF (putF h1 3 x (.ref ed)) f x = hF h f x := ⟨hC_putF.trans (sx1.1.trans x0), hF_putF, fun f hf => (hF_putF_f hf).trans (sx1.2.2.1 f)⟩
  have t2 : hT (putF h1 3 x (.ref ed)) = hT h1 ∧ hU (putF h1 3 x (.ref ed)) = hU h1 ∧ hZ (putF h1 3 x (.ref ed)) = hZ h1 := ⟨hT_putF, hU_putF, hZ_putF⟩
  have s12 : ∀ a, a ≠ x → samA h1 (putF h1 3 x (.ref ed)) a := fun a ha => samA.putF ha
  generalize putF h1 3 x (.ref ed) = h2 at *
  -- a new going
  refine wp_pure k_7 rfl rfl ?_
  refine wp_new k_7 rfl rfl ?_
  show sm_wp 7 18 [.ref x, .ref ed] [.ref (hT h2), .ref x] _ Q
  refine wp_pure k_7 rfl rfl ?_
  refine wp_pure k_7 rfl rfl ?_
  refine wp_ic k_7 rfl (by decide) [.ref ed] rfl (r := [.ref (hT h2), .ref x]) (Nat.le_of_ble_eq_true rfl) (Nat.le_of_ble_eq_true rfl) rfl ?_
  refine c_27 (fun hb2 tb ub zb sb gb => ⟨rfl, ?_⟩)
  obtain ⟨go4, hgo4⟩ : ∃ g, hT h2 = g := ⟨_, rfl⟩
  rw [hgo4] at tb sb gb ⊢
  have sxb := sb x (by omega)
  refine wp_put k_7 rfl (sxb.1.trans hx2.1) rfl rfl ?_
  have xg : x ≠ go4 := by omega
  have hx3 : hC (putF hb2 4 x (.ref go4)) x = 16 ∧ hF (putF hb2 4 x (.ref go4)) 3 x = .ref ed ∧ hF (putF hb2 4 x (.ref go4)) 4 x = .ref go4 ∧ ∀ f, f ≠ 3 → f ≠ 4 → hF (putF hb2 4 x (.ref go4)) f x = hF h f x := ⟨hC_putF.trans (sxb.1.trans hx2.1), (hF_putF_f (by decide)).trans ((sxb.2.2.1 _).trans hx2.2.1), hF_putF, fun f hf hg => (hF_putF_f hg).trans ((sxb.2.2.1 _).trans (hx2.2.2 f hf))⟩
  have t3 : hT (putF hb2 4 x (.ref go4)) = hT hb2 ∧ hU (putF hb2 4 x (.ref go4)) = hU hb2 ∧ hZ (putF hb2 4 x (.ref go4)) = hZ hb2 := ⟨hT_putF, hU_putF, hZ_putF⟩
  have s3 : ∀ a, a ≠ x → samA hb2 (putF hb2 4 x (.ref go4)) a := fun a ha => samA.putF ha
  generalize putF hb2 4 x (.ref go4) = h3 at *
  have z3 : hZ h3 = hZ h := by rw [t3.2.2, zb, t2.2.2, z1]
  have s13 : ∀ a, a < hT h1 → a ≠ x → samA h1 h3 a := fun a ha q => ((s12 a q).trans (sb a (by omega))).trans (s3 a q)
  have sg3 := s3 go4 (Ne.symm xg)
  have sz1 : samA h h1 (hZ h) := s1 _ (by omega) (kne c9.1 l1.1 (by decide)) (by
    by_cases q : hZ h = ee
    · right; rw [← q]; exact c9.1
    · exact Or.inl q)
  have m1 : ∀ a, inI b (hT h) a → samA h h1 a := fun a ha => s1 a ha.2 (by have := ha.1; omega) (Or.inl (by have := ha.1; omega))
  have m3 : ∀ a, inI b (hT h) a → samA h h3 a := fun a ha => (m1 a ha).trans (s13 a (by have := ha.2; omega) (by have := ha.1; omega))
  have sz3 : samA h h3 (hZ h) := sz1.trans (s13 _ (by omega) (kne c9.1 x0 (by decide)))
  obtain ⟨X3, O3⟩ := EdFO.same X O m3 sz3 z3 (by omega)
  refine wp_pure k_7 rfl rfl ?_
  refine wp_get k_7 rfl hx3.1 hx3.2.2.1 ?_
  refine wp_iv k_7 rfl [] rfl (sg3.1.trans gb.1) (r := []) (Nat.le_of_ble_eq_true rfl) (Nat.le_of_ble_eq_true rfl) rfl ?_
  refine c_learn X3 hWd hn (sg3.1.trans gb.1) ((sg3.2.2.1 _).trans gb.2.1) ((sg3.2.2.1 _).trans gb.2.2.1) (fun h4 dk' rc' ex' G t4 u4 z4 s34 => ⟨rfl, ?_⟩)
  have z4' : hZ h4 = hZ h := z4.trans z3
  have s14 : ∀ a, a < hT h1 → a ≠ x → samA h1 h4 a := fun a ha q => (s13 a ha q).trans (s34 a (by omega))
  have s4 : ∀ a, a < hT h → a ≠ eds → (a ≠ ee ∨ hC h ee = 14) → a ≠ x → samA h h4 a := fun a ha q1 q2 q3 => (s1 a ha q1 q2).trans (s14 a (by omega) q3)
  have k4 : ∀ a k, a < hT h → hC h a = k → k ≠ 26 → k ≠ 7 → k ≠ 14 → k ≠ 16 → samA h h4 a := fun a k ha hk q1 q2 q3 q4 => s4 a ha (kne hk l1.1 q1) (Or.inl (Ne.symm (kne2 l1.ke hk q3 q2))) (kne hk x0 q4)
  have m4 : ∀ a, inI b (hT h) a → samA h h4 a := fun a ha => (m1 a ha).trans (s14 a (by have := ha.2; omega) (by have := ha.1; omega))
  have sz4 : samA h h4 (hZ h) := sz1.trans (s14 _ (by omega) (kne c9.1 x0 (by decide)))
  obtain ⟨X4, O4⟩ := EdFO.same X O m4 sz4 z4' (by omega)
  have sx4 := s34 x xg
  have hx4 : hC h4 x = 16 ∧ hF h4 3 x = .ref ed ∧ hF h4 4 x = .ref go4 ∧ ∀ f, f ≠ 3 → f ≠ 4 → hF h4 f x = hF h f x := ⟨sx4.1.trans hx3.1, (sx4.2.2.1 _).trans hx3.2.1, (sx4.2.2.1 _).trans hx3.2.2.1, fun f hf hg => (sx4.2.2.1 _).trans (hx3.2.2.2 f hf hg)⟩
  have sins := k4 ins 20 (by omega) c6.1 (by decide) (by decide) (by decide) (by decide)
  have slf : samA h h4 lf := s4 lf (by omega) (Ne.symm c8.2.1.2.1) (Or.inl (Ne.symm (kne2 l1.ke l2.1 (by decide) (by decide)))) (kne l2.1 x0 (by decide))
  have sfn4 : samA h h4 fnd := s4 fnd (by omega) (Ne.symm c8.2.1.2.2.1) (Or.inl (Ne.symm (kne2 l1.ke l3.1 (by decide) (by decide)))) (kne l3.1 x0 (by decide))
  have see : ∀ y, y < hT h → (hC h y = 14 ∧ y = hZ h ∨ hC h y = 7) → (hC h ee = 7 → ee ≠ y) → samA h h4 y := fun y hy q hne => by
    rcases q with ⟨_, q⟩ | q
    · rw [q]; exact sz4
    · refine s4 y hy (kne q l1.1 (by decide)) ?_ (kne q x0 (by decide))
      rcases l1.ke with w | w
      · exact Or.inr w
      · exact Or.inl (Ne.symm (hne w))
  have kef : hC h ef = 14 ∧ ef = hZ h ∨ hC h ef = 7 := by
    rcases l2.2.2.2.2.2.2.2.1 with ⟨y, y2, _⟩ | ⟨y, _⟩
    · exact Or.inl ⟨y2, y⟩
    · exact Or.inr y
  have ked : hC h efd = 14 ∧ efd = hZ h ∨ hC h efd = 7 := by
    rcases l3.2.2.2.2.2.2.2.1 with ⟨y, y2, _⟩ | ⟨y, _⟩
    · exact Or.inl ⟨y2, y⟩
    · exact Or.inr y
  have sef : samA h h4 ef := see ef (by omega) kef (fun q => (c8.2.2.2.2.2.1.1 q).1)
  have sfd4 : samA h h4 efd := see efd (by omega) ked (fun q => (c8.2.2.2.2.2.1.1 q).2)
  have ci4 := c6.same sins slf sef (fun i hi => by
    have f := (c6.2.2.2 i _ (List.getElem?_eq_getElem hi)).1
    exact k4 _ 18 (by have := o4 i hi; omega) f (by decide) (by decide) (by decide) (by decide)) z4' (by omega)
  refine wp_pure k_7 rfl rfl ?_
  refine wp_get k_7 rfl hx4.1 ((hx4.2.2.2 _ (by decide) (by decide)).trans x6) ?_
  refine wp_pure k_7 rfl rfl ?_
  refine wp_pure k_7 rfl rfl ?_
  refine wp_get k_7 rfl hx4.1 hx4.2.2.1 ?_
  refine wp_iv k_7 rfl [.ref ed, .ref go4] rfl ci4.1 (r := []) (Nat.le_of_ble_eq_true rfl) (Nat.le_of_ble_eq_true rfl) rfl ?_
  refine c_inspect ci4 (by rw [z4']; exact sz4.1.trans c9.1) (by rw [z4']; omega) (by omega) X4 O4 hWd hn (by omega) (fun a ha => by have := ha.1; exact ⟨by omega, by omega⟩) G (by omega) (fun h5 w5 => ⟨rfl, ?_⟩)
  refine wp_vrt k_7 rfl rfl ?_
  obtain ⟨ef5, fa5, ci5, f5, he5, hf5⟩ := w5
  have z5 : hZ h5 = hZ h := f5.2.2.2.2.1.trans z4'
  have t5 := f5.1
  have t5' := f5.2.1
  have u5 := f5.2.2.1
  have u5' := f5.2.2.2.1
  have s45 : ∀ a, a < hT h4 → a ≠ lf → (a ≠ ef ∨ ef = hZ h4) → samA h4 h5 a := fun a ha q1 q2 => f5.2.2.2.2.2 a ha (fun q => q.elim q1 (fun q => q2.elim (fun z => z q.1) (fun z => q.2 z)))
  have ke2 := l2.ke
  have k45 : ∀ a k, a < hT h4 → hC h4 a = k → k ≠ 26 → k ≠ 7 → k ≠ 14 → samA h4 h5 a := fun a k ha hk q1 q2 q3 => s45 a ha (kne hk (slf.1.trans l2.1) q1) (Or.inl (Ne.symm (kne2 (by rw [sef.1]; exact ke2) hk q3 q2)))
  have k5 : ∀ a k, a < hT h → hC h a = k → k ≠ 26 → k ≠ 7 → k ≠ 14 → k ≠ 16 → samA h h5 a := fun a k ha hk q1 q2 q3 q4 => by
    have y := k4 a k ha hk q1 q2 q3 q4
    exact y.trans (k45 a k (by omega) (y.1.trans hk) q1 q2 q3)
  have hlfz : hZ h ≠ lf := kne c9.1 l2.1 (by decide)
  have sz5 : samA h h5 (hZ h) := sz4.trans (s45 _ (by omega) hlfz (by
    by_cases q : hZ h = ef
    · right; rw [z4']; exact q.symm
    · exact Or.inl q))
  have m5 : ∀ a, inI b (hT h) a → samA h h5 a := fun a ha => (m4 a ha).trans (by have := ha.1; have := ha.2; exact s45 a (by omega) (by omega) (Or.inl (by omega)))
  have sx5 := k45 x 16 (by omega) hx4.1 (by decide) (by decide) (by decide)
  have hx5 : hC h5 x = 16 ∧ hF h5 3 x = .ref ed ∧ hF h5 4 x = .ref go4 ∧ ∀ f, f ≠ 3 → f ≠ 4 → hF h5 f x = hF h f x := ⟨sx5.1.trans hx4.1, (sx5.2.2.1 _).trans hx4.2.1, (sx5.2.2.1 _).trans hx4.2.2.1, fun f hf hg => (sx5.2.2.1 _).trans (hx4.2.2.2 f hf hg)⟩
  have sfn5 : samA h h5 fnd := sfn4.trans (s45 fnd (by omega) (Ne.symm c8.2.1.2.2.2) (Or.inl (Ne.symm (kne2 ke2 l3.1 (by decide) (by decide)))))
  have sfd5 : samA h h5 efd := by
    rcases ked with ⟨_, q⟩ | q
    · rw [q]; exact sz5
    · refine sfd4.trans (s45 efd (by omega) (kne q l2.1 (by decide)) ?_)
      rcases kef with ⟨_, w⟩ | w
      · right; rw [z4']; exact w
      · exact Or.inl (Ne.symm (c8.2.2.2.2.2.1.2 w))
  have hP5 : ∀ a, P a → samA h h5 a := fun a ha => by
    have hb' := o6 a ha
    have q12 : ∀ y, (y = x ∨ y = sg ∨ y = eds ∨ y = go ∨ y = ins ∨ y = lf ∨ y = pl ∨ y = pls ∨ y = fnd) → a ≠ y := fun y hy z => (c8.1 y hy).2 (by rw [← z]; exact ha)
    have q3 : a ≠ ee ∨ hC h ee = 14 := by
      rcases c8.2.2.1 with q | q
      · exact Or.inr q
      · exact Or.inl (fun z => q (by rw [← z]; exact ha))
    have q4 : a ≠ ef ∨ ef = hZ h4 := by
      rcases c8.2.2.2.1 with q | q
      · refine Or.inr ?_
        rcases kef with ⟨_, y⟩ | y
        · rw [z4']; exact y
        · rw [q] at y; cases y
      · exact Or.inl (fun z => q (by rw [← z]; exact ha))
    exact (s4 a (by omega) (q12 _ (by simp)) q3 (q12 _ (by simp))).trans (s45 a (by omega) (q12 _ (by simp)) q4)
  have hed9 : ∀ e, e < (sEd σ).length → ∀ a, inI (lo e) (hi e) a → samA h h5 a := fun e he a ha => by
    have ha1 : a < hT h := by have hb' := o5 e he; have := ha.2; omega
    have ha4 : a < hT h4 := by omega
    obtain ⟨p0, p1, p2, p3, p4, p5, p9, p10, p11, p12, p13, p14, p15, p16⟩ := c8.2.2.2.2.2.2.2.1 e he a ha
    exact (s4 a ha1 p3 (Or.inl p4) p1).trans (s45 a ha4 p10 (Or.inl p11))
  have eds5 : samA h1 h5 eds := (s14 eds (by omega) (kne l1.1 x0 (by decide))).trans (s45 eds (by omega) c8.2.1.2.1 (Or.inl (Ne.symm (kne2 ke2 l1.1 (by decide) (by decide)))))
  have e'y : ∀ y, y < b → (hC h y = 14 ∧ y = hZ h ∨ hC h y = 7) → (hC h ee = 7 → ee ≠ y) → e' ≠ y ∨ y = hZ h := fun y hy q hne => by
    rcases q with ⟨_, q⟩ | q
    · exact Or.inr q
    · rcases w1 with ⟨w, w7⟩ | w
      · exact Or.inl (by rw [w]; exact hne w7)
      · exact Or.inl (by omega)
  have e'ef : e' ≠ ef ∨ ef = hZ h := e'y ef o3 kef (fun q => (c8.2.2.2.2.2.1.1 q).1)
  have e'ed : e' ≠ efd ∨ efd = hZ h := e'y efd o3d ked (fun q => (c8.2.2.2.2.2.1.1 q).2)
  have e1lt := L1.2.2.2.2.2.2.1
  have e'5 : samA h1 h5 e' := by
    have hneq : ∀ y, y < hT h → hC h y ≠ 7 → e' ≠ y := fun y hy hk z => by
      rcases w1 with ⟨q, q7⟩ | q
      · rw [q] at z; rw [z] at q7; exact hk q7
      · omega
    exact (s14 e' e1lt (hneq x (by omega) (by rw [x0]; decide))).trans (s45 e' (by omega) (hneq lf (by omega) (by rw [l2.1]; decide)) (e'ef.imp id (fun z => z.trans z4'.symm)))
  have ka : ∀ e, e < (sEd σ).length → hC h (ea e) = 17 := fun e he => by
    obtain ⟨E', _, _, r⟩ := c7.2 e (by omega)
    obtain ⟨_, lp', ep', pa', bt', X', _⟩ := r
    exact X'.1.1
  have la : ∀ e, e < (sEd σ).length → ea e < hT h := fun e he => (l1.2.2.2.2.2.2.2.2 e (by omega)).2.2.2
  have L5 : Lst h5 eds e' ((sEd σ).length + 1) (fun i => if i = (sEd σ).length then ed else ea i) := L1.same eds5 e'5 (fun i hi => by
    by_cases q : i = (sEd σ).length
    · rw [if_pos q]
      exact (m5 ed O.1.1).1.trans (m1 ed O.1.1).1.symm
    · rw [if_neg q]
      have hk := ka i (by omega)
      have hl := la i (by omega)
      exact (k5 _ 17 hl hk (by decide) (by decide) (by decide) (by decide)).1.trans (s1 _ hl (kne hk l1.1 (by decide)) (Or.inl (Ne.symm (kne2 l1.ke hk (by decide) (by decide))))).1.symm) (z5.trans z1.symm) (by omega)
  obtain ⟨X5, O5⟩ := EdFO.same X O m5 sz5 z5 (by omega)
  have G5 := G.same (k45 _ 19 (by omega) G.1.1 (by decide) (by decide) (by decide))
  exact K h5 (take_fin C hlen Lo hb (by omega) z5 sz5 X5 O5 hx5 (k5 sg 3 (by omega) c2.1 (by decide) (by decide) (by decide) (by decide)) sfn5 sfd5 (fun i hi => k5 _ 22 (l3.2.2.2.2.2.2.2.2 i hi).2.2.2 (c3.k hi) (by decide) (by decide) (by decide) (by decide)) (k5 _ 23 (by omega) c4.1 (by decide) (by decide) (by decide) (by decide)) (k5 _ 3 (by omega) c4.2.2.2.1 (by decide) (by decide) (by decide) (by decide)) hed9 L5 G5 ⟨by omega, by omega⟩ ci5 w1 e'ef e'ed (he5.imp id (fun z => ⟨by omega, by omega⟩)) (fun i hi => by have := hf5 i hi; omega)) hP5 (by omega) (by omega) (by omega) (by omega) z5 m5
