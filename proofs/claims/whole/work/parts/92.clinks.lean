/-! AN EDITION's LINKS GROW in the heap -/
theorem EdF.lnkW {h h' : sm_H} {D D' : Nat → Prop} {ed lp lw lv ls ep ew ev es : Nat} {pa wa va sa : Nat → Nat} {E E' : Ed} {un : Nat → Int32} (X : EdF h ed lp lw lv ls ep ew ev es pa wa va sa E un) (O : EdO h D ed lp lw lv ls ep ew ev es pa wa va sa E) {p e' : Nat} {x : Nat × Nat × Bool} (e0 : E'.1.length = E.1.length) (e1 : E'.2.1 = E.2.1 ++ [x]) (e2 : E'.2.2 = E.2.2) (e3 : sts E'.1 = sts E.1) (L : Lst h' lw e' (E.2.1.length + 1) (fun i => if i = E.2.1.length then p else wa i)) (hs : ∀ a, D a → a ≠ lw → (a ≠ ew ∨ hC h ew = 14) → (∀ k, k < E.1.length → a ≠ pa k) → samA h h' a) (sz : samA h h' (hZ h)) (hz : hZ h' = hZ h) (ht : hT h ≤ hT h') (hk : hC h' e' = 14 ∨ D' e') (he : e' = ew ∨ (¬ D e' ∧ hC h' e' = 7)) (hDD : ∀ a, D a → D' a) (hp : D' p) (hP' : ∀ k, k < E.1.length → PlR h' (pa k) E' k (un k)) (hf : LkR h' p x.1 x.2.1 x.2.2) : EdF h' ed lp lw lv ls ep e' ev es pa (fun i => if i = E.2.1.length then p else wa i) va sa E' un ∧ EdO h' D' ed lp lw lv ls ep e' ev es pa (fun i => if i = E.2.1.length then p else wa i) va sa E' := by
  obtain ⟨⟨e0', e1', e2', e3', e4'⟩, ⟨l1, l2, l3, l4⟩, hP, hW, hV, hS⟩ := X
  obtain ⟨⟨o0, o1, o2, o3, o4⟩, p1, p2, p3, p4, q1, q2, q3, q4, ⟨d1, d2, d3, d4, d5, d6⟩, g2, g3, g4, g5, g6⟩ := O
  have keg := l2.ke
  have nk : ∀ a c, hC h a = c → c ≠ 22 → ∀ k, k < E.1.length → a ≠ pa k := fun a c hc h1 k hk z => h1 (by rw [← hc, z, (hP k hk).1])
  have sk : ∀ a c, D a → hC h a = c → c ≠ 26 → c ≠ 7 → c ≠ 14 → c ≠ 22 → samA h h' a := fun a c ha hc h1 h2 h3 h4 => hs a ha (kne hc l2.1 h1) (Or.inl (Ne.symm (kne2 keg hc h3 h2))) (nk a c hc h4)
  have sL : ∀ {a e n f}, D a → a ≠ lw → (hC h e = 14 ∨ D e) → (hC h e = 7 → e ≠ ew) → (∀ i, i < n → hC h' (f i) = hC h (f i)) → Lst h a e n f → Lst h' a e n f ∧ hC h' e = hC h e := by
    intro a e n f ha hal hel hee hff l
    have s2 : samA h h' e := by
      rcases l.2.2.2.2.2.2.2.1 with ⟨y1, y2, _⟩ | ⟨y1, _⟩
      · rw [y1]; exact sz
      · exact hs e (hel.resolve_left (by rw [y1]; decide)) (fun z => by rw [z, l2.1] at y1; cases y1) (Or.inl (hee y1)) (nk e 7 y1 (by decide))
    exact ⟨l.same (hs a ha hal (Or.inl (Ne.symm (kne2 keg l.1 (by decide) (by decide)))) (nk a 26 l.1 (by decide))) s2 hff hz ht, s2.1⟩
  have lkk : ∀ {q a b t}, D q → LkR h q a b t → samA h h' q := fun hq y => sk _ 21 hq y.1 (by decide) (by decide) (by decide) (by decide)
  obtain ⟨m1, k1⟩ := sL o1 d1 p1 (fun z => (g3 z).1) (fun i hi => (hP' i hi).1.trans (hP i hi).1.symm) l1
  obtain ⟨m3, k3⟩ := sL o3 (Ne.symm d4) p3 (fun z => (g5 z).2.1) (fun i hi => (lkk (q3 i hi) (hV i hi)).1) l3
  obtain ⟨m4, k4⟩ := sL o4 (Ne.symm d5) p4 (fun z => (g6 z).2.1) (fun i hi => (lkk (q4 i hi) (hS i hi)).1) l4
  have se := sk ed 17 o0 e0' (by decide) (by decide) (by decide) (by decide)
  have hnew : ∀ b, (hC h b = 14 ∨ D b) → hC h' b = hC h b → hC h' e' = 7 → e' ≠ b ∨ e' = ew := by
    intro b hb hbk h7
    rcases he with he | ⟨he, _⟩
    · exact Or.inr he
    · refine Or.inl (fun z => ?_)
      rcases hb with hb | hb
      · rw [z, hbk, hb] at h7; cases h7
      · exact he (by rw [z]; exact hb)
  have n1 : E'.2.1.length = E.2.1.length + 1 := by rw [e1]; rw [List.length_append]; rfl
  have n2 : E'.2.2.length = E.2.2.length := by rw [e2]
  have n3 : (sts E'.1).length = (sts E.1).length := by rw [e3]
  refine ⟨⟨⟨se.1.trans e0', (se.2.2.1 _).trans e1', (se.2.2.1 _).trans e2', (se.2.2.1 _).trans e3', (se.2.2.1 _).trans e4'⟩, ⟨by rw [e0]; exact m1, by rw [n1]; exact L, by rw [n2]; exact m3, by rw [n3]; exact m4⟩, fun k hk => hP' k (by rw [e0] at hk; exact hk), ?_, (fun i hi => by rw [e2] at hi ⊢; exact (hV i hi).same (lkk (q3 i hi) (hV i hi))), (fun i hi => by rw [e3] at hi ⊢; exact (hS i hi).same (lkk (q4 i hi) (hS i hi)))⟩, ⟨hDD _ o0, hDD _ o1, hDD _ o2, hDD _ o3, hDD _ o4⟩, by rw [k1]; exact p1.imp id (hDD _), hk, by rw [k3]; exact p3.imp id (hDD _), by rw [k4]; exact p4.imp id (hDD _), fun i hi => hDD _ (q1 i (by rw [e0] at hi; exact hi)), ?_, fun i hi => hDD _ (q3 i (by rw [n2] at hi; exact hi)), fun i hi => hDD _ (q4 i (by rw [n3] at hi; exact hi)), ⟨d1, d2, d3, d4, d5, d6⟩, fun i j hi hj z => g2 i j (by rw [e0] at hi; exact hi) (by rw [e0] at hj; exact hj) z, ?_, ?_, ?_, ?_⟩
  · intro i hi
    rw [n1] at hi
    dsimp only
    by_cases q : i = E.2.1.length
    · subst q
      rw [if_pos rfl, e1]
      obtain ⟨z1, z2, z3⟩ := @wA_new E.2.1 x
      rw [z1, z2, z3]; exact hf
    · rw [if_neg q, e1]
      have hi' : i < E.2.1.length := by omega
      obtain ⟨z1, z2, z3⟩ := wA_old (w := x) hi'
      rw [z1, z2, z3]; exact (hW i hi').same (lkk (q2 i hi') (hW i hi'))
  · intro i hi
    rw [n1] at hi
    dsimp only
    by_cases q : i = E.2.1.length
    · rw [if_pos q]; exact hp
    · rw [if_neg q]; exact hDD _ (q2 i (by omega))
  · intro h7
    rw [k1] at h7
    have y := g3 h7
    have y' : ep ≠ e' := by
      rcases he with he | ⟨he, _⟩
      · rw [he]; exact y.1
      · exact fun z => he (by rw [← z]; exact p1.resolve_left (by rw [h7]; decide))
    exact ⟨y', y.2.1, y.2.2⟩
  · intro h7
    have a0 := hnew ep p1 k1 h7
    have a2 := hnew ev p3 k3 h7
    have a3 := hnew es p4 k4 h7
    have b0 : e' = ew → ew ≠ ep ∧ ew ≠ ev ∧ ew ≠ es := fun z => g4 (by
      rcases keg with k | k
      · exfalso
        have zz : ew = hZ h := by
          rcases l2.2.2.2.2.2.2.2.1 with ⟨w, _⟩ | ⟨w, _⟩
          · exact w
          · rw [k] at w; cases w
        rw [z, zz, sz.1, ← zz, k] at h7; cases h7
      · exact k)
    exact ⟨a0.elim id (fun z => by rw [z]; exact (b0 z).1), a2.elim id (fun z => by rw [z]; exact (b0 z).2.1), a3.elim id (fun z => by rw [z]; exact (b0 z).2.2)⟩
  · intro h7
    rw [k3] at h7
    have y := g5 h7
    have y' : ev ≠ e' := by
      rcases he with he | ⟨he, _⟩
      · rw [he]; exact y.2.1
      · exact fun z => he (by rw [← z]; exact p3.resolve_left (by rw [h7]; decide))
    exact ⟨y.1, y', y.2.2⟩
  · intro h7
    rw [k4] at h7
    have y := g6 h7
    have y' : es ≠ e' := by
      rcases he with he | ⟨he, _⟩
      · rw [he]; exact y.2.1
      · exact fun z => he (by rw [← z]; exact p4.resolve_left (by rw [h7]; decide))
    exact ⟨y.1, y', y.2.2⟩
theorem RS.lnkW {h0 h h' : sm_H} {r sg sp ed len : Nat} {tx : Nat → Int32} {E E' : Ed} {s : Nat × Int32} {dT dU a b : Nat} (R : RS h0 h r sg sp ed len tx E s dT dU) {lp lw lv ls ep ew ev es : Nat} {pa wa va sa : Nat → Nat} (X : EdF h ed lp lw lv ls ep ew ev es pa wa va sa E (fun _ => nI 0)) (O : EdO h (dR h0 h r sp) ed lp lw lv ls ep ew ev es pa wa va sa E) {p e' : Nat} {x : Nat × Nat × Bool} (e0 : E'.1.length = E.1.length) (e1 : E'.2.1 = E.2.1 ++ [x]) (e2 : E'.2.2 = E.2.2) (e3 : sts E'.1 = sts E.1) (L : Lst h' lw e' (E.2.1.length + 1) (fun i => if i = E.2.1.length then p else wa i)) (f' : Fr h h' (fun c => c = lw ∨ (c = ew ∧ hC h ew = 7) ∨ ∃ k, k < E.1.length ∧ c = pa k) a b) (he : e' = ew ∧ hC h ew = 7 ∨ hT h ≤ e') (p1 : hT h ≤ p) (p2 : p < hT h') (hP' : ∀ k, k < E.1.length → PlR h' (pa k) E' k (nI 0)) (hf : LkR h' p x.1 x.2.1 x.2.2) : RS h0 h' r sg sp ed len tx E' s (dT + a) (dU + b) := by
  obtain ⟨B, w, f, ⟨r1, r2, r3, r4, r5⟩, ⟨z1, z2⟩, _⟩ := R
  have hT0 := f.1
  have hT1 := f'.1
  have hzh : hZ h = hZ h0 := f.2.2.2.2.1
  have zk : hC h (hZ h) = 14 := by rw [hzh]; exact ((f.2.2.2.2.2 _ z2 id).1).trans z1
  have lg := X.2.1.2.1
  have keg := lg.ke
  have nk : ∀ a c, hC h a = c → c ≠ 22 → ¬ ∃ k, k < E.1.length ∧ a = pa k := fun a c hc h1 z => by
    obtain ⟨k, hk, z⟩ := z
    exact h1 (by rw [← hc, z, (X.2.2.1 k hk).1])
  have s' : ∀ c, c < hT h → c ≠ lw → (c ≠ ew ∨ hC h ew = 14) → (∀ k, k < E.1.length → c ≠ pa k) → samA h h' c := fun c hc h1 h2 h3 => f'.2.2.2.2.2 c hc (fun q => by
    rcases q with q | q | ⟨k, hk, q⟩
    · exact h1 q
    · exact h2.elim (fun z => z q.1) (fun z => by rw [q.2] at z; cases z)
    · exact h3 k hk q)
  have sk : ∀ c d, c < hT h → hC h c = d → d ≠ 26 → d ≠ 7 → d ≠ 14 → d ≠ 22 → samA h h' c := fun c d hc hd h1 h2 h3 h4 => s' c hc (kne hd lg.1 h1) (Or.inl (Ne.symm (kne2 keg hd h3 h2))) (fun k hk z => nk c d hd h4 ⟨k, hk, z⟩)
  have sz : samA h h' (hZ h) := s' _ (by omega) (kne zk lg.1 (by decide)) (by
    by_cases q : hZ h = ew
    · right; rw [← q]; exact zk
    · exact Or.inl q) (fun k hk z => nk _ 14 zk (by decide) ⟨k, hk, z⟩)
  have e7 : hT h ≤ e' → hC h' e' = 7 := fun q => by
    rcases L.2.2.2.2.2.2.2.1 with ⟨y, _⟩ | ⟨y, _⟩
    · have := f'.2.2.2.2.1; omega
    · exact y
  have geD : hC h ew = 7 → dR h0 h r sp ew := fun q => O.2.2.1.resolve_left (by rw [q]; decide)
  have sr := sk r 24 r2 B.1 (by decide) (by decide) (by decide) (by decide)
  have x9 := EdF.lnkW X O (D' := dR h0 h' r sp) e0 e1 e2 e3 L (fun a ha h1 h2 h3 => s' a ha.2.1 h1 h2 h3) sz f'.2.2.2.2.1 hT1 (by
      right
      rcases he with ⟨y1, y2⟩ | y1
      · rw [y1]
        have := geD y2
        exact ⟨this.1, by have := this.2.1; omega, this.2.2⟩
      · have := L.2.2.2.2.2.2.1
        exact ⟨by omega, by omega, by omega, by omega⟩) (by
      rcases he with ⟨y1, y2⟩ | y1
      · exact Or.inl y1
      · exact Or.inr ⟨fun z => by have := z.2.1; omega, e7 y1⟩) (fun a ha => ⟨ha.1, by have := ha.2.1; omega, ha.2.2⟩) ⟨by omega, by omega, by omega, by omega⟩ hP' hf
  have ssg := sk sg 3 (by omega) B.2.2.2.2.2.1 (by decide) (by decide) (by decide) (by decide)
  have ssp := sk sp 1 r4 B.2.2.2.2.2.2.2.2.1 (by decide) (by decide) (by decide) (by decide)
  refine ⟨B.same (sr.1.trans B.1) (fun g _ _ => sr.2.2.1 g) ssg ⟨ssp.1.trans B.2.2.2.2.2.2.2.2.1, ssp.2.1.trans B.2.2.2.2.2.2.2.2.2.1⟩, ⟨rfl, rfl, rfl, fun a _ => samA.refl h' a, sr.1.trans B.1, fun _ _ _ => rfl, (sr.2.2.1 _).trans w.2.2.2.2.2.2.1, (sr.2.2.1 _).trans w.2.2.2.2.2.2.2.1, w.2.2.2.2.2.2.2.2⟩, ?_, ⟨r1, by omega, r3, by omega, r5⟩, ⟨z1, z2⟩, _, _, _, _, _, _, _, _, _, _, _, _, x9⟩
  refine f.trans f' (fun _ _ q => q) (fun c hc q => ?_) (Nat.le_refl _) (Nat.le_refl _)
  rcases q with q | q | ⟨k, hk, q⟩
  · have := O.1.2.2.1.1
    omega
  · have := (geD q.2).1
    omega
  · have := (O.2.2.2.2.2.1 k hk).1
    omega
theorem EdF.lnkV {h h' : sm_H} {D D' : Nat → Prop} {ed lp lw lv ls ep ew ev es : Nat} {pa wa va sa : Nat → Nat} {E E' : Ed} {un : Nat → Int32} (X : EdF h ed lp lw lv ls ep ew ev es pa wa va sa E un) (O : EdO h D ed lp lw lv ls ep ew ev es pa wa va sa E) {p e' : Nat} {x : Nat × Nat} (e0 : E'.1.length = E.1.length) (e1 : E'.2.1 = E.2.1) (e2 : E'.2.2 = E.2.2 ++ [x]) (e3 : sts E'.1 = sts E.1) (L : Lst h' lv e' (E.2.2.length + 1) (fun i => if i = E.2.2.length then p else va i)) (hs : ∀ a, D a → a ≠ lv → (a ≠ ev ∨ hC h ev = 14) → (∀ k, k < E.1.length → a ≠ pa k) → samA h h' a) (sz : samA h h' (hZ h)) (hz : hZ h' = hZ h) (ht : hT h ≤ hT h') (hk : hC h' e' = 14 ∨ D' e') (he : e' = ev ∨ (¬ D e' ∧ hC h' e' = 7)) (hDD : ∀ a, D a → D' a) (hp : D' p) (hP' : ∀ k, k < E.1.length → PlR h' (pa k) E' k (un k)) (hf : LkR h' p x.1 x.2 false) : EdF h' ed lp lw lv ls ep ew e' es pa wa (fun i => if i = E.2.2.length then p else va i) sa E' un ∧ EdO h' D' ed lp lw lv ls ep ew e' es pa wa (fun i => if i = E.2.2.length then p else va i) sa E' := by
  obtain ⟨⟨e0', e1', e2', e3', e4'⟩, ⟨l1, l2, l3, l4⟩, hP, hW, hV, hS⟩ := X
  obtain ⟨⟨o0, o1, o2, o3, o4⟩, p1, p2, p3, p4, q1, q2, q3, q4, ⟨d1, d2, d3, d4, d5, d6⟩, g2, g3, g4, g5, g6⟩ := O
  have keg := l3.ke
  have nk : ∀ a c, hC h a = c → c ≠ 22 → ∀ k, k < E.1.length → a ≠ pa k := fun a c hc h1 k hk z => h1 (by rw [← hc, z, (hP k hk).1])
  have sk : ∀ a c, D a → hC h a = c → c ≠ 26 → c ≠ 7 → c ≠ 14 → c ≠ 22 → samA h h' a := fun a c ha hc h1 h2 h3 h4 => hs a ha (kne hc l3.1 h1) (Or.inl (Ne.symm (kne2 keg hc h3 h2))) (nk a c hc h4)
  have sL : ∀ {a e n f}, D a → a ≠ lv → (hC h e = 14 ∨ D e) → (hC h e = 7 → e ≠ ev) → (∀ i, i < n → hC h' (f i) = hC h (f i)) → Lst h a e n f → Lst h' a e n f ∧ hC h' e = hC h e := by
    intro a e n f ha hal hel hee hff l
    have s2 : samA h h' e := by
      rcases l.2.2.2.2.2.2.2.1 with ⟨y1, y2, _⟩ | ⟨y1, _⟩
      · rw [y1]; exact sz
      · exact hs e (hel.resolve_left (by rw [y1]; decide)) (fun z => by rw [z, l3.1] at y1; cases y1) (Or.inl (hee y1)) (nk e 7 y1 (by decide))
    exact ⟨l.same (hs a ha hal (Or.inl (Ne.symm (kne2 keg l.1 (by decide) (by decide)))) (nk a 26 l.1 (by decide))) s2 hff hz ht, s2.1⟩
  have lkk : ∀ {q a b t}, D q → LkR h q a b t → samA h h' q := fun hq y => sk _ 21 hq y.1 (by decide) (by decide) (by decide) (by decide)
  obtain ⟨m1, k1⟩ := sL o1 d2 p1 (fun z => (g3 z).2.1) (fun i hi => (hP' i hi).1.trans (hP i hi).1.symm) l1
  obtain ⟨m2, k2⟩ := sL o2 d4 p2 (fun z => (g4 z).2.1) (fun i hi => (lkk (q2 i hi) (hW i hi)).1) l2
  obtain ⟨m4, k4⟩ := sL o4 (Ne.symm d6) p4 (fun z => (g6 z).2.2) (fun i hi => (lkk (q4 i hi) (hS i hi)).1) l4
  have se := sk ed 17 o0 e0' (by decide) (by decide) (by decide) (by decide)
  have hnew : ∀ b, (hC h b = 14 ∨ D b) → hC h' b = hC h b → hC h' e' = 7 → e' ≠ b ∨ e' = ev := by
    intro b hb hbk h7
    rcases he with he | ⟨he, _⟩
    · exact Or.inr he
    · refine Or.inl (fun z => ?_)
      rcases hb with hb | hb
      · rw [z, hbk, hb] at h7; cases h7
      · exact he (by rw [z]; exact hb)
  have n1 : E'.2.1.length = E.2.1.length := by rw [e1]
  have n2 : E'.2.2.length = E.2.2.length + 1 := by rw [e2]; rw [List.length_append]; rfl
  have n3 : (sts E'.1).length = (sts E.1).length := by rw [e3]
  refine ⟨⟨⟨se.1.trans e0', (se.2.2.1 _).trans e1', (se.2.2.1 _).trans e2', (se.2.2.1 _).trans e3', (se.2.2.1 _).trans e4'⟩, ⟨by rw [e0]; exact m1, by rw [n1]; exact m2, by rw [n2]; exact L, by rw [n3]; exact m4⟩, fun k hk => hP' k (by rw [e0] at hk; exact hk), (fun i hi => by rw [e1] at hi ⊢; exact (hW i hi).same (lkk (q2 i hi) (hW i hi))), ?_, (fun i hi => by rw [e3] at hi ⊢; exact (hS i hi).same (lkk (q4 i hi) (hS i hi)))⟩, ⟨hDD _ o0, hDD _ o1, hDD _ o2, hDD _ o3, hDD _ o4⟩, by rw [k1]; exact p1.imp id (hDD _), by rw [k2]; exact p2.imp id (hDD _), hk, by rw [k4]; exact p4.imp id (hDD _), fun i hi => hDD _ (q1 i (by rw [e0] at hi; exact hi)), fun i hi => hDD _ (q2 i (by rw [n1] at hi; exact hi)), ?_, fun i hi => hDD _ (q4 i (by rw [n3] at hi; exact hi)), ⟨d1, d2, d3, d4, d5, d6⟩, fun i j hi hj z => g2 i j (by rw [e0] at hi; exact hi) (by rw [e0] at hj; exact hj) z, ?_, ?_, ?_, ?_⟩
  · intro i hi
    rw [n2] at hi
    dsimp only
    by_cases q : i = E.2.2.length
    · subst q
      rw [if_pos rfl, e2]
      obtain ⟨z1, z2⟩ := @vA_new E.2.2 x
      rw [z1, z2]; exact hf
    · rw [if_neg q, e2]
      have hi' : i < E.2.2.length := by omega
      obtain ⟨z1, z2⟩ := vA_old (w := x) hi'
      rw [z1, z2]; exact (hV i hi').same (lkk (q3 i hi') (hV i hi'))
  · intro i hi
    rw [n2] at hi
    dsimp only
    by_cases q : i = E.2.2.length
    · rw [if_pos q]; exact hp
    · rw [if_neg q]; exact hDD _ (q3 i (by omega))
  · intro h7
    rw [k1] at h7
    have y := g3 h7
    have y' : ep ≠ e' := by
      rcases he with he | ⟨he, _⟩
      · rw [he]; exact y.2.1
      · exact fun z => he (by rw [← z]; exact p1.resolve_left (by rw [h7]; decide))
    exact ⟨y.1, y', y.2.2⟩
  · intro h7
    rw [k2] at h7
    have y := g4 h7
    have y' : ew ≠ e' := by
      rcases he with he | ⟨he, _⟩
      · rw [he]; exact y.2.1
      · exact fun z => he (by rw [← z]; exact p2.resolve_left (by rw [h7]; decide))
    exact ⟨y.1, y', y.2.2⟩
  · intro h7
    have a0 := hnew ep p1 k1 h7
    have a1 := hnew ew p2 k2 h7
    have a3 := hnew es p4 k4 h7
    have b0 : e' = ev → ev ≠ ep ∧ ev ≠ ew ∧ ev ≠ es := fun z => g5 (by
      rcases keg with k | k
      · exfalso
        have zz : ev = hZ h := by
          rcases l3.2.2.2.2.2.2.2.1 with ⟨w, _⟩ | ⟨w, _⟩
          · exact w
          · rw [k] at w; cases w
        rw [z, zz, sz.1, ← zz, k] at h7; cases h7
      · exact k)
    exact ⟨a0.elim id (fun z => by rw [z]; exact (b0 z).1), a1.elim id (fun z => by rw [z]; exact (b0 z).2.1), a3.elim id (fun z => by rw [z]; exact (b0 z).2.2)⟩
  · intro h7
    rw [k4] at h7
    have y := g6 h7
    have y' : es ≠ e' := by
      rcases he with he | ⟨he, _⟩
      · rw [he]; exact y.2.2
      · exact fun z => he (by rw [← z]; exact p4.resolve_left (by rw [h7]; decide))
    exact ⟨y.1, y.2.1, y'⟩
theorem RS.lnkV {h0 h h' : sm_H} {r sg sp ed len : Nat} {tx : Nat → Int32} {E E' : Ed} {s : Nat × Int32} {dT dU a b : Nat} (R : RS h0 h r sg sp ed len tx E s dT dU) {lp lw lv ls ep ew ev es : Nat} {pa wa va sa : Nat → Nat} (X : EdF h ed lp lw lv ls ep ew ev es pa wa va sa E (fun _ => nI 0)) (O : EdO h (dR h0 h r sp) ed lp lw lv ls ep ew ev es pa wa va sa E) {p e' : Nat} {x : Nat × Nat} (e0 : E'.1.length = E.1.length) (e1 : E'.2.1 = E.2.1) (e2 : E'.2.2 = E.2.2 ++ [x]) (e3 : sts E'.1 = sts E.1) (L : Lst h' lv e' (E.2.2.length + 1) (fun i => if i = E.2.2.length then p else va i)) (f' : Fr h h' (fun c => c = lv ∨ (c = ev ∧ hC h ev = 7) ∨ ∃ k, k < E.1.length ∧ c = pa k) a b) (he : e' = ev ∧ hC h ev = 7 ∨ hT h ≤ e') (p1 : hT h ≤ p) (p2 : p < hT h') (hP' : ∀ k, k < E.1.length → PlR h' (pa k) E' k (nI 0)) (hf : LkR h' p x.1 x.2 false) : RS h0 h' r sg sp ed len tx E' s (dT + a) (dU + b) := by
  obtain ⟨B, w, f, ⟨r1, r2, r3, r4, r5⟩, ⟨z1, z2⟩, _⟩ := R
  have hT0 := f.1
  have hT1 := f'.1
  have hzh : hZ h = hZ h0 := f.2.2.2.2.1
  have zk : hC h (hZ h) = 14 := by rw [hzh]; exact ((f.2.2.2.2.2 _ z2 id).1).trans z1
  have lg := X.2.1.2.2.1
  have keg := lg.ke
  have nk : ∀ a c, hC h a = c → c ≠ 22 → ¬ ∃ k, k < E.1.length ∧ a = pa k := fun a c hc h1 z => by
    obtain ⟨k, hk, z⟩ := z
    exact h1 (by rw [← hc, z, (X.2.2.1 k hk).1])
  have s' : ∀ c, c < hT h → c ≠ lv → (c ≠ ev ∨ hC h ev = 14) → (∀ k, k < E.1.length → c ≠ pa k) → samA h h' c := fun c hc h1 h2 h3 => f'.2.2.2.2.2 c hc (fun q => by
    rcases q with q | q | ⟨k, hk, q⟩
    · exact h1 q
    · exact h2.elim (fun z => z q.1) (fun z => by rw [q.2] at z; cases z)
    · exact h3 k hk q)
  have sk : ∀ c d, c < hT h → hC h c = d → d ≠ 26 → d ≠ 7 → d ≠ 14 → d ≠ 22 → samA h h' c := fun c d hc hd h1 h2 h3 h4 => s' c hc (kne hd lg.1 h1) (Or.inl (Ne.symm (kne2 keg hd h3 h2))) (fun k hk z => nk c d hd h4 ⟨k, hk, z⟩)
  have sz : samA h h' (hZ h) := s' _ (by omega) (kne zk lg.1 (by decide)) (by
    by_cases q : hZ h = ev
    · right; rw [← q]; exact zk
    · exact Or.inl q) (fun k hk z => nk _ 14 zk (by decide) ⟨k, hk, z⟩)
  have e7 : hT h ≤ e' → hC h' e' = 7 := fun q => by
    rcases L.2.2.2.2.2.2.2.1 with ⟨y, _⟩ | ⟨y, _⟩
    · have := f'.2.2.2.2.1; omega
    · exact y
  have geD : hC h ev = 7 → dR h0 h r sp ev := fun q => O.2.2.2.1.resolve_left (by rw [q]; decide)
  have sr := sk r 24 r2 B.1 (by decide) (by decide) (by decide) (by decide)
  have x9 := EdF.lnkV X O (D' := dR h0 h' r sp) e0 e1 e2 e3 L (fun a ha h1 h2 h3 => s' a ha.2.1 h1 h2 h3) sz f'.2.2.2.2.1 hT1 (by
      right
      rcases he with ⟨y1, y2⟩ | y1
      · rw [y1]
        have := geD y2
        exact ⟨this.1, by have := this.2.1; omega, this.2.2⟩
      · have := L.2.2.2.2.2.2.1
        exact ⟨by omega, by omega, by omega, by omega⟩) (by
      rcases he with ⟨y1, y2⟩ | y1
      · exact Or.inl y1
      · exact Or.inr ⟨fun z => by have := z.2.1; omega, e7 y1⟩) (fun a ha => ⟨ha.1, by have := ha.2.1; omega, ha.2.2⟩) ⟨by omega, by omega, by omega, by omega⟩ hP' hf
  have ssg := sk sg 3 (by omega) B.2.2.2.2.2.1 (by decide) (by decide) (by decide) (by decide)
  have ssp := sk sp 1 r4 B.2.2.2.2.2.2.2.2.1 (by decide) (by decide) (by decide) (by decide)
  refine ⟨B.same (sr.1.trans B.1) (fun g _ _ => sr.2.2.1 g) ssg ⟨ssp.1.trans B.2.2.2.2.2.2.2.2.1, ssp.2.1.trans B.2.2.2.2.2.2.2.2.2.1⟩, ⟨rfl, rfl, rfl, fun a _ => samA.refl h' a, sr.1.trans B.1, fun _ _ _ => rfl, (sr.2.2.1 _).trans w.2.2.2.2.2.2.1, (sr.2.2.1 _).trans w.2.2.2.2.2.2.2.1, w.2.2.2.2.2.2.2.2⟩, ?_, ⟨r1, by omega, r3, by omega, r5⟩, ⟨z1, z2⟩, _, _, _, _, _, _, _, _, _, _, _, _, x9⟩
  refine f.trans f' (fun _ _ q => q) (fun c hc q => ?_) (Nat.le_refl _) (Nat.le_refl _)
  rcases q with q | q | ⟨k, hk, q⟩
  · have := O.1.2.2.2.1.1
    omega
  · have := (geD q.2).1
    omega
  · have := (O.2.2.2.2.2.1 k hk).1
    omega
theorem EdF.lnkS {h h' : sm_H} {D D' : Nat → Prop} {ed lp lw lv ls ep ew ev es : Nat} {pa wa va sa : Nat → Nat} {E E' : Ed} {un : Nat → Int32} (X : EdF h ed lp lw lv ls ep ew ev es pa wa va sa E un) (O : EdO h D ed lp lw lv ls ep ew ev es pa wa va sa E) {p e' : Nat} {x : Nat × Nat} (e0 : E'.1.length = E.1.length) (e1 : E'.2.1 = E.2.1) (e2 : E'.2.2 = E.2.2) (e3 : sts E'.1 = sts E.1 ++ [x]) (L : Lst h' ls e' ((sts E.1).length + 1) (fun i => if i = (sts E.1).length then p else sa i)) (hs : ∀ a, D a → a ≠ ls → (a ≠ es ∨ hC h es = 14) → (∀ k, k < E.1.length → a ≠ pa k) → samA h h' a) (sz : samA h h' (hZ h)) (hz : hZ h' = hZ h) (ht : hT h ≤ hT h') (hk : hC h' e' = 14 ∨ D' e') (he : e' = es ∨ (¬ D e' ∧ hC h' e' = 7)) (hDD : ∀ a, D a → D' a) (hp : D' p) (hP' : ∀ k, k < E.1.length → PlR h' (pa k) E' k (un k)) (hf : LkR h' p x.1 x.2 true) : EdF h' ed lp lw lv ls ep ew ev e' pa wa va (fun i => if i = (sts E.1).length then p else sa i) E' un ∧ EdO h' D' ed lp lw lv ls ep ew ev e' pa wa va (fun i => if i = (sts E.1).length then p else sa i) E' := by
  obtain ⟨⟨e0', e1', e2', e3', e4'⟩, ⟨l1, l2, l3, l4⟩, hP, hW, hV, hS⟩ := X
  obtain ⟨⟨o0, o1, o2, o3, o4⟩, p1, p2, p3, p4, q1, q2, q3, q4, ⟨d1, d2, d3, d4, d5, d6⟩, g2, g3, g4, g5, g6⟩ := O
  have keg := l4.ke
  have nk : ∀ a c, hC h a = c → c ≠ 22 → ∀ k, k < E.1.length → a ≠ pa k := fun a c hc h1 k hk z => h1 (by rw [← hc, z, (hP k hk).1])
  have sk : ∀ a c, D a → hC h a = c → c ≠ 26 → c ≠ 7 → c ≠ 14 → c ≠ 22 → samA h h' a := fun a c ha hc h1 h2 h3 h4 => hs a ha (kne hc l4.1 h1) (Or.inl (Ne.symm (kne2 keg hc h3 h2))) (nk a c hc h4)
  have sL : ∀ {a e n f}, D a → a ≠ ls → (hC h e = 14 ∨ D e) → (hC h e = 7 → e ≠ es) → (∀ i, i < n → hC h' (f i) = hC h (f i)) → Lst h a e n f → Lst h' a e n f ∧ hC h' e = hC h e := by
    intro a e n f ha hal hel hee hff l
    have s2 : samA h h' e := by
      rcases l.2.2.2.2.2.2.2.1 with ⟨y1, y2, _⟩ | ⟨y1, _⟩
      · rw [y1]; exact sz
      · exact hs e (hel.resolve_left (by rw [y1]; decide)) (fun z => by rw [z, l4.1] at y1; cases y1) (Or.inl (hee y1)) (nk e 7 y1 (by decide))
    exact ⟨l.same (hs a ha hal (Or.inl (Ne.symm (kne2 keg l.1 (by decide) (by decide)))) (nk a 26 l.1 (by decide))) s2 hff hz ht, s2.1⟩
  have lkk : ∀ {q a b t}, D q → LkR h q a b t → samA h h' q := fun hq y => sk _ 21 hq y.1 (by decide) (by decide) (by decide) (by decide)
  obtain ⟨m1, k1⟩ := sL o1 d3 p1 (fun z => (g3 z).2.2) (fun i hi => (hP' i hi).1.trans (hP i hi).1.symm) l1
  obtain ⟨m2, k2⟩ := sL o2 d5 p2 (fun z => (g4 z).2.2) (fun i hi => (lkk (q2 i hi) (hW i hi)).1) l2
  obtain ⟨m3, k3⟩ := sL o3 d6 p3 (fun z => (g5 z).2.2) (fun i hi => (lkk (q3 i hi) (hV i hi)).1) l3
  have se := sk ed 17 o0 e0' (by decide) (by decide) (by decide) (by decide)
  have hnew : ∀ b, (hC h b = 14 ∨ D b) → hC h' b = hC h b → hC h' e' = 7 → e' ≠ b ∨ e' = es := by
    intro b hb hbk h7
    rcases he with he | ⟨he, _⟩
    · exact Or.inr he
    · refine Or.inl (fun z => ?_)
      rcases hb with hb | hb
      · rw [z, hbk, hb] at h7; cases h7
      · exact he (by rw [z]; exact hb)
  have n1 : E'.2.1.length = E.2.1.length := by rw [e1]
  have n2 : E'.2.2.length = E.2.2.length := by rw [e2]
  have n3 : (sts E'.1).length = (sts E.1).length + 1 := by rw [e3]; rw [List.length_append]; rfl
  refine ⟨⟨⟨se.1.trans e0', (se.2.2.1 _).trans e1', (se.2.2.1 _).trans e2', (se.2.2.1 _).trans e3', (se.2.2.1 _).trans e4'⟩, ⟨by rw [e0]; exact m1, by rw [n1]; exact m2, by rw [n2]; exact m3, by rw [n3]; exact L⟩, fun k hk => hP' k (by rw [e0] at hk; exact hk), (fun i hi => by rw [e1] at hi ⊢; exact (hW i hi).same (lkk (q2 i hi) (hW i hi))), (fun i hi => by rw [e2] at hi ⊢; exact (hV i hi).same (lkk (q3 i hi) (hV i hi))), ?_⟩, ⟨hDD _ o0, hDD _ o1, hDD _ o2, hDD _ o3, hDD _ o4⟩, by rw [k1]; exact p1.imp id (hDD _), by rw [k2]; exact p2.imp id (hDD _), by rw [k3]; exact p3.imp id (hDD _), hk, fun i hi => hDD _ (q1 i (by rw [e0] at hi; exact hi)), fun i hi => hDD _ (q2 i (by rw [n1] at hi; exact hi)), fun i hi => hDD _ (q3 i (by rw [n2] at hi; exact hi)), ?_, ⟨d1, d2, d3, d4, d5, d6⟩, fun i j hi hj z => g2 i j (by rw [e0] at hi; exact hi) (by rw [e0] at hj; exact hj) z, ?_, ?_, ?_, ?_⟩
  · intro i hi
    rw [n3] at hi
    dsimp only
    by_cases q : i = (sts E.1).length
    · subst q
      rw [if_pos rfl, e3]
      obtain ⟨z1, z2⟩ := @vA_new (sts E.1) x
      rw [z1, z2]; exact hf
    · rw [if_neg q, e3]
      have hi' : i < (sts E.1).length := by omega
      obtain ⟨z1, z2⟩ := vA_old (w := x) hi'
      rw [z1, z2]; exact (hS i hi').same (lkk (q4 i hi') (hS i hi'))
  · intro i hi
    rw [n3] at hi
    dsimp only
    by_cases q : i = (sts E.1).length
    · rw [if_pos q]; exact hp
    · rw [if_neg q]; exact hDD _ (q4 i (by omega))
  · intro h7
    rw [k1] at h7
    have y := g3 h7
    have y' : ep ≠ e' := by
      rcases he with he | ⟨he, _⟩
      · rw [he]; exact y.2.2
      · exact fun z => he (by rw [← z]; exact p1.resolve_left (by rw [h7]; decide))
    exact ⟨y.1, y.2.1, y'⟩
  · intro h7
    rw [k2] at h7
    have y := g4 h7
    have y' : ew ≠ e' := by
      rcases he with he | ⟨he, _⟩
      · rw [he]; exact y.2.2
      · exact fun z => he (by rw [← z]; exact p2.resolve_left (by rw [h7]; decide))
    exact ⟨y.1, y.2.1, y'⟩
  · intro h7
    rw [k3] at h7
    have y := g5 h7
    have y' : ev ≠ e' := by
      rcases he with he | ⟨he, _⟩
      · rw [he]; exact y.2.2
      · exact fun z => he (by rw [← z]; exact p3.resolve_left (by rw [h7]; decide))
    exact ⟨y.1, y.2.1, y'⟩
  · intro h7
    have a0 := hnew ep p1 k1 h7
    have a1 := hnew ew p2 k2 h7
    have a2 := hnew ev p3 k3 h7
    have b0 : e' = es → es ≠ ep ∧ es ≠ ew ∧ es ≠ ev := fun z => g6 (by
      rcases keg with k | k
      · exfalso
        have zz : es = hZ h := by
          rcases l4.2.2.2.2.2.2.2.1 with ⟨w, _⟩ | ⟨w, _⟩
          · exact w
          · rw [k] at w; cases w
        rw [z, zz, sz.1, ← zz, k] at h7; cases h7
      · exact k)
    exact ⟨a0.elim id (fun z => by rw [z]; exact (b0 z).1), a1.elim id (fun z => by rw [z]; exact (b0 z).2.1), a2.elim id (fun z => by rw [z]; exact (b0 z).2.2)⟩
theorem RS.lnkS {h0 h h' : sm_H} {r sg sp ed len : Nat} {tx : Nat → Int32} {E E' : Ed} {s : Nat × Int32} {dT dU a b : Nat} (R : RS h0 h r sg sp ed len tx E s dT dU) {lp lw lv ls ep ew ev es : Nat} {pa wa va sa : Nat → Nat} (X : EdF h ed lp lw lv ls ep ew ev es pa wa va sa E (fun _ => nI 0)) (O : EdO h (dR h0 h r sp) ed lp lw lv ls ep ew ev es pa wa va sa E) {p e' : Nat} {x : Nat × Nat} (e0 : E'.1.length = E.1.length) (e1 : E'.2.1 = E.2.1) (e2 : E'.2.2 = E.2.2) (e3 : sts E'.1 = sts E.1 ++ [x]) (L : Lst h' ls e' ((sts E.1).length + 1) (fun i => if i = (sts E.1).length then p else sa i)) (f' : Fr h h' (fun c => c = ls ∨ (c = es ∧ hC h es = 7) ∨ ∃ k, k < E.1.length ∧ c = pa k) a b) (he : e' = es ∧ hC h es = 7 ∨ hT h ≤ e') (p1 : hT h ≤ p) (p2 : p < hT h') (hP' : ∀ k, k < E.1.length → PlR h' (pa k) E' k (nI 0)) (hf : LkR h' p x.1 x.2 true) : RS h0 h' r sg sp ed len tx E' s (dT + a) (dU + b) := by
  obtain ⟨B, w, f, ⟨r1, r2, r3, r4, r5⟩, ⟨z1, z2⟩, _⟩ := R
  have hT0 := f.1
  have hT1 := f'.1
  have hzh : hZ h = hZ h0 := f.2.2.2.2.1
  have zk : hC h (hZ h) = 14 := by rw [hzh]; exact ((f.2.2.2.2.2 _ z2 id).1).trans z1
  have lg := X.2.1.2.2.2
  have keg := lg.ke
  have nk : ∀ a c, hC h a = c → c ≠ 22 → ¬ ∃ k, k < E.1.length ∧ a = pa k := fun a c hc h1 z => by
    obtain ⟨k, hk, z⟩ := z
    exact h1 (by rw [← hc, z, (X.2.2.1 k hk).1])
  have s' : ∀ c, c < hT h → c ≠ ls → (c ≠ es ∨ hC h es = 14) → (∀ k, k < E.1.length → c ≠ pa k) → samA h h' c := fun c hc h1 h2 h3 => f'.2.2.2.2.2 c hc (fun q => by
    rcases q with q | q | ⟨k, hk, q⟩
    · exact h1 q
    · exact h2.elim (fun z => z q.1) (fun z => by rw [q.2] at z; cases z)
    · exact h3 k hk q)
  have sk : ∀ c d, c < hT h → hC h c = d → d ≠ 26 → d ≠ 7 → d ≠ 14 → d ≠ 22 → samA h h' c := fun c d hc hd h1 h2 h3 h4 => s' c hc (kne hd lg.1 h1) (Or.inl (Ne.symm (kne2 keg hd h3 h2))) (fun k hk z => nk c d hd h4 ⟨k, hk, z⟩)
  have sz : samA h h' (hZ h) := s' _ (by omega) (kne zk lg.1 (by decide)) (by
    by_cases q : hZ h = es
    · right; rw [← q]; exact zk
    · exact Or.inl q) (fun k hk z => nk _ 14 zk (by decide) ⟨k, hk, z⟩)
  have e7 : hT h ≤ e' → hC h' e' = 7 := fun q => by
    rcases L.2.2.2.2.2.2.2.1 with ⟨y, _⟩ | ⟨y, _⟩
    · have := f'.2.2.2.2.1; omega
    · exact y
  have geD : hC h es = 7 → dR h0 h r sp es := fun q => O.2.2.2.2.1.resolve_left (by rw [q]; decide)
  have sr := sk r 24 r2 B.1 (by decide) (by decide) (by decide) (by decide)
  have x9 := EdF.lnkS X O (D' := dR h0 h' r sp) e0 e1 e2 e3 L (fun a ha h1 h2 h3 => s' a ha.2.1 h1 h2 h3) sz f'.2.2.2.2.1 hT1 (by
      right
      rcases he with ⟨y1, y2⟩ | y1
      · rw [y1]
        have := geD y2
        exact ⟨this.1, by have := this.2.1; omega, this.2.2⟩
      · have := L.2.2.2.2.2.2.1
        exact ⟨by omega, by omega, by omega, by omega⟩) (by
      rcases he with ⟨y1, y2⟩ | y1
      · exact Or.inl y1
      · exact Or.inr ⟨fun z => by have := z.2.1; omega, e7 y1⟩) (fun a ha => ⟨ha.1, by have := ha.2.1; omega, ha.2.2⟩) ⟨by omega, by omega, by omega, by omega⟩ hP' hf
  have ssg := sk sg 3 (by omega) B.2.2.2.2.2.1 (by decide) (by decide) (by decide) (by decide)
  have ssp := sk sp 1 r4 B.2.2.2.2.2.2.2.2.1 (by decide) (by decide) (by decide) (by decide)
  refine ⟨B.same (sr.1.trans B.1) (fun g _ _ => sr.2.2.1 g) ssg ⟨ssp.1.trans B.2.2.2.2.2.2.2.2.1, ssp.2.1.trans B.2.2.2.2.2.2.2.2.2.1⟩, ⟨rfl, rfl, rfl, fun a _ => samA.refl h' a, sr.1.trans B.1, fun _ _ _ => rfl, (sr.2.2.1 _).trans w.2.2.2.2.2.2.1, (sr.2.2.1 _).trans w.2.2.2.2.2.2.2.1, w.2.2.2.2.2.2.2.2⟩, ?_, ⟨r1, by omega, r3, by omega, r5⟩, ⟨z1, z2⟩, _, _, _, _, _, _, _, _, _, _, _, _, x9⟩
  refine f.trans f' (fun _ _ q => q) (fun c hc q => ?_) (Nat.le_refl _) (Nat.le_refl _)
  rcases q with q | q | ⟨k, hk, q⟩
  · have := O.1.2.2.2.2.1
    omega
  · have := (geD q.2).1
    omega
  · have := (O.2.2.2.2.2.1 k hk).1
    omega
