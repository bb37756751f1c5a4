/-! AN EDITION GROWS in the heap -/
theorem EdO.mono {h : sm_H} {D D' : Nat → Prop} {ed lp lw lv ls ep ew ev es : Nat} {pa wa va sa : Nat → Nat} {E : Ed} (O : EdO h D ed lp lw lv ls ep ew ev es pa wa va sa E) (hm : ∀ a, D a → D' a) : EdO h D' ed lp lw lv ls ep ew ev es pa wa va sa E := by
  obtain ⟨⟨o0, o1, o2, o3, o4⟩, p1, p2, p3, p4, q1, q2, q3, q4, d1, d2, d3⟩ := O
  exact ⟨⟨hm _ o0, hm _ o1, hm _ o2, hm _ o3, hm _ o4⟩, p1.imp id (hm _), p2.imp id (hm _), p3.imp id (hm _), p4.imp id (hm _), fun k hk => hm _ (q1 k hk), fun k hk => hm _ (q2 k hk), fun k hk => hm _ (q3 k hk), fun k hk => hm _ (q4 k hk), d1, d2, d3⟩
theorem lnk_out {E : Ed} (hWd : EdW E) {k : Nat} (hk : E.1.length ≤ k) : ¬ lnkE E k := by
  rintro (⟨i, h1, h2⟩ | ⟨j, h1, h2⟩)
  · have := hWd.2.2.1 _ _ _ (w_mem h1)
    rcases h2 with h2 | h2 <;> omega
  · obtain ⟨i, q1, q2⟩ := s_ex h2
    have := (hWd.st6 (stP_lt h2) q1).2
    omega
theorem EdF.push {h h' : sm_H} {D D' : Nat → Prop} {ed lp lw lv ls ep ew ev es : Nat} {pa wa va sa : Nat → Nat} {E : Ed} {un : Nat → Int32} (X : EdF h ed lp lw lv ls ep ew ev es pa wa va sa E un) (O : EdO h D ed lp lw lv ls ep ew ev es pa wa va sa E) (hWd : EdW E) {p ep' : Nat} {P : Pl} (hP2 : P.2 = [])
    (L : Lst h' lp ep' (E.1.length + 1) (fun i => if i = E.1.length then p else pa i)) (hs : ∀ a, D a → a ≠ lp → (a ≠ ep ∨ hC h ep = 14) → samA h h' a) (sz : samA h h' (hZ h)) (hz : hZ h' = hZ h) (ht : hT h ≤ hT h') (hk : hC h' ep' = 14 ∨ D' ep') (he : ep' = ep ∨ (¬ D ep' ∧ hC h' ep' = 7)) (hDD : ∀ a, D a → D' a) (hp : D' p) (hpn : ¬ D p)
    (hf : hC h' p = 22 ∧ (∀ a, a < 8 → hF h' (768 + a) p = .int (P.1 a)) ∧ hF h' 776 p = .int (nI 0) ∧ hF h' 777 p = .int (nI 0) ∧ hF h' 778 p = .int (un E.1.length)) :
    EdF h' ed lp lw lv ls ep' ew ev es (fun i => if i = E.1.length then p else pa i) wa va sa (E.1 ++ [P], E.2.1, E.2.2) un ∧ EdO h' D' ed lp lw lv ls ep' ew ev es (fun i => if i = E.1.length then p else pa i) wa va sa (E.1 ++ [P], E.2.1, E.2.2) := by
  obtain ⟨⟨e0, e1, e2, e3, e4⟩, ⟨l1, l2, l3, l4⟩, hP, hW, hV, hS⟩ := X
  obtain ⟨⟨o0, o1, o2, o3, o4⟩, p1, p2, p3, p4, q1, q2, q3, q4, ⟨d1, d2, d3, d4, d5, d6⟩, g2, g3, g4, g5, g6⟩ := O
  have hlen : (E.1 ++ [P]).length = E.1.length + 1 := by rw [List.length_append]; rfl
  have hsts : sts (E.1 ++ [P]) = sts E.1 := by rw [sts_new, hP2]; exact List.append_nil _
  have kep := l1.ke
  -- cells of other kinds stay
  have sk : ∀ a k, D a → hC h a = k → k ≠ 26 → k ≠ 7 → k ≠ 14 → samA h h' a := fun a k ha hk h1 h2 h3 => hs a ha (kne hk l1.1 h1) (Or.inl (Ne.symm (kne2 kep hk h3 h2)))
  have sL : ∀ {a e n f}, D a → a ≠ lp → (hC h e = 14 ∨ D e) → (hC h e = 7 → e ≠ ep) → (∀ i, i < n → D (f i) ∧ 16 ≤ hC h (f i) ∧ hC h (f i) < 26) → Lst h a e n f → Lst h' a e n f ∧ hC h' e = hC h e := by
    intro a e n f ha hal hel hee hff l
    have s2 : samA h h' e := by
      rcases l.2.2.2.2.2.2.2.1 with ⟨y1, y2, _⟩ | ⟨y1, _⟩
      · rw [y1]; exact sz
      · exact hs e (hel.resolve_left (by rw [y1]; decide)) (fun z => by rw [z, l1.1] at y1; cases y1) (Or.inl (hee y1))
    refine ⟨l.same (hs a ha hal ?_) s2 (fun i hi => ?_) hz ht, s2.1⟩
    · exact Or.inl (Ne.symm (kne2 kep l.1 (by decide) (by decide)))
    · obtain ⟨z1, z2, z3⟩ := hff i hi
      exact (sk _ _ z1 rfl (by omega) (by omega) (by omega)).1
  have fk : ∀ {a e n f}, Lst h a e n f → ∀ i, i < n → 16 ≤ hC h (f i) ∧ hC h (f i) < 26 := fun l i hi => ⟨(l.2.2.2.2.2.2.2.2 i hi).2.1, (l.2.2.2.2.2.2.2.2 i hi).2.2.1⟩
  obtain ⟨m2, k2⟩ := sL o2 (Ne.symm d1) p2 (fun z => (g4 z).1) (fun i hi => ⟨q2 i hi, fk l2 i hi⟩) l2
  obtain ⟨m3, k3⟩ := sL o3 (Ne.symm d2) p3 (fun z => (g5 z).1) (fun i hi => ⟨q3 i hi, fk l3 i hi⟩) l3
  obtain ⟨m4, k4⟩ := sL o4 (Ne.symm d3) p4 (fun z => (g6 z).1) (fun i hi => ⟨q4 i hi, fk l4 i hi⟩) l4
  have se := sk ed 17 o0 e0 (by decide) (by decide) (by decide)
  have hin : ∀ i, i < E.1.length → pa i ≠ p := fun i hi z => hpn (by rw [← z]; exact q1 i hi)
  have hnew : ∀ b, (hC h b = 14 ∨ D b) → hC h' b = hC h b → hC h' ep' = 7 → ep' ≠ b ∨ ep' = ep := by
    intro b hb hbk h7
    rcases he with he | ⟨he, _⟩
    · exact Or.inr he
    · refine Or.inl (fun z => ?_)
      rcases hb with hb | hb
      · rw [z, hbk, hb] at h7; cases h7
      · exact he (by rw [z]; exact hb)
  refine ⟨⟨⟨se.1.trans e0, (se.2.2.1 _).trans e1, (se.2.2.1 _).trans e2, (se.2.2.1 _).trans e3, (se.2.2.1 _).trans e4⟩, ⟨by rw [hlen]; exact L, m2, m3, by rw [hsts]; exact m4⟩, fun k hk => ?_, fun i hi => (hW i hi).same (sk _ 21 (q2 i hi) (hW i hi).1 (by decide) (by decide) (by decide)), fun i hi => (hV i hi).same (sk _ 21 (q3 i hi) (hV i hi).1 (by decide) (by decide) (by decide)), ?_⟩, ⟨hDD _ o0, hDD _ o1, hDD _ o2, hDD _ o3, hDD _ o4⟩, hk, ?_, ?_, ?_, fun k hk => ?_, fun i hi => hDD _ (q2 i hi), fun i hi => hDD _ (q3 i hi), ?_, ⟨d1, d2, d3, d4, d5, d6⟩, fun i j hi hj z => ?_, ?_, ?_, ?_, ?_⟩
  · have hk : k < (E.1 ++ [P]).length := hk
    dsimp only
    by_cases q : k = E.1.length
    · subst q
      rw [if_pos rfl]
      refine ⟨hf.1, fun a ha => by rw [hf.2.1 a ha]; exact congrArg Value.int (atP_new a).symm, ?_, ?_, hf.2.2.2.2⟩
      · rw [linE_new hWd, hP2]; exact hf.2.2.1
      · rw [hf.2.2.2.1, pit_n (fun z => ?_)]
        rcases (lnkE_pl (fun _ => hP2)).mp z with z | z
        · exact lnk_out hWd (Nat.le_refl _) z
        · rw [hP2] at z; exact absurd z List.not_mem_nil
    · rw [if_neg q]
      have hk' : k < E.1.length := by omega
      have y := (hP k hk').same (sk _ 22 (q1 k hk') (hP k hk').1 (by decide) (by decide) (by decide))
      refine ⟨y.1, fun a ha => by rw [y.2.1 a ha]; exact congrArg Value.int (atP_old hk' a).symm, ?_, ?_, y.2.2.2.2⟩
      · rw [linE_pl hWd hk']; exact y.2.2.1
      · rw [y.2.2.2.1]
        refine congrArg Value.int (pit_c ⟨fun z => (lnkE_pl (fun _ => hP2)).mpr (Or.inl z), fun z => ?_⟩)
        rcases (lnkE_pl (fun _ => hP2)).mp z with z | z
        · exact z
        · rw [hP2] at z; exact absurd z List.not_mem_nil
  · dsimp only
    rw [hsts]
    exact fun i hi => (hS i hi).same (sk _ 21 (q4 i hi) (hS i hi).1 (by decide) (by decide) (by decide))
  · rw [k2]; exact p2.imp id (hDD _)
  · rw [k3]; exact p3.imp id (hDD _)
  · rw [k4]; exact p4.imp id (hDD _)
  · have hk : k < (E.1 ++ [P]).length := hk
    dsimp only
    by_cases q : k = E.1.length
    · rw [if_pos q]; exact hp
    · rw [if_neg q]; exact hDD _ (q1 k (by omega))
  · dsimp only
    rw [hsts]
    exact fun i hi => hDD _ (q4 i hi)
  · have hi : i < (E.1 ++ [P]).length := hi
    have hj : j < (E.1 ++ [P]).length := hj
    dsimp only at z
    by_cases y1 : i = E.1.length <;> by_cases y2 : j = E.1.length
    · omega
    · rw [if_pos y1, if_neg y2] at z
      exact absurd z.symm (hin j (by omega))
    · rw [if_neg y1, if_pos y2] at z
      exact absurd z (hin i (by omega))
    · rw [if_neg y1, if_neg y2] at z
      exact g2 i j (by omega) (by omega) z
  · intro h7
    have a1 := hnew ew p2 k2 h7
    have a2 := hnew ev p3 k3 h7
    have a3 := hnew es p4 k4 h7
    have b0 : ep' = ep → ep ≠ ew ∧ ep ≠ ev ∧ ep ≠ es := fun z => g3 (by
      rcases kep with k | k
      · exfalso
        have zz : ep = hZ h := by
          rcases l1.2.2.2.2.2.2.2.1 with ⟨w, _⟩ | ⟨w, _⟩
          · exact w
          · rw [k] at w; cases w
        rw [z, zz, sz.1, ← zz, k] at h7; cases h7
      · exact k)
    exact ⟨a1.elim id (fun z => by rw [z]; exact (b0 z).1), a2.elim id (fun z => by rw [z]; exact (b0 z).2.1), a3.elim id (fun z => by rw [z]; exact (b0 z).2.2)⟩
  · intro h7
    rw [k2] at h7
    have y := g4 h7
    refine ⟨?_, y.2⟩
    rcases he with he | ⟨he, _⟩
    · rw [he]; exact y.1
    · exact fun z => he (by rw [← z]; exact p2.resolve_left (by rw [h7]; decide))
  · intro h7
    rw [k3] at h7
    have y := g5 h7
    refine ⟨?_, y.2⟩
    rcases he with he | ⟨he, _⟩
    · rw [he]; exact y.1
    · exact fun z => he (by rw [← z]; exact p3.resolve_left (by rw [h7]; decide))
  · intro h7
    rw [k4] at h7
    have y := g6 h7
    refine ⟨?_, y.2⟩
    rcases he with he | ⟨he, _⟩
    · rw [he]; exact y.1
    · exact fun z => he (by rw [← z]; exact p4.resolve_left (by rw [h7]; decide))
