/-! AN EDITION GROWS in the heap -/
theorem onB_pl {E : Ed} {P : Pl} {x y : Nat} (hs : P.1 1 ≠ nI 6 → P.2 = []) : onB (E.1 ++ [P], E.2.1, E.2.2) x y ↔ onB E x y ∨ (x ∈ P.2 ∧ y ∈ P.2) := by
  constructor
  · rintro (h | h | ⟨j, h1, h2, h3⟩)
    · exact Or.inl (Or.inl h)
    · exact Or.inl (Or.inr (Or.inl h))
    · dsimp only at h1 h2 h3
      have hj := stP_lt h2
      rw [List.length_append] at hj
      by_cases e : j < E.1.length
      · rw [atP_old e] at h1
        rw [stP_old e] at h2 h3
        exact Or.inl (Or.inr (Or.inr ⟨j, h1, h2, h3⟩))
      · have hj : j < E.1.length + 1 := hj
        have e' : j = E.1.length := by omega
        subst e'
        rw [stP_new] at h2 h3
        exact Or.inr ⟨h2, h3⟩
  · rintro ((h | h | ⟨j, h1, h2, h3⟩) | ⟨h1, h2⟩)
    · exact Or.inl h
    · exact Or.inr (Or.inl h)
    · have hj := stP_lt h2
      exact Or.inr (Or.inr ⟨j, by dsimp only; rw [atP_old hj]; exact h1, by dsimp only; rw [stP_old hj]; exact h2, by dsimp only; rw [stP_old hj]; exact h3⟩)
    · refine Or.inr (Or.inr ⟨E.1.length, ?_, by dsimp only; rw [stP_new]; exact h1, by dsimp only; rw [stP_new]; exact h2⟩)
      dsimp only
      rw [atP_new]
      apply Classical.byContradiction
      intro q
      rw [hs q] at h1
      exact absurd h1 List.not_mem_nil
theorem stpE_pl {E : Ed} {P : Pl} {k : Nat} : stpE (E.1 ++ [P], E.2.1, E.2.2) k ↔ stpE E k ∨ k ∈ P.2 := by
  constructor
  · rintro ⟨j, h⟩
    dsimp only at h
    have hj := stP_lt h
    rw [List.length_append] at hj
    by_cases e : j < E.1.length
    · rw [stP_old e] at h
      exact Or.inl ⟨j, h⟩
    · have hj : j < E.1.length + 1 := hj
      have e' : j = E.1.length := by omega
      subst e'
      rw [stP_new] at h
      exact Or.inr h
  · rintro (⟨j, h⟩ | h)
    · exact ⟨j, by dsimp only; rw [stP_old (stP_lt h)]; exact h⟩
    · exact ⟨E.1.length, by dsimp only; rw [stP_new]; exact h⟩
theorem stp_out {E : Ed} (hWd : EdW E) {k : Nat} (hk : E.1.length ≤ k) : ¬ stpE E k := by
  rintro ⟨j, h⟩
  obtain ⟨i, q1, q2⟩ := s_ex h
  have := (hWd.st6 (stP_lt h) q1).2
  omega
theorem lnk_out {E : Ed} (hWd : EdW E) {k : Nat} (hk : E.1.length ≤ k) : ¬ lnkE E k := by
  rintro (⟨i, h1, h2⟩ | ⟨j, h1, h2⟩)
  · have := hWd.2.2.1 _ _ _ (w_mem h1)
    rcases h2 with h2 | h2 <;> omega
  · obtain ⟨i, q1, q2⟩ := s_ex h2
    have := (hWd.st6 (stP_lt h2) q1).2
    omega
/-- a new place, not yet in any list -/
def PF (h : sm_H) (p : Nat) (pa : Nat → Nat) (n : Nat) (f : Nat → Int32) : Prop := hC h p = 22 ∧ (∀ a, a < 7 → hF h (768 + a) p = .int (f a)) ∧ hF h 775 p = uV pa (f 7) ∧ hF h 776 p = .int (nI 0) ∧ hF h 777 p = .int (nI 0) ∧ hF h 778 p = .int (nI 0) ∧ hF h 779 p = .int (nI n) ∧ hF h 780 p = .long (lN 0) ∧ hF h 781 p = .long (lN 0) ∧ hF h 782 p = .long (lN 0) ∧ hF h 783 p = .int (nI 0)
theorem PF.same {h h' : sm_H} {p n : Nat} {pa : Nat → Nat} {f : Nat → Int32} (x : PF h p pa n f) (s : samA h h' p) : PF h' p pa n f := by
  obtain ⟨x0, x1, x2, x3, x4, x5, x6, x7, x8, x9, x10⟩ := x
  exact ⟨s.1.trans x0, fun a ha => (s.2.2.1 _).trans (x1 a ha), (s.2.2.1 _).trans x2, (s.2.2.1 _).trans x3, (s.2.2.1 _).trans x4, (s.2.2.1 _).trans x5, (s.2.2.1 _).trans x6, (s.2.2.1 _).trans x7, (s.2.2.1 _).trans x8, (s.2.2.1 _).trans x9, (s.2.2.1 _).trans x10⟩
theorem BtW.push {E : Ed} {bt : Nat → Nat → Nat} (B : BtW E bt) (hWd : EdW E) {P : Pl} (hP2 : P.2 = []) : BtW (E.1 ++ [P], E.2.1, E.2.2) (fun c x => if x = E.1.length then 0 else bt c x) := by
  refine ⟨fun c x => ?_, fun hl => ?_⟩
  · dsimp only
    split
    · exact Nat.pow_pos (by decide)
    · exact B.1 c x
  · have hl' : E.1.length ≤ 64 := by
      have h1 : (E.1 ++ [P]).length ≤ 64 := hl
      rw [List.length_append] at h1
      have h1 : E.1.length + 1 ≤ 64 := h1
      omega
    obtain ⟨g1, g2, g3⟩ := B.2 hl'
    have o0 : ∀ x y, onB (E.1 ++ [P], E.2.1, E.2.2) x y ↔ onB E x y := fun x y => (onB_pl (fun _ => hP2)).trans ⟨fun q => q.elim id (fun q => by rw [hP2] at q; exact absurd q.1 List.not_mem_nil), Or.inl⟩
    refine ⟨fun x y => ?_, fun x y => ?_, fun x y => ?_⟩
    · rw [o0]
      dsimp only
      by_cases q : x = E.1.length
      · rw [if_pos q, Nat.zero_testBit]
        exact ⟨fun z => (by cases z), fun z => by have := (onB_lt hWd z).1; omega⟩
      · rw [if_neg q]; exact g1 x y
    · rw [o0]
      dsimp only
      by_cases q : x = E.1.length
      · rw [if_pos q, Nat.zero_testBit]
        exact ⟨fun z => (by cases z), fun z => by have := (onB_lt hWd z).2; omega⟩
      · rw [if_neg q]; exact g2 x y
    · dsimp only
      by_cases q : x = E.1.length
      · rw [if_pos q, Nat.zero_testBit]
        exact ⟨fun z => (by cases z), fun z => by have := (hWd.2.2.2 _ _ z).1; omega⟩
      · rw [if_neg q]; exact g3 x y
theorem EdF.push {h h' : sm_H} {D D' : Nat → Prop} {ed lp ep : Nat} {pa : Nat → Nat} {bt : Nat → Nat → Nat} {E : Ed} {un : Nat → Int32} (X : EdF h ed lp ep pa bt E un) (O : EdO h D ed lp ep pa E) (hWd : EdW E) {p ep' : Nat} {P : Pl} (hP2 : P.2 = []) (hb7 : P.1 7 = -1 ∨ ∃ r, P.1 7 = nI r ∧ r < E.1.length)
    (L : Lst h' lp ep' (E.1.length + 1) (fun i => if i = E.1.length then p else pa i)) (hs : ∀ a, D a → a ≠ lp → (a ≠ ep ∨ hC h ep = 14) → samA h h' a) (hk : hC h' ep' = 14 ∨ D' ep') (hDD : ∀ a, D a → D' a) (hp : D' p) (hpn : ¬ D p) (hun : un E.1.length = nI 0) (hf : PF h' p pa E.1.length P.1) :
    EdF h' ed lp ep' (fun i => if i = E.1.length then p else pa i) (fun c x => if x = E.1.length then 0 else bt c x) (E.1 ++ [P], E.2.1, E.2.2) un ∧ EdO h' D' ed lp ep' (fun i => if i = E.1.length then p else pa i) (E.1 ++ [P], E.2.1, E.2.2) := by
  obtain ⟨⟨e0, e1, e2, e3⟩, l1, hP, hB⟩ := X
  obtain ⟨⟨o0, o1⟩, p1, q1, g2⟩ := O
  have hlen : (E.1 ++ [P]).length = E.1.length + 1 := by rw [List.length_append]; rfl
  have hn16 := l1.2.2.2.2.1
  have kep := l1.ke
  have sk : ∀ a k, D a → hC h a = k → k ≠ 26 → k ≠ 7 → k ≠ 14 → samA h h' a := fun a k ha hk h1 h2 h3 => hs a ha (kne hk l1.1 h1) (Or.inl (Ne.symm (kne2 kep hk h3 h2)))
  have se := sk ed 17 o0 e0 (by decide) (by decide) (by decide)
  have hin : ∀ i, i < E.1.length → pa i ≠ p := fun i hi z => hpn (by rw [← z]; exact q1 i hi)
  refine ⟨⟨⟨se.1.trans e0, (se.2.2.1 _).trans e1, (se.2.2.1 _).trans e2, (se.2.2.1 _).trans e3⟩, by rw [hlen]; exact L, fun k hk => ?_, hB.push hWd hP2⟩, ⟨hDD _ o0, hDD _ o1⟩, hk, fun k hk => ?_, fun i j hi hj z => ?_⟩
  · have hk : k < (E.1 ++ [P]).length := hk
    unfold PlR
    dsimp only
    by_cases q : k = E.1.length
    · subst q
      rw [if_pos rfl, if_pos rfl, if_pos rfl, if_pos rfl]
      obtain ⟨f0, f1, f2, f3, f4, f5, f6, f7, f8, f9, f10⟩ := hf
      refine ⟨f0, fun a ha => by rw [f1 a ha]; exact congrArg Value.int (atP_new a).symm, ?_, ?_, ?_, by rw [hun]; exact f5, f6, f7, f8, f9, ?_⟩
      · rw [f2]
        unfold bsV rO
        rw [atP_new]
        rcases hb7 with b | ⟨r, b, hr⟩
        · rw [b, if_pos rfl]; exact uV_n
        · rw [b, if_neg (nI_nm1 (by omega)), uV_y (by omega), nI_clamp (by omega)]
          exact congrArg Value.ref (if_neg (by omega)).symm
      · rw [linE_new hWd, hP2]; exact f3
      · rw [f4, pit_n (fun z => ?_)]
        rcases (lnkE_pl (fun _ => hP2)).mp z with z | z
        · exact lnk_out hWd (Nat.le_refl _) z
        · rw [hP2] at z; exact absurd z List.not_mem_nil
      · rw [f10, pit_n (fun z => ?_)]
        rcases stpE_pl.mp z with z | z
        · exact stp_out hWd (Nat.le_refl _) z
        · rw [hP2] at z; exact absurd z List.not_mem_nil
    · rw [if_neg q, if_neg q, if_neg q, if_neg q]
      have hk' : k < E.1.length := by omega
      obtain ⟨y0, y1, y2, y3, y4, y5, y6, y7, y8, y9, y10⟩ := (hP k hk').same (sk _ 22 (q1 k hk') (hP k hk').1 (by decide) (by decide) (by decide))
      refine ⟨y0, fun a ha => by rw [y1 a ha]; exact congrArg Value.int (atP_old hk' a).symm, ?_, ?_, ?_, y5, y6, y7, y8, y9, ?_⟩
      · rw [y2]
        unfold bsV rO
        rw [atP_old hk']
        rcases hWd.bs hk' with b | ⟨r, b, hr⟩
        · rw [b, if_pos rfl, if_pos rfl]
        · rw [b, if_neg (nI_nm1 (by omega)), if_neg (nI_nm1 (by omega)), nI_clamp (by omega)]
          exact congrArg Value.ref (if_neg (by omega)).symm
      · rw [linE_pl hWd hk']; exact y3
      · rw [y4]
        refine congrArg Value.int (pit_c ⟨fun z => (lnkE_pl (fun _ => hP2)).mpr (Or.inl z), fun z => ?_⟩)
        rcases (lnkE_pl (fun _ => hP2)).mp z with z | z
        · exact z
        · rw [hP2] at z; exact absurd z List.not_mem_nil
      · rw [y10]
        refine congrArg Value.int (pit_c ⟨fun z => stpE_pl.mpr (Or.inl z), fun z => ?_⟩)
        rcases stpE_pl.mp z with z | z
        · exact z
        · rw [hP2] at z; exact absurd z List.not_mem_nil
  · have hk : k < (E.1 ++ [P]).length := hk
    dsimp only
    by_cases q : k = E.1.length
    · rw [if_pos q]; exact hp
    · rw [if_neg q]; exact hDD _ (q1 k (by omega))
  · have hi : i < (E.1 ++ [P]).length := hi
    have hj : j < (E.1 ++ [P]).length := hj
    dsimp only at z
    by_cases y1 : i = E.1.length <;> by_cases y2 : j = E.1.length
    · omega
    · rw [if_pos y1, if_neg y2] at z
      exact absurd z.symm (hin j (by omega))
    · rw [if_neg y1, if_pos y2] at z
      exact absurd z (hin i (by omega))
    · rw [if_neg y1, if_neg y2] at z
      exact g2 i j (by omega) (by omega) z
