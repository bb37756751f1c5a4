/-! WHILE A TEXT IS READ: the reader, its list of stops, and the edition in the making -/
def dR (h0 h : sm_H) (r sp esp a : Nat) : Prop := hT h0 ≤ a ∧ a < hT h ∧ a ≠ r ∧ a ≠ sp ∧ a ≠ esp
def RS (h0 h : sm_H) (r sg sp ed len : Nat) (tx : Nat → Int32) (E : Ed) (s : Nat × Int32) (dT dU : Nat) : Prop :=
  RB h r sg sp ed len tx ∧ RDW h h r len s ∧ Fr h0 h (fun _ => False) dT dU ∧ (hT h0 ≤ r ∧ r < hT h ∧ hT h0 ≤ sp ∧ sp < hT h ∧ sg < hT h0) ∧ (hC h0 (hZ h0) = 14 ∧ hZ h0 < hT h0) ∧ ∃ esp sn sf lp ep pa bt, (Lst h sp esp sn sf ∧ (esp = hZ h ∨ hT h0 ≤ esp)) ∧ EdF h ed lp ep pa bt E (fun _ => nI 0) ∧ EdO h (dR h0 h r sp esp) ed lp ep pa E
theorem RB.same {h h' : sm_H} {r sg sp ed len : Nat} {tx : Nat → Int32} (B : RB h r sg sp ed len tx) (k : hC h' r = 24) (f : ∀ g, g ≠ 1028 → g ≠ 1029 → hF h' g r = hF h g r) (s1 : samA h h' sg) (s2 : hC h' sp = 26) : RB h' r sg sp ed len tx := by
  obtain ⟨b0, b1, b2, b3, b4, b5, b6, b7, b8, b9, b10⟩ := B
  exact ⟨k, (f _ (by decide) (by decide)).trans b1, (f _ (by decide) (by decide)).trans b2, (f _ (by decide) (by decide)).trans b3, (f _ (by decide) (by decide)).trans b4, s1.1.trans b5, s1.2.1.trans b6, fun i hi => (s1.2.2.2 i).trans (b7 i hi), s2, trivial, b10⟩
theorem RDW.self {h h1 : sm_H} {r len : Nat} {s : Nat × Int32} (w : RDW h h1 r len s) : RDW h1 h1 r len s := ⟨rfl, rfl, rfl, fun a _ => samA.refl h1 a, w.2.2.2.2.1, fun _ _ _ => rfl, w.2.2.2.2.2.2.1, w.2.2.2.2.2.2.2.1, w.2.2.2.2.2.2.2.2⟩
/-- a list stays as it is where its cells and the kinds stay -/
theorem Lst.kp {h h' : sm_H} {a e n : Nat} {f : Nat → Nat} (l : Lst h a e n f) (s1 : samA h h' a) (s2 : samA h h' e) (k : ∀ b, b < hT h → 16 ≤ hC h b → hC h b < 26 → hC h' b = hC h b) (hz : hZ h' = hZ h) (ht : hT h ≤ hT h') : Lst h' a e n f :=
  l.same s1 s2 (fun i hi => k _ (l.2.2.2.2.2.2.2.2 i hi).2.2.2 (l.2.2.2.2.2.2.2.2 i hi).2.1 (l.2.2.2.2.2.2.2.2 i hi).2.2.1) hz ht
theorem RS.le {h0 h : sm_H} {r sg sp ed len : Nat} {tx : Nat → Int32} {E : Ed} {s : Nat × Int32} {a b c d : Nat} (R : RS h0 h r sg sp ed len tx E s a b) (h1 : a ≤ c) (h2 : b ≤ d) : RS h0 h r sg sp ed len tx E s c d := ⟨R.1, R.2.1, R.2.2.1.mono (fun _ _ q => q) h1 h2, R.2.2.2⟩
/-- cells are made, the reader's own two fields change, nothing else -/
theorem RS.fr {h0 h h5 : sm_H} {r sg sp ed len : Nat} {tx : Nat → Int32} {E : Ed} {s s5 : Nat × Int32} {dT dU a b : Nat} (R : RS h0 h r sg sp ed len tx E s dT dU) (f5 : Fr h h5 (fun c => c = r) a b) (w5 : RDW h5 h5 r len s5) (ro : ∀ g, g ≠ 1028 → g ≠ 1029 → hF h5 g r = hF h g r) : RS h0 h5 r sg sp ed len tx E s5 (dT + a) (dU + b) := by
  obtain ⟨B, w, f, ⟨r1, r2, r3, r4, r5⟩, ⟨z1, z2⟩, esp, sn, sf, lp, ep, pa, bt, ⟨SL, SE⟩, X, O⟩ := R
  have hT0 := f.1
  have hT5 := f5.1
  have hzr : hZ h ≠ r := by have := f.2.2.2.2.1; omega
  have hzl : hZ h < hT h := by have := f.2.2.2.2.1; omega
  have sgr : sg ≠ r := kne B.2.2.2.2.2.1 B.1 (by decide)
  have spr : sp ≠ r := kne B.2.2.2.2.2.2.2.2.1 B.1 (by decide)
  have esr : esp ≠ r := kne2 SL.ke B.1 (by decide) (by decide)
  have s' := f5.2.2.2.2.2
  have x := EdFO.same X O (fun b hb => s' b hb.2.1 hb.2.2.1) (s' _ hzl hzr) f5.2.2.2.2.1 f5.1
  have ss := s' sg (by omega) sgr
  have sq := s' sp r4 spr
  have k : ∀ b, b < hT h → hC h5 b = hC h b := fun b hb => by
    by_cases q : b = r
    · rw [q, w5.2.2.2.2.1, B.1]
    · exact (s' b hb q).1
  refine ⟨B.same w5.2.2.2.2.1 ro ss (sq.1.trans B.2.2.2.2.2.2.2.2.1), w5, f.trans f5 (fun _ _ q => q) (fun c hc q => by rw [q] at hc; omega) (Nat.le_refl _) (Nat.le_refl _), ⟨r1, by omega, r3, by omega, r5⟩, ⟨z1, z2⟩, esp, sn, sf, lp, ep, pa, bt, ⟨SL.kp sq (s' esp SL.2.2.2.2.2.2.1 esr) (fun b hb _ _ => k b hb) f5.2.2.2.2.1 f5.1, by rw [f5.2.2.2.2.1]; exact SE⟩, x.1, x.2.mono (fun a ha => ⟨ha.1, by have := ha.2.1; omega, ha.2.2⟩)⟩
theorem RS.rd {h0 h h1 : sm_H} {r sg sp ed len : Nat} {tx : Nat → Int32} {E : Ed} {s s' : Nat × Int32} {dT dU : Nat} (R : RS h0 h r sg sp ed len tx E s dT dU) (w : RDW h h1 r len s') : RS h0 h1 r sg sp ed len tx E s' dT dU :=
  R.fr (a := 0) (b := 0) ⟨by rw [w.1]; exact Nat.le_refl _, by rw [w.1]; exact Nat.le_refl _, by rw [w.2.1]; exact Nat.le_refl _, by rw [w.2.1]; exact Nat.le_refl _, w.2.2.1, fun a _ ha => w.2.2.2.1 a ha⟩ w.self w.2.2.2.2.2.1
/-- a place is added -/
theorem c_addP {h0 h h3 : sm_H} {Q : Nat → Option Value → sm_H → Prop} {r sg sp ed len : Nat} {tx : Nat → Int32} {E : Ed} {s s3 : Nat × Int32} {dT dU a b : Nat} (R : RS h0 h r sg sp ed len tx E s dT dU) (hWd : EdW E) {esp sn lp ep : Nat} {sf pa : Nat → Nat} {bt : Nat → Nat → Nat} (SL : Lst h sp esp sn sf ∧ (esp = hZ h ∨ hT h0 ≤ esp)) (X : EdF h ed lp ep pa bt E (fun _ => nI 0)) (O : EdO h (dR h0 h r sp esp) ed lp ep pa E) (f3 : Fr h h3 (fun c => c = r) a b) (w3 : RDW h3 h3 r len s3) (ro : ∀ g, g ≠ 1028 → g ≠ 1029 → hF h3 g r = hF h g r) {p : Nat} {P : Pl} (hP2 : P.2 = []) (hb7 : P.1 7 = -1 ∨ ∃ r, P.1 7 = nI r ∧ r < E.1.length) (hn : E.1.length < 2 ^ 13) (p1 : hT h ≤ p) (p2 : p < hT h3)
    (hf : PF h3 p pa E.1.length P.1) (K : ∀ h4 e', RS h0 h4 r sg sp ed len tx (E.1 ++ [P], E.2.1, E.2.2) s3 (dT + a + 1) (dU + b + (2 * E.1.length + 14)) → (Lst h4 sp esp sn sf ∧ (esp = hZ h4 ∨ hT h0 ≤ esp)) → EdF h4 ed lp e' (fun i => if i = E.1.length then p else pa i) (fun c x => if x = E.1.length then 0 else bt c x) (E.1 ++ [P], E.2.1, E.2.2) (fun _ => nI 0) → EdO h4 (dR h0 h4 r sp esp) ed lp e' (fun i => if i = E.1.length then p else pa i) (E.1 ++ [P], E.2.1, E.2.2) → Q 0 (some (.int (nI 1))) h4) : sm_wp 145 0 [.ref lp, .ref p] [] h3 Q := by
  obtain ⟨B, _, f, ⟨r1, r2, r3, r4, r5⟩, ⟨z1, z2⟩, _⟩ := R
  obtain ⟨SL, SE⟩ := SL
  have hzh : hZ h = hZ h0 := f.2.2.2.2.1
  have zlt : hZ h < hT h := by have := f.1; omega
  have zk : hC h (hZ h) = 14 := by rw [hzh]; exact ((f.2.2.2.2.2 _ z2 id).1).trans z1
  have hzr : hZ h ≠ r := by omega
  have sgr : sg ≠ r := kne B.2.2.2.2.2.1 B.1 (by decide)
  have spr : sp ≠ r := kne B.2.2.2.2.2.2.2.2.1 B.1 (by decide)
  have esr : esp ≠ r := kne2 SL.ke B.1 (by decide) (by decide)
  have hT3 := f3.1
  have s3' : ∀ a, a < hT h → a ≠ r → samA h h3 a := f3.2.2.2.2.2
  have sz3 := s3' _ zlt hzr
  have z3 : hZ h3 = hZ h := f3.2.2.2.2.1
  obtain ⟨X3, O3⟩ := EdFO.same X O (fun b hb => s3' b hb.2.1 hb.2.2.1) sz3 z3 hT3
  have l1 := X3.2.1
  have k3 : ∀ b, b < hT h → hC h3 b = hC h b := fun b hb => by
    by_cases q : b = r
    · rw [q, w3.2.2.2.2.1, B.1]
    · exact (s3' b hb q).1
  have B3 : RB h3 r sg sp ed len tx := B.same w3.2.2.2.2.1 ro (s3' _ (by have := f.1; omega) sgr) ((s3' _ r4 spr).1.trans B.2.2.2.2.2.2.2.2.1)
  have SL3 : Lst h3 sp esp sn sf := SL.kp (s3' _ r4 spr) (s3' _ SL.2.2.2.2.2.2.1 esr) (fun b hb _ _ => k3 b hb) z3 hT3
  refine c_add l1 (by omega) (by rw [hf.1]; decide) (by rw [hf.1]; decide) p2 (fun h4 e' L w4 f4 => ?_)
  have zk3 : hC h3 (hZ h3) = 14 := by rw [z3]; exact sz3.1.trans zk
  have hT4 := f4.1
  have s4 : ∀ a, a < hT h3 → a ≠ lp → (a ≠ ep ∨ hC h3 ep = 14) → samA h3 h4 a := fun a ha h1 h2 => f4.2.2.2.2.2 a ha (fun q => q.elim h1 (fun q => h2.elim (fun z => z q.1) (fun z => by rw [q.2] at z; cases z)))
  have sk : ∀ a k, a < hT h3 → hC h3 a = k → k ≠ 26 → k ≠ 7 → k ≠ 14 → samA h3 h4 a := fun a k ha hk h1 h2 h3 => s4 a ha (kne hk l1.1 h1) (Or.inl (Ne.symm (kne2 l1.ke hk h3 h2)))
  have sz4 : samA h3 h4 (hZ h3) := s4 _ (by omega) (kne zk3 l1.1 (by decide)) (by
    by_cases q : hZ h3 = ep
    · right; rw [← q]; exact zk3
    · exact Or.inl q)
  have e7 : hT h3 ≤ e' → hC h4 e' = 7 := fun q => by
    rcases L.2.2.2.2.2.2.2.1 with ⟨y, _⟩ | ⟨y, _⟩
    · have := f4.2.2.2.2.1; omega
    · exact y
  have epD : hC h3 ep = 7 → dR h0 h r sp esp ep := fun q => O3.2.1.resolve_left (by rw [q]; decide)
  have esT : esp < hT h := SL.2.2.2.2.2.2.1
  have ses : samA h3 h4 esp := by
    rcases SL3.2.2.2.2.2.2.2.1 with ⟨y, _⟩ | ⟨y, _⟩
    · rw [y]; exact sz4
    · exact s4 esp (by omega) (kne y l1.1 (by decide)) (l1.ke.elim Or.inr (fun q => Or.inl (fun z => (epD q).2.2.2.2 z.symm)))
  have ssp := s4 sp (by omega) (fun z => O.1.2.2.2.2.1 z.symm) (Or.inl (Ne.symm (kne2 l1.ke B3.2.2.2.2.2.2.2.2.1 (by decide) (by decide))))
  have SL4 : Lst h4 sp esp sn sf := SL3.kp ssp ses (fun b hb h1 h2 => (sk b _ hb rfl (by omega) (by omega) (by omega)).1) f4.2.2.2.2.1 hT4
  have SE4 : esp = hZ h4 ∨ hT h0 ≤ esp := by rw [f4.2.2.2.2.1, z3]; exact SE
  have r24 : hC h3 r = 24 := B3.1
  have sr := sk r 24 (by omega) r24 (by decide) (by decide) (by decide)
  have x := EdF.push X3 O3 (D' := dR h0 h4 r sp esp) hWd hP2 hb7 L (fun a ha h1 h2 => s4 a (by have := ha.2.1; omega) h1 h2) (by
      rcases w4 with ⟨y1, y2⟩ | y1
      · right
        rw [y1]
        have := epD y2
        exact ⟨this.1, by have := this.2.1; omega, this.2.2⟩
      · right
        have := L.2.2.2.2.2.2.1
        have := f.1
        exact ⟨by omega, by omega, by omega, by omega, by omega⟩) (fun a ha => ⟨ha.1, by have := ha.2.1; omega, ha.2.2⟩) ⟨by have := f.1; omega, by omega, by omega, by omega, by omega⟩ (fun z => by have := z.2.1; omega) rfl (hf.same (sk p 22 p2 hf.1 (by decide) (by decide) (by decide)))
  have ssg := sk sg 3 (by have := f.1; omega) B3.2.2.2.2.2.1 (by decide) (by decide) (by decide)
  refine K h4 e' ⟨B3.same (sr.1.trans r24) (fun g _ _ => sr.2.2.1 g) ssg (ssp.1.trans B3.2.2.2.2.2.2.2.2.1), ⟨rfl, rfl, rfl, fun a _ => samA.refl h4 a, sr.1.trans r24, fun _ _ _ => rfl, (sr.2.2.1 _).trans w3.2.2.2.2.2.2.1, (sr.2.2.1 _).trans w3.2.2.2.2.2.2.2.1, w3.2.2.2.2.2.2.2.2⟩, ?_, ⟨r1, by omega, r3, by omega, r5⟩, ⟨z1, z2⟩, _, _, _, _, _, _, _, ⟨SL4, SE4⟩, x⟩ ⟨SL4, SE4⟩ x.1 x.2
  refine (f.trans f3 (Z := fun _ => False) (fun _ _ q => q) (fun c hc q => by rw [q] at hc; omega) (Nat.le_refl _) (Nat.le_refl _)).trans f4 (fun _ _ q => q) (fun c hc q => ?_) (Nat.le_refl _) (Nat.le_refl _)
  rcases q with q | ⟨q, q7⟩
  · have := O.1.2.1; omega
  · have := (epD q7).1; omega
