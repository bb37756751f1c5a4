/-! the class reads a lift -/
theorem RS.stp {h0 h h' : sm_H} {r sg sp ed len : Nat} {tx : Nat → Int32} {E : Ed} {s : Nat × Int32} {dT dU a b : Nat} (R : RS h0 h r sg sp ed len tx E s dT dU) {esp sn lp ep e' n' : Nat} {sf pa f9 : Nat → Nat} {bt : Nat → Nat → Nat} (SL : Lst h sp esp sn sf ∧ (esp = hZ h ∨ hT h0 ≤ esp)) (X : EdF h ed lp ep pa bt E (fun _ => nI 0)) (O : EdO h (dR h0 h r sp esp) ed lp ep pa E) (fr : Fr h h' (fun c => c = sp ∨ (c = esp ∧ hC h esp = 7)) a b) (L : Lst h' sp e' n' f9) (he : e' = esp ∨ hT h ≤ e') : RS h0 h' r sg sp ed len tx E s (dT + a) (dU + b) ∧ (Lst h' sp e' n' f9 ∧ (e' = hZ h' ∨ hT h0 ≤ e')) ∧ EdF h' ed lp ep pa bt E (fun _ => nI 0) ∧ EdO h' (dR h0 h' r sp e') ed lp ep pa E := by
  obtain ⟨B, w, f, ⟨r1, r2, r3, r4, r5⟩, ⟨z1, z2⟩, _⟩ := R
  obtain ⟨SL, SE⟩ := SL
  have hT0 := f.1
  have hT1 := fr.1
  have hzh : hZ h = hZ h0 := f.2.2.2.2.1
  have zk : hC h (hZ h) = 14 := by rw [hzh]; exact ((f.2.2.2.2.2 _ z2 id).1).trans z1
  have s' : ∀ c, c < hT h → c ≠ sp → (c ≠ esp ∨ hC h esp = 14) → samA h h' c := fun c hc h1 h2 => fr.2.2.2.2.2 c hc (fun q => q.elim h1 (fun q => h2.elim (fun z => z q.1) (fun z => by rw [q.2] at z; cases z)))
  have sk : ∀ c d, c < hT h → hC h c = d → d ≠ 26 → d ≠ 7 → d ≠ 14 → samA h h' c := fun c d hc hd h1 h2 h3 => s' c hc (kne hd SL.1 h1) (Or.inl (Ne.symm (kne2 SL.ke hd h3 h2)))
  have sz : samA h h' (hZ h) := s' _ (by omega) (kne zk SL.1 (by decide)) (by
    by_cases q : hZ h = esp
    · right; rw [← q]; exact zk
    · exact Or.inl q)
  have sr := sk r 24 r2 B.1 (by decide) (by decide) (by decide)
  have x := EdFO.same X O (fun b hb => s' b hb.2.1 hb.2.2.2.1 (Or.inl hb.2.2.2.2)) sz fr.2.2.2.2.1 hT1
  have x2 : EdO h' (dR h0 h' r sp e') ed lp ep pa E := x.2.mono (fun a ha => ⟨ha.1, by have := ha.2.1; omega, ha.2.2.1, ha.2.2.2.1, by
    rcases he with he | he
    · rw [he]; exact ha.2.2.2.2
    · have := ha.2.1; omega⟩)
  have SE' : e' = hZ h' ∨ hT h0 ≤ e' := by
    rcases he with he | he
    · rw [he, fr.2.2.2.2.1]; exact SE
    · exact Or.inr (by omega)
  refine ⟨⟨B.same (sr.1.trans B.1) (fun g _ _ => sr.2.2.1 g) (sk sg 3 (by omega) B.2.2.2.2.2.1 (by decide) (by decide) (by decide)) L.1, ⟨rfl, rfl, rfl, fun a _ => samA.refl h' a, sr.1.trans B.1, fun _ _ _ => rfl, (sr.2.2.1 _).trans w.2.2.2.2.2.2.1, (sr.2.2.1 _).trans w.2.2.2.2.2.2.2.1, w.2.2.2.2.2.2.2.2⟩, ?_, ⟨r1, by omega, r3, by omega, r5⟩, ⟨z1, z2⟩, _, _, _, _, _, _, _, ⟨L, SE'⟩, x.1, x2⟩, ⟨L, SE'⟩, x.1, x2⟩
  refine f.trans fr (fun _ _ q => q) (fun c hc q => ?_) (Nat.le_refl _) (Nat.le_refl _)
  rcases q with q | ⟨q, q7⟩
  · omega
  · rcases SE with z | z
    · rw [z, zk] at q7; cases q7
    · omega
theorem c_stop {h0 h : sm_H} {Q : Nat → Option Value → sm_H → Prop} {r sg sp ed len : Nat} {tx : Nat → Int32} {E : Ed} {s : Nat × Int32} {dT dU : Nat} (R : RS h0 h r sg sp ed len tx E s dT dU) {esp sn lp ep : Nat} {sf pa : Nat → Nat} {bt : Nat → Nat → Nat} (SL : Lst h sp esp sn sf ∧ (esp = hZ h ∨ hT h0 ≤ esp)) (X : EdF h ed lp ep pa bt E (fun _ => nI 0)) (O : EdO h (dR h0 h r sp esp) ed lp ep pa E) (hs : sn ≤ 3) {k : Nat} (hk : k < E.1.length) (K : ∀ h' e', RS h0 h' r sg sp ed len tx E s (dT + 1) (dU + 20) → (Lst h' sp e' (sn + 1) (fun i => if i = sn then pa k else sf i) ∧ (e' = hZ h' ∨ hT h0 ≤ e')) → EdF h' ed lp ep pa bt E (fun _ => nI 0) → EdO h' (dR h0 h' r sp e') ed lp ep pa E → Q 0 (some (.int (nI 1))) h') : sm_wp 145 0 [.ref sp, .ref (pa k)] [] h Q := by
  have kk := (X.2.2.1 k hk).1
  refine c_add SL.1 (by omega) (by rw [kk]; decide) (by rw [kk]; decide) (X.2.1.2.2.2.2.2.2.2.2 k hk).2.2.2 (fun h' e' L w fr => ?_)
  obtain ⟨a1, a2, a3, a4⟩ := R.stp SL X O fr L (w.elim (fun z => Or.inl z.1) (fun z => Or.inr (Nat.le_of_eq z.symm)))
  exact K h' e' (a1.le (by omega) (by omega)) a2 a3 a4
theorem usC_no {tx : Nat → Int32} {len : Nat} {nm kd : Nat → Int32} {n : Nat} {c bar : Int32} {s : Nat × Int32} (hn : n < 2 ^ 31) (hs : s.1 ≤ len) (hl : len < 2 ^ 30) (h : (usC tx len nm kd n c bar s).1 = -1) : ¬ (usC tx len nm kd n c bar s).2.2 = -1 := by
  unfold usC at h ⊢
  dsimp only at h ⊢
  cases hf : fI nm n (naC tx len (skC tx len (nI 32) s)).1 with
  | some k => rw [hf] at h; exact absurd h (nI_nm1 (by have := (fI_spec hf).1; omega))
  | none =>
    rw [if_pos (show rjC kd none c bar from trivial)]
    unfold rfC
    split
    · refine nI_nm1 ?_
      unfold skC
      split
      · show s.1 + 1 < 2 ^ 31; omega
      · show s.1 < 2 ^ 31; omega
    · assumption
theorem sk_m1 {tx : Nat → Int32} {len q : Nat} {c : Int32} {s : Nat × Int32} (hs : s.1 < 2 ^ 31) (h : skC tx len c s = (q, -1)) : s.2 = -1 := by
  have h2 : (skC tx len c s).2 = -1 := by rw [h]
  unfold skC at h2
  split at h2
  · exact h2
  · have h2 : rfC s.2 s.1 = -1 := h2
    unfold rfC at h2
    split at h2
    · exact absurd h2 (nI_nm1 hs)
    · exact h2
theorem lftC_n {tx : Nat → Int32} {len : Nat} {nm kd : Nat → Int32} {n p : Nat} (hp : p ≤ len) (hl : len < 2 ^ 30) {n1 : Int32 × Nat × Int32} (g1 : nwC tx len nm n (p, -1) = n1) (hne : ¬ n1.2.2 = -1) : (∀ v l q, lftM tx len nm kd n p ≠ .ok (v, l, q)) ∧ ∀ q, lftM tx len nm kd n p = .error q → n1.2.2 = nI q ∧ q ≤ len := by
  cases e : newM tx len nm n p with
  | ok z =>
    obtain ⟨v, p1⟩ := z
    exact absurd (by rw [← g1, nwC_ok e]) hne
  | error q1 =>
    have e2 : lftM tx len nm kd n p = .error q1 := by unfold lftM; rw [e]
    refine ⟨fun v l q h => (by rw [e2] at h; cases h), fun q h => ?_⟩
    rw [e2] at h
    cases h
    have y := nwC_er hp (by omega) e
    rw [g1] at y
    exact y
theorem getD_m {l : List Nat} {i : Nat} (h : i < l.length) : (l.map nI).getD i 0 = nI (l.getD i 0) := by
  rw [List.getD_eq_getElem?_getD, List.getD_eq_getElem?_getD, List.getElem?_map, List.getElem?_eq_getElem h]; rfl
theorem getD_l {l : List Nat} {x i : Nat} (h : i < l.length) : (l ++ [x]).getD i 0 = l.getD i 0 := by
  rw [List.getD_eq_getElem?_getD, List.getElem?_append_left h, ← List.getD_eq_getElem?_getD]
theorem getD_r {l : List Nat} {x : Nat} : (l ++ [x]).getD l.length 0 = x := by
  rw [List.getD_eq_getElem?_getD, List.getElem?_append_right (Nat.le_refl _), Nat.sub_self]; rfl
/-- the list of stops holds the places lk -/
def stK (pa : Nat → Nat) (n sn : Nat) (sf : Nat → Nat) (l : List Int32) : Prop := ∃ lk : List Nat, l = lk.map nI ∧ sn = lk.length ∧ ∀ j, j < lk.length → sf j = pa (lk.getD j 0) ∧ lk.getD j 0 < n
theorem stK.add {pa : Nat → Nat} {n sn k : Nat} {sf : Nat → Nat} {l : List Int32} (q : stK pa n sn sf l) (hk : k < n) : stK pa n (sn + 1) (fun i => if i = sn then pa k else sf i) (l ++ [nI k]) := by
  obtain ⟨lk, h1, h2, h3⟩ := q
  refine ⟨lk ++ [k], by rw [h1, List.map_append]; rfl, by rw [List.length_append, h2]; rfl, fun j hj => ?_⟩
  have hj : j < lk.length + 1 := by rw [List.length_append] at hj; exact hj
  dsimp only
  by_cases q : j = lk.length
  · rw [if_pos (by omega), q, getD_r]
    exact ⟨rfl, hk⟩
  · rw [if_neg (by omega), getD_l (by omega)]
    exact h3 j (by omega)
theorem stK.to {pa : Nat → Nat} {n sn : Nat} {sf : Nat → Nat} {l : List Nat} (q : stK pa n sn sf (l.map nI)) (hn : n < 2 ^ 31) (hl : ∀ a ∈ l, a < n) : l.length = sn ∧ ∀ j, j < l.length → sf j = pa (l.getD j 0) ∧ l.getD j 0 < n := by
  obtain ⟨lk, h1, h2, h3⟩ := q
  have e : l.length = lk.length := by have := congrArg List.length h1; rw [List.length_map, List.length_map] at this; exact this
  refine ⟨by omega, fun j hj => ?_⟩
  have hj2 : j < lk.length := by omega
  have y := h3 j hj2
  have z : nI (l.getD j 0) = nI (lk.getD j 0) := by rw [← getD_m hj, ← getD_m hj2, h1]
  have z1 := hl _ (s_mem hj)
  rw [(nI_eq (by omega) (by omega)).mp z]
  exact y
theorem c_liftT {h0 : sm_H} {Q : Nat → Option Value → sm_H → Prop} {r sg sp ed len : Nat} {tx : Nat → Int32} {E : Ed} {p dT dU : Nat} {lp ep : Nat} {pa : Nat → Nat} {bt : Nat → Nat → Nat} (hn : E.1.length < 2 ^ 12) (hWd : EdW E) (K1 : ∀ v l q, lftM tx len (atP E.1 0) (atP E.1 1) E.1.length p = .ok (v, l, q) → ∀ h', RS h0 h' r sg sp ed len tx (E.1 ++ [plA E.1 v 6 (l.getD 0 0) l], E.2.1, E.2.2) (q, -1) (dT + 6) (dU + (2 * E.1.length + 110)) → Q 0 none h') (K0 : ∀ q, lftM tx len (atP E.1 0) (atP E.1 1) E.1.length p = .error q → ∀ h' s', RS h0 h' r sg sp ed len tx E s' (dT + 4) (dU + 80) → s'.2 = nI q → q ≤ len → Q 0 none h') {nm : Int32} {h2 : sm_H} {esp sn i9 : Nat} {sf : Nat → Nat} {x3 : Value} {zs : Nat × Int32} (R : RS h0 h2 r sg sp ed len tx E zs (dT + 4) (dU + 80)) (SL : Lst h2 sp esp sn sf ∧ (esp = hZ h2 ∨ hT h0 ≤ esp)) (X : EdF h2 ed lp ep pa bt E (fun _ => nI 0)) (O : EdO h2 (dR h0 h2 r sp esp) ed lp ep pa E) (c1 : ∀ v l q, lftM tx len (atP E.1 0) (atP E.1 1) E.1.length p = .ok (v, l, q) → nm = v ∧ stK pa E.1.length sn sf (l.map nI) ∧ skC tx len (nI 10) zs = (q, -1)) (c0 : ∀ q, lftM tx len (atP E.1 0) (atP E.1 1) E.1.length p = .error q → (skC tx len (nI 10) zs).2 = nI q ∧ q ≤ len) : sm_wp 78 66 [.ref r, .int nm, .int (nI i9), x3] [] h2 Q := by
  have B := R.1
  have hB := B.2.2.2.2.2.2.2.2.2.2
  have hsl := R.2.1.2.2.2.2.2.2.2.2
  have w := R.2.1
  refine wp_pure k_78 rfl rfl ?_
  refine wp_iv k_78 rfl [] rfl B.1 (r := []) (Nat.le_of_ble_eq_true rfl) (Nat.le_of_ble_eq_true rfl) rfl ?_
  refine c_ends B w (fun h6 w6 ok => ⟨rfl, ?_⟩) (fun h6 w6 ok => ⟨rfl, ?_⟩)
  · skip
    have hmo : ∃ z9, lftM tx len (atP E.1 0) (atP E.1 1) E.1.length p = .ok z9 := by
      cases hm : lftM tx len (atP E.1 0) (atP E.1 1) E.1.length p with
      | error q => exact absurd ((c0 q hm).1.symm.trans ok) (nI_nm1 (by have := (c0 q hm).2; omega))
      | ok z9 => exact ⟨z9, rfl⟩
    obtain ⟨⟨v, l, q⟩, hm⟩ := hmo
    obtain ⟨k1, k2, k4⟩ := c1 v l q hm
    subst k1
    rw [k4] at w6
    have R7 := R.rd w6
    obtain ⟨SL7, X7, O7, B7⟩ := R.rdx SL X O w6
    have o7 := lftM_ok hm
    obtain ⟨hl7, hs7⟩ := k2.to (by omega) (fun a ha => (o7.2.2.2.2.1 a ha).1)
    have n0 : 0 < l.length := by have := o7.2.2.1; omega
    have y0 := hs7 0 n0
    have y2 := (o7.2.2.2.2.1 _ (s_mem n0)).2
    refine wp_br k_78 rfl rfl rfl rfl (fun z => absurd z (show ¬ ((nI 1 : Int32) = 0) by decide)) (fun _ => ?_)
    refine wp_pure k_78 rfl rfl ?_
    refine wp_get k_78 rfl B7.1 B7.2.2.2.2.1 ?_
    refine wp_iv k_78 rfl [] rfl SL7.1.1 (r := []) (Nat.le_of_ble_eq_true rfl) (Nat.le_of_ble_eq_true rfl) rfl ?_
    refine c_isE SL7.1 (fun z => absurd z (by omega)) (fun _ => ⟨rfl, ?_⟩)
    refine wp_br k_78 rfl rfl rfl rfl (fun z => absurd z (show ¬ (¬ (nI 0 : Int32) = 0) by decide)) (fun _ => ?_)
    refine wp_pure k_78 rfl rfl ?_
    refine wp_get k_78 rfl B7.1 B7.2.2.2.1 ?_
    refine wp_pure k_78 rfl rfl ?_
    refine wp_pure k_78 rfl rfl ?_
    refine wp_kn k_78 rfl rfl ?_
    refine wp_pure k_78 rfl rfl ?_
    refine wp_get k_78 rfl B7.1 B7.2.2.2.2.1 ?_
    refine wp_kn k_78 rfl rfl ?_
    refine wp_iv k_78 rfl [.int (nI 0)] rfl SL7.1.1 (r := [.int (nI 6), .int nm, .ref r, .ref ed]) (Nat.le_of_ble_eq_true rfl) (Nat.le_of_ble_eq_true rfl) rfl ?_
    refine c_get SL7.1 (i := 0) (by omega) ⟨rfl, ?_⟩
    rw [y0.1]
    refine wp_cc k_78 rfl (X7.2.2.1 _ y0.2).1 ?_
    refine wp_iv k_78 rfl [.int nm, .int (nI 6), .ref (pa (l.getD 0 0))] rfl B7.1 (r := [.ref ed]) (Nat.le_of_ble_eq_true rfl) (Nat.le_of_ble_eq_true rfl) rfl ?_
    refine c_newAt B7 X7 hWd y0.2 y2 (fun hy ay pf => ⟨rfl, ?_⟩)
    have sr7 := ay.2.2.2 r (Nat.ne_of_lt R7.2.2.2.1.2.1)
    have se7 := ay.2.2.2 ed (Nat.ne_of_lt O7.1.1.2.1)
    refine wp_pure k_78 rfl rfl ?_
    refine wp_get k_78 rfl (sr7.1.trans B7.1) ((sr7.2.2.1 _).trans B7.2.2.2.2.1) ?_
    refine wp_iv k_78 rfl [.ref (hT h6), .ref sp] rfl (se7.1.trans X7.1.1) (r := []) (Nat.le_of_ble_eq_true rfl) (Nat.le_of_ble_eq_true rfl) rfl ?_
    refine c_addLift (P := (plA E.1 nm 6 (l.getD 0 0) []).1) R7 SL7 X7 O7 hWd hn rfl (Or.inr ⟨_, rfl, y0.2⟩) ay pf hl7 o7.2.2.2.1 hs7 (fun h8 R8 => ⟨rfl, ?_⟩)
    exact wp_vrt k_78 rfl rfl (K1 nm l q hm h8 (R8.le (by omega) (by omega)))
  · refine wp_br k_78 rfl rfl rfl rfl (fun _ => ?_) (fun z => absurd (show (nI 0 : Int32) = 0 by decide) z)
    cases hm : lftM tx len (atP E.1 0) (atP E.1 1) E.1.length p with
    | ok z9 =>
      obtain ⟨v, l, q⟩ := z9
      exact absurd (by rw [(c1 v l q hm).2.2]) ok
    | error q => exact wp_vrt k_78 rfl rfl (K0 q hm h6 _ (R.rd w6) (c0 q hm).1 (c0 q hm).2)
theorem c_liftL {h0 : sm_H} {Q : Nat → Option Value → sm_H → Prop} {r sg sp ed len : Nat} {tx : Nat → Int32} {E : Ed} {dT dU : Nat} {lp ep : Nat} {pa : Nat → Nat} {bt : Nat → Nat → Nat} (hn : E.1.length < 2 ^ 12) {nm : Int32} {Z : List Int32 × Nat × Int32} (K : ∀ h2 i9 x3 esp sn sf, RS h0 h2 r sg sp ed len tx E Z.2 (dT + 4) (dU + 80) → (Lst h2 sp esp sn sf ∧ (esp = hZ h2 ∨ hT h0 ≤ esp)) → EdF h2 ed lp ep pa bt E (fun _ => nI 0) → EdO h2 (dR h0 h2 r sp esp) ed lp ep pa E → (Z.2.2 = -1 → stK pa E.1.length sn sf Z.1) → sm_wp 78 66 [.ref r, .int nm, .int (nI i9), x3] [] h2 Q) : ∀ (k i : Nat) (l : List Int32) (s : Nat × Int32) (h : sm_H) (x3 : Value) (esp sn : Nat) (sf : Nat → Nat), i + k = 4 → 1 ≤ i → RS h0 h r sg sp ed len tx E s (dT + i) (dU + 20 * i) → (Lst h sp esp sn sf ∧ (esp = hZ h ∨ hT h0 ≤ esp)) → EdF h ed lp ep pa bt E (fun _ => nI 0) → EdO h (dR h0 h r sp esp) ed lp ep pa E → sn ≤ i → (s.2 = -1 → stK pa E.1.length sn sf l) → lsC tx len (atP E.1 0) (atP E.1 1) E.1.length k l s = Z → sm_wp 78 14 [.ref r, .int nm, .int (nI i), x3] [] h Q := by
  intro k
  induction k with
  | zero =>
    intro i l s h x3 esp sn sf h4 h1 R SL X O hs C hlz
    have hlz : (l, s) = Z := hlz
    subst hlz
    refine wp_pure k_78 rfl rfl ?_
    refine wp_kn k_78 rfl rfl ?_
    refine wp_br k_78 rfl rfl rfl rfl (fun _ => ?_) (fun z => absurd ((nI_leI (by omega) (by omega)).mpr (show 4 ≤ i by omega)) z)
    exact K h i x3 esp sn sf (R.le (by omega) (by omega)) SL X O C
  | succ k ih =>
    intro i l s h x3 esp sn sf h4 h1 R SL X O hs C hlz
    obtain ⟨B, w, f, ⟨r1, r2, r3, r4, r5⟩, ⟨z1, z2⟩, _⟩ := id R
    have hB := B.2.2.2.2.2.2.2.2.2.2
    have hsl := w.2.2.2.2.2.2.2.2
    have hT0 := f.1
    have hD : ∀ a, dR h0 h r sp esp a → a ≠ r := fun a ha => ha.2.2.1
    have hzr : hZ h ≠ r := by have := f.2.2.2.2.1; omega
    obtain ⟨kv, hv⟩ : ∃ kv, tk tx len s.1 = kv := ⟨_, rfl⟩
    refine wp_pure k_78 rfl rfl ?_
    refine wp_kn k_78 rfl rfl ?_
    refine wp_br k_78 rfl rfl rfl rfl (fun z => absurd z (nI_ge (show i < 4 by omega) (by omega))) (fun _ => ?_)
    refine wp_pure k_78 rfl rfl ?_
    refine wp_get k_78 rfl w.2.2.2.2.1 w.2.2.2.2.2.2.2.1 ?_
    refine wp_km k_78 rfl rfl ?_
    refine wp_br k_78 rfl rfl rfl rfl (fun (z24 : ¬ s.2 = -1) => ?_) (fun (z24 : ¬ (¬ s.2 = -1)) => ?_)
    · rw [lsC_n (fun z => z24 z.1)] at hlz
      subst hlz
      exact K h i x3 esp sn sf (R.le (by omega) (by omega)) SL X O C
    · refine wp_pure k_78 rfl rfl ?_
      refine wp_br k_78 rfl rfl rfl rfl (fun z => absurd z (show ¬ (nI i = 0) from (fun z => by have := (nI_eq (a := i) (b := 0) (by omega) (by decide)).mp z; omega))) (fun _ => ?_)
      refine wp_pure k_78 rfl rfl ?_
      refine wp_iv k_78 rfl [] rfl w.2.2.2.2.1 (r := []) (Nat.le_of_ble_eq_true rfl) (Nat.le_of_ble_eq_true rfl) rfl ?_
      refine c_peek B w hv ⟨rfl, ?_⟩
      refine wp_kn k_78 rfl rfl ?_
      refine wp_br k_78 rfl rfl rfl rfl (fun (z37 : ¬ kv = nI 32) => ?_) (fun (z37 : ¬ (¬ kv = nI 32)) => ?_)
      · rw [lsC_n (fun z => z37 (hv.symm.trans z.2))] at hlz
        subst hlz
        exact K h i x3 esp sn sf (R.le (by omega) (by omega)) SL X O C
      · refine wp_pure k_78 rfl rfl ?_
        refine wp_kn k_78 rfl rfl ?_
        refine wp_pure k_78 rfl rfl ?_
        refine wp_iv k_78 rfl [.int (nI 2), .null] rfl w.2.2.2.2.1 (r := []) (Nat.le_of_ble_eq_true rfl) (Nat.le_of_ble_eq_true rfl) rfl ?_
        refine c_used9n B w X O hD hzr (fun h2 n1 g1 e1 w2 => ⟨rfl, ?_⟩) (fun h2 n1 k1 g1 kl1 e1 w2 => ⟨rfl, ?_⟩)
        · have R2 := R.rd w2
          obtain ⟨SL2, X2, O2, B2⟩ := R.rdx SL X O w2
          refine wp_pure k_78 rfl rfl ?_
          refine wp_pure k_78 rfl rfl ?_
          refine wp_br k_78 rfl rfl rfl rfl (fun _ => ?_) (fun z => absurd trivial z)
          refine wp_inc k_78 rfl rfl rfl ?_
          refine wp_br k_78 rfl rfl rfl rfl (fun _ => ?_) (fun z => absurd trivial z)
          have hv2 : tk tx len s.1 = nI 32 := hv.trans (Classical.not_not.mp z37)
          rw [lsC_y ⟨Classical.not_not.mp z24, hv2⟩, g1] at hlz
          exact ih (i + 1) _ n1.2 h2 .null esp sn sf (by omega) (by omega) (R2.le (by omega) (by omega)) SL2 X2 O2 (by omega) (fun z => absurd z (by rw [← g1]; exact usC_no (by omega) hsl (by omega) (by rw [g1]; exact e1))) hlz
        · have R2 := R.rd w2
          obtain ⟨SL2, X2, O2, B2⟩ := R.rdx SL X O w2
          refine wp_pure k_78 rfl rfl ?_
          refine wp_pure k_78 rfl rfl ?_
          refine wp_br k_78 rfl rfl rfl rfl (fun _ => ?_) (fun z => absurd trivial z)
          refine wp_pure k_78 rfl rfl ?_
          refine wp_get k_78 rfl B2.1 B2.2.2.2.2.1 ?_
          refine wp_pure k_78 rfl rfl ?_
          refine wp_iv k_78 rfl [.ref (pa k1)] rfl SL2.1.1 (r := []) (Nat.le_of_ble_eq_true rfl) (Nat.le_of_ble_eq_true rfl) rfl ?_
          refine c_stop R2 SL2 X2 O2 (by omega) kl1 (fun h3 e3 R3 SL3 X3 O3 => ⟨rfl, ?_⟩)
          refine wp_pure k_78 rfl rfl ?_
          refine wp_inc k_78 rfl rfl rfl ?_
          refine wp_br k_78 rfl rfl rfl rfl (fun _ => ?_) (fun z => absurd trivial z)
          have hv2 : tk tx len s.1 = nI 32 := hv.trans (Classical.not_not.mp z37)
          rw [lsC_y ⟨Classical.not_not.mp z24, hv2⟩, g1] at hlz
          rw [e1] at hlz
          exact ih (i + 1) _ n1.2 h3 (.ref (pa k1)) e3 (sn + 1) _ (by omega) (by omega) (R3.le (by omega) (by omega)) SL3 X3 O3 (by omega) (fun z => (C (Classical.not_not.mp z24)).add kl1) hlz
theorem c_lift9 {h0 h : sm_H} {Q : Nat → Option Value → sm_H → Prop} {r sg sp ed len : Nat} {tx : Nat → Int32} {E : Ed} {p dT dU : Nat} (R : RS h0 h r sg sp ed len tx E (p, -1) dT dU) (hn : E.1.length < 2 ^ 12) (hWd : EdW E) (K1 : ∀ v l q, lftM tx len (atP E.1 0) (atP E.1 1) E.1.length p = .ok (v, l, q) → ∀ h', RS h0 h' r sg sp ed len tx (E.1 ++ [plA E.1 v 6 (l.getD 0 0) l], E.2.1, E.2.2) (q, -1) (dT + 6) (dU + (2 * E.1.length + 110)) → Q 0 none h') (K0 : ∀ q, lftM tx len (atP E.1 0) (atP E.1 1) E.1.length p = .error q → ∀ h' s', RS h0 h' r sg sp ed len tx E s' (dT + 4) (dU + 80) → s'.2 = nI q → q ≤ len → Q 0 none h') : sm_wp 78 0 [.ref r, jk, jk, jk] [] h Q := by
  obtain ⟨B, w, f, ⟨r1, r2, r3, r4, r5⟩, ⟨z1, z2⟩, esp, sn, sf, lp, ep, pa, bt, SL, X, O⟩ := id R
  have hD : ∀ a, dR h0 h r sp esp a → a ≠ r := fun a ha => ha.2.2.1
  have hDT : ∀ a, dR h0 h r sp esp a → a < hT h := fun a ha => ha.2.1
  have hT0 := f.1
  have hzr : hZ h ≠ r := by have := f.2.2.2.2.1; omega
  have hB := B.2.2.2.2.2.2.2.2.2.2
  have hsl := w.2.2.2.2.2.2.2.2
  refine wp_pure k_78 rfl rfl ?_
  refine wp_iv k_78 rfl [] rfl w.2.2.2.2.1 (r := []) (Nat.le_of_ble_eq_true rfl) (Nat.le_of_ble_eq_true rfl) rfl ?_
  refine c_newN9 B w X O hD hzr (fun h2 n1 g1 w2 => ⟨rfl, ?_⟩)
  have R2 := R.rd w2
  obtain ⟨SL2, X2, O2, B2⟩ := R.rdx SL X O w2
  refine wp_pure k_78 rfl rfl ?_
  refine wp_pure k_78 rfl rfl ?_
  refine wp_get k_78 rfl B2.1 B2.2.2.2.2.1 ?_
  refine wp_iv k_78 rfl [] rfl SL2.1.1 (r := []) (Nat.le_of_ble_eq_true rfl) (Nat.le_of_ble_eq_true rfl) rfl ?_
  refine c_clear SL2.1 (fun h3 f3 L3 fr3 => ⟨rfl, ?_⟩)
  obtain ⟨R3, SL3, X3, O3⟩ := R2.stp SL2 X2 O2 fr3 L3 (Or.inl rfl)
  have B3 := R3.1
  have w3 := R3.2.1
  have hs3 : n1.2.1 ≤ len := w3.2.2.2.2.2.2.2.2
  have hT3 := R3.2.2.1.1
  have hD3 : ∀ a, dR h0 h3 r sp esp a → a ≠ r := fun a ha => ha.2.2.1
  have hzr3 : hZ h3 ≠ r := by have := R3.2.2.1.2.2.2.2.1; omega
  refine wp_kn k_78 rfl rfl ?_
  refine wp_pure k_78 rfl rfl ?_
  refine wp_pure k_78 rfl rfl ?_
  refine wp_kn k_78 rfl rfl ?_
  refine wp_br k_78 rfl rfl rfl rfl (fun z => absurd z (show ¬ (nI 4 ≤ nI 0) by decide)) (fun _ => ?_)
  refine wp_pure k_78 rfl rfl ?_
  refine wp_get k_78 rfl w3.2.2.2.2.1 w3.2.2.2.2.2.2.2.1 ?_
  refine wp_km k_78 rfl rfl ?_
  refine wp_br k_78 rfl rfl rfl rfl (fun (z24 : ¬ n1.2.2 = -1) => ?_) (fun (z24 : ¬ (¬ n1.2.2 = -1)) => ?_)
  · obtain ⟨y1, y0⟩ := lftC_n (kd := atP E.1 1) hsl (by omega) g1 z24
    exact c_liftT hn hWd K1 K0 (R3.le (by omega) (by omega)) SL3 X3 O3 (fun v l q e => absurd e (y1 v l q)) (fun q e => ⟨skC_st (by have := (y0 q e).2; omega) (y0 q e).1, (y0 q e).2⟩)
  · refine wp_pure k_78 rfl rfl ?_
    refine wp_br k_78 rfl rfl rfl rfl (fun _ => ?_) (fun z => absurd (show (nI 0 : Int32) = 0 by decide) z)
    refine wp_pure k_78 rfl rfl ?_
    refine wp_kn k_78 rfl rfl ?_
    refine wp_pure k_78 rfl rfl ?_
    refine wp_iv k_78 rfl [.int (nI 2), .null] rfl w3.2.2.2.2.1 (r := []) (Nat.le_of_ble_eq_true rfl) (Nat.le_of_ble_eq_true rfl) rfl ?_
    refine c_used9n B3 w3 X3 O3 hD3 hzr3 (fun h4 n2 g2 e2 w4 => ⟨rfl, ?_⟩) (fun h4 n2 k2 g2 kl2 e2 w4 => ⟨rfl, ?_⟩)
    · have R4 := R3.rd w4
      obtain ⟨SL4, X4, O4, B4⟩ := R3.rdx SL3 X3 O3 w4
      obtain ⟨c1, c0⟩ := lftC9 (z3 := lsC tx len (atP E.1 0) (atP E.1 1) E.1.length 3 [n2.1] n2.2) (by omega) hsl (by omega) g1 g2 rfl
      refine wp_pure k_78 rfl rfl ?_
      refine wp_pure k_78 rfl rfl ?_
      refine wp_br k_78 rfl rfl rfl rfl (fun _ => ?_) (fun z => absurd trivial z)
      refine wp_inc k_78 rfl rfl rfl ?_
      refine wp_br k_78 rfl rfl rfl rfl (fun _ => ?_) (fun z => absurd trivial z)
      generalize hZ9 : lsC tx len (atP E.1 0) (atP E.1 1) E.1.length 3 [n2.1] n2.2 = Z at *
      refine c_liftL (dT := dT) (dU := dU) hn (Z := Z) (fun h9 i9 x9 esp9 sn9 sf9 R9 SL9 X9 O9 C9 => c_liftT hn hWd K1 K0 R9 SL9 X9 O9 (fun v l q e => ?_) c0) 3 1 [n2.1] n2.2 h4 .null esp 0 f3 (by omega) (by omega) (R4.le (by omega) (by omega)) SL4 X4 O4 (by omega) (fun z => absurd z (by rw [← g2]; exact usC_no (by omega) hs3 (by omega) (by rw [g2]; exact e2))) hZ9
      · obtain ⟨y1, y2, y3⟩ := c1 v l q e
        have y4 := sk_m1 (by have := R9.2.1.2.2.2.2.2.2.2.2; omega) y3
        have y5 := C9 y4
        rw [y2] at y5
        exact ⟨y1, y5, y3⟩
    · have R4 := R3.rd w4
      obtain ⟨SL4, X4, O4, B4⟩ := R3.rdx SL3 X3 O3 w4
      obtain ⟨c1, c0⟩ := lftC9 (z3 := lsC tx len (atP E.1 0) (atP E.1 1) E.1.length 3 [n2.1] n2.2) (by omega) hsl (by omega) g1 g2 rfl
      refine wp_pure k_78 rfl rfl ?_
      refine wp_pure k_78 rfl rfl ?_
      refine wp_br k_78 rfl rfl rfl rfl (fun _ => ?_) (fun z => absurd trivial z)
      refine wp_pure k_78 rfl rfl ?_
      refine wp_get k_78 rfl B4.1 B4.2.2.2.2.1 ?_
      refine wp_pure k_78 rfl rfl ?_
      refine wp_iv k_78 rfl [.ref (pa k2)] rfl SL4.1.1 (r := []) (Nat.le_of_ble_eq_true rfl) (Nat.le_of_ble_eq_true rfl) rfl ?_
      refine c_stop R4 SL4 X4 O4 (by omega) kl2 (fun h5 e5 R5 SL5 X5 O5 => ⟨rfl, ?_⟩)
      refine wp_pure k_78 rfl rfl ?_
      refine wp_inc k_78 rfl rfl rfl ?_
      refine wp_br k_78 rfl rfl rfl rfl (fun _ => ?_) (fun z => absurd trivial z)
      generalize hZ9 : lsC tx len (atP E.1 0) (atP E.1 1) E.1.length 3 [n2.1] n2.2 = Z at *
      refine c_liftL (dT := dT) (dU := dU) hn (Z := Z) (fun h9 i9 x9 esp9 sn9 sf9 R9 SL9 X9 O9 C9 => c_liftT hn hWd K1 K0 R9 SL9 X9 O9 (fun v l q e => ?_) c0) 3 1 [n2.1] n2.2 h5 (.ref (pa k2)) e5 1 _ (by omega) (by omega) (R5.le (by omega) (by omega)) SL5 X5 O5 (by omega) (fun _ => ?_) hZ9
      · obtain ⟨y1, y2, y3⟩ := c1 v l q e
        have y4 := sk_m1 (by have := R9.2.1.2.2.2.2.2.2.2.2; omega) y3
        have y5 := C9 y4
        rw [y2] at y5
        exact ⟨y1, y5, y3⟩
      · rw [e2]
        exact stK.add (l := []) ⟨[], rfl, rfl, fun j hj => absurd hj (Nat.not_lt_zero j)⟩ kl2
