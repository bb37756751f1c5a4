/-! THE LAW's STATE: the class's object at x, the reference at mr, the array of answers at o, the script at b -/
def PP (mr o b z a : Nat) : Prop := a = b ∨ a = o ∨ a = z ∨ isM mr a
def GB (h : sm_H) (mr o b z L : Nat) (xs : Nat → Int32) : Prop := hC h b = 15 ∧ hL h b = L ∧ (∀ i, i < L → hA h b i = .int (xs i)) ∧ hC h o = 2 ∧ hL h o = 1 ∧ hZ h = z ∧ ¬ isM mr b ∧ ¬ isM mr o ∧ ¬ isM mr z ∧ b ≠ o
def GW (h : sm_H) (x mr o b z L : Nat) (xs : Nat → Int32) (σ1 σ2 : Sg) (t : Int32) : Prop := CR h x σ1 (PP mr o b z) ∧ GB h mr o b z L xs ∧ ∃ g ar, MS h h mr g ar ∧ MR g ar σ2 ∧ g 0 = t
theorem CR.mod {h h' : sm_H} {x : Nat} {σ : Sg} {P : Nat → Prop} (c : CR h x σ P) (s : ∀ a, a < hT h → ¬ P a → samA h h' a) (k22 : ∀ a, P a → hC h a ≠ 22) (sz : samA h h' (hZ h)) (hz : hZ h' = hZ h) (ht : hT h ≤ hT h') : CR h' x σ P := by
  obtain ⟨sg, eds, ee, go, ins, lf, ef, pl, pls, fnd, efd, ea, fa, fda, lo, hi, dk, rc, ex, c1, c2, c3, c4, c5, c6, c7, c8, c9⟩ := c
  have o : ∀ a, a = x ∨ a = sg ∨ a = eds ∨ a = go ∨ a = ins ∨ a = lf ∨ a = pl ∨ a = pls ∨ a = fnd → samA h h' a := fun a ha => s a (c8.1 a ha).1 (c8.1 a ha).2
  have l1 := c7.1
  have l2 := c6.2.2.1
  have l3 := c3.1
  have q : ∀ {a e n f}, Lst h a e n f → (hC h e = 14 ∨ ¬ P e) → samA h h' e := fun {a e n f} l he => by
    rcases l.2.2.2.2.2.2.2.1 with ⟨w, _⟩ | ⟨w, _⟩
    · rw [w]; exact sz
    · exact s e l.2.2.2.2.2.2.1 (he.resolve_left (by rw [w]; decide))
  have s1 := q l1 c8.2.2.1
  have s2 := q l2 c8.2.2.2.1
  have s3 := q l3 c8.2.2.2.2.1
  refine ⟨sg, eds, ee, go, ins, lf, ef, pl, pls, fnd, efd, ea, fa, fda, lo, hi, dk, rc, ex, c1.same (o _ (by simp)), c2.same (o _ (by simp)), c3.same (o _ (by simp)) s3 (fun i hi => ?_) hz ht, c4.same (o _ (by simp)) (o _ (by simp)), c5.same (o _ (by simp)), c6.same (o _ (by simp)) (o _ (by simp)) s2 (fun i hi => s _ (l2.2.2.2.2.2.2.2.2 i hi).2.2.2 (c8.2.2.2.2.2.2.1 i hi)) hz ht, c7.same (o _ (by simp)) s1 (fun e he a ha => ?_) sz hz ht, c8.same ht s1.1 s2.1 s3.1, c9.same sz hz ht⟩
  · have w := s _ (l3.2.2.2.2.2.2.2.2 i hi).2.2.2 (fun z => k22 _ z (c3.k hi))
    exact ⟨w.1, w.2.2.1 _⟩
  · obtain ⟨E', _, _, r⟩ := c7.2 e he
    exact s a (by have := r.1; have := ha.2; omega) (c8.2.2.2.2.2.2.2.1 e he a ha).1
theorem CR.xk {h : sm_H} {x : Nat} {σ : Sg} {P : Nat → Prop} (c : CR h x σ P) : hC h x = 16 := by
  obtain ⟨sg, eds, ee, go, ins, lf, ef, pl, pls, fnd, efd, ea, fa, fda, lo, hi, dk, rc, ex, c1, _⟩ := c
  exact c1.1
theorem CR.pl {h : sm_H} {x : Nat} {σ : Sg} {P : Nat → Prop} (c : CR h x σ P) : ∀ a, P a → a < hT h := by
  obtain ⟨sg, eds, ee, go, ins, lf, ef, pl, pls, fnd, efd, ea, fa, fda, lo, hi, dk, rc, ex, c1, c2, c3, c4, c5, c6, c7, c8, c9⟩ := c
  exact c9.2.2.2
theorem CR.z14 {h : sm_H} {x : Nat} {σ : Sg} {P : Nat → Prop} (c : CR h x σ P) : hC h (hZ h) = 14 := by
  obtain ⟨sg, eds, ee, go, ins, lf, ef, pl, pls, fnd, efd, ea, fa, fda, lo, hi, dk, rc, ex, c1, c2, c3, c4, c5, c6, c7, c8, c9⟩ := c
  exact c9.1
/-- no cell of the reference is a place -/
def mois : List Nat := [0, 1, 4, 5, 6, 7, 8, 9, 10, 11, 12, 13, 15, 16, 17, 19, 20, 21, 22, 28, 29, 30, 32, 33, 34, 35, 36, 37, 38, 39, 40, 41, 42, 43, 44, 46, 57, 62, 63, 64, 65]
def moi (d : Nat) : Nat := mois.getD d 0
theorem moi_ok : ∀ d, d < 41 → d ≠ 0 → moi d < 67 ∧ mo (moi d) = d ∧ mt (moi d) ≠ 22 := by decide +kernel
theorem MS.n22 {h0 h : sm_H} {m : Nat} {g : Nat → Int32} {ar : Nat → Nat → Int32} (M : MS h0 h m g ar) {a : Nat} (ha : isM m a) : hC h a ≠ 22 := by
  obtain ⟨m1, _, m3, _⟩ := M
  have h1 := ha.1
  have h2 := ha.2
  by_cases q : a = m
  · rw [q, m1]; decide
  · have hd := moi_ok (a - m) (by omega) (by omega)
    have w := (m3 _ hd.1 (by rw [hd.2.1]; omega)).2.1
    have e : m + (a - m) = a := by omega
    rw [hd.2.1, e] at w
    rw [w]; exact hd.2.2
theorem MS.mv {h h' : sm_H} {mr : Nat} {g : Nat → Int32} {ar : Nat → Nat → Int32} (M : MS h h mr g ar) (s : ∀ a, isM mr a → samA h h' a) : MS h' h' mr g ar := by
  obtain ⟨m1, m2, m3, _⟩ := M
  have s0 := s mr ⟨Nat.le_refl _, by omega⟩
  refine ⟨s0.1.trans m1, fun k hk ho => (s0.2.2.1 _).trans (m2 k hk ho), fun k hk ho => ?_, rfl, rfl, rfl, fun a _ => samA.refl h' a⟩
  have sk := s (mr + mo k) ⟨by omega, by have := mo_le k hk; omega⟩
  obtain ⟨a1, a2, a3, a4⟩ := m3 k hk ho
  exact ⟨(s0.2.2.1 _).trans a1, sk.1.trans a2, sk.2.1.trans a3, fun i hi => (sk.2.2.2 i).trans (a4 i hi)⟩
theorem MS.reb {h h' : sm_H} {mr : Nat} {g : Nat → Int32} {ar : Nat → Nat → Int32} (M : MS h h' mr g ar) : MS h' h' mr g ar := ⟨M.1, M.2.1, M.2.2.1, rfl, rfl, rfl, fun a _ => samA.refl h' a⟩
theorem GB.same {h h' : sm_H} {mr o b z L : Nat} {xs : Nat → Int32} (B : GB h mr o b z L xs) (s1 : samA h h' b) (s2 : hC h' o = hC h o ∧ hL h' o = hL h o) (hz : hZ h' = hZ h) : GB h' mr o b z L xs := ⟨s1.1.trans B.1, s1.2.1.trans B.2.1, fun i hi => (s1.2.2.2 i).trans (B.2.2.1 i hi), s2.1.trans B.2.2.2.1, s2.2.trans B.2.2.2.2.1, hz.trans B.2.2.2.2.2.1, B.2.2.2.2.2.2⟩
section GWS
variable {h h' : sm_H} {x mr o b z L : Nat} {xs : Nat → Int32} {σ1 σ2 σ' : Sg} {t : Int32}
theorem GW.k22 (G : GW h x mr o b z L xs σ1 σ2 t) : ∀ a, PP mr o b z a → hC h a ≠ 22 := by
  obtain ⟨C, B, g, ar, M, R, e⟩ := G
  intro a ha
  rcases ha with q | q | q | q
  · rw [q, B.1]; decide
  · rw [q, B.2.2.2.1]; decide
  · rw [q, ← B.2.2.2.2.2.1, C.z14]; decide
  · exact M.n22 q
theorem GW.cls (G : GW h x mr o b z L xs σ1 σ2 t) (C' : CR h' x σ' (PP mr o b z)) (s : ∀ a, PP mr o b z a → samA h h' a) (hz : hZ h' = hZ h) : GW h' x mr o b z L xs σ' σ2 t := by
  obtain ⟨_, B, g, ar, M, R, e⟩ := G
  have so := s o (Or.inr (Or.inl rfl))
  exact ⟨C', B.same (s b (Or.inl rfl)) ⟨so.1, so.2.1⟩ hz, g, ar, M.mv (fun a ha => s a (Or.inr (Or.inr (Or.inr ha)))), R, e⟩
theorem GW.ref {g' : Nat → Int32} {ar' : Nat → Nat → Int32} {t' : Int32} (G : GW h x mr o b z L xs σ1 σ2 t) (M' : MS h h' mr g' ar') (R' : MR g' ar' σ') (e : g' 0 = t') : GW h' x mr o b z L xs σ1 σ' t' := by
  have k22 := G.k22
  obtain ⟨C, B, _⟩ := G
  obtain ⟨f1, f2, f3, f4⟩ := M'.2.2.2
  have b6 := B.2.2.2.2.2
  have so := f4 o b6.2.2.1
  exact ⟨C.mod (fun a _ ha => f4 a (fun q => ha (Or.inr (Or.inr (Or.inr q))))) k22 (f4 _ (by rw [b6.1]; exact b6.2.2.2.1)) f3 (Nat.le_of_eq f1.symm), B.same (f4 b b6.2.1) ⟨so.1, so.2.1⟩ f3, g', ar', M'.reb, R', e⟩
theorem GW.out (G : GW h x mr o b z L xs σ1 σ2 t) {v : Value} : GW (putA h o 0 v) x mr o b z L xs σ1 σ2 t := by
  have k22 := G.k22
  obtain ⟨C, B, g, ar, M, R, e⟩ := G
  have b6 := B.2.2.2.2.2
  have s : ∀ a, a ≠ o → samA h (putA h o 0 v) a := fun a ha => samA.putA ha
  have s2 : hC (putA h o 0 v) o = hC h o ∧ hL (putA h o 0 v) o = hL h o := ⟨rfl, rfl⟩
  have t9 : hT (putA h o 0 v) = hT h ∧ hZ (putA h o 0 v) = hZ h := ⟨rfl, rfl⟩
  generalize putA h o 0 v = h9 at *
  have hzo : hZ h ≠ o := fun q => by
    have k := B.2.2.2.1
    rw [← q, C.z14] at k; cases k
  exact ⟨C.mod (fun a _ ha => s a (fun q => ha (Or.inr (Or.inl q)))) k22 (s _ hzo) t9.2 (Nat.le_of_eq t9.1.symm), B.same (s b b6.2.2.2.2) s2 t9.2, g, ar, M.mv (fun a ha => s a (fun q => b6.2.2.1 (by rw [← q]; exact ha))), R, e⟩
theorem GW.thr (G : GW h x mr o b z L xs σ1 σ2 t) {ci : Nat} : GW (thH h ci) x mr o b z L xs σ1 σ2 t :=
  G.cls (G.1.fresh (fun a ha => samA.thH (Nat.ne_of_lt ha)) rfl (Nat.le_succ _)) (fun a ha => samA.thH (Nat.ne_of_lt (G.1.pl a ha))) rfl
end GWS
theorem l_sign_y {h : sm_H} {Q : Nat → Option Value → sm_H → Prop} {x mr o b z L : Nat} {xs : Nat → Int32} {σ σ2 : Sg} {t : Int32} (G : GW h x mr o b z L xs σ σ2 t) (S : SI σ) {c : Int32} (hl : sLen σ < 600) (hok : okS c) (K : ∀ h', GW h' x mr o b z L xs (sgS σ c) σ2 t → hT h' = hT h → hU h' = hU h → Q 0 (some (.int (nI 0))) h') : sm_wp 159 0 [.ref x, .int c, jk] [] h Q := by
  have kx := G.1.xk
  have ko := G.2.1.2.2.2.1
  have lo := G.2.1.2.2.2.2.1
  refine wp_pure k_159 rfl rfl ?_
  refine wp_pure k_159 rfl rfl ?_
  refine wp_ivX k_159 rfl [.int c] rfl kx (r := []) (Nat.le_of_ble_eq_true rfl) (Nat.le_of_ble_eq_true rfl) rfl ?_
  refine c_sign G.1 S hl (fun hn => absurd hok hn) (fun _ h1 C1 s1 t1 u1 z1 => Or.inl ⟨rfl, ?_⟩)
  have G1 := G.cls C1 s1 z1
  have k1 := G1.2.1.2.2.2.1
  have l1 := G1.2.1.2.2.2.2.1
  refine wp_br k_159 rfl rfl rfl rfl (fun _ => ?_) (fun z => absurd trivial z)
  refine wp_kn k_159 rfl rfl ?_
  exact wp_irt k_159 rfl rfl rfl (K h1 G1 t1 u1)
theorem l_sign_n {h : sm_H} {Q : Nat → Option Value → sm_H → Prop} {x mr o b z L : Nat} {xs : Nat → Int32} {σ σ2 : Sg} {t : Int32} (G : GW h x mr o b z L xs σ σ2 t) (S : SI σ) {c : Int32} (hl : sLen σ < 600) (hok : ¬ okS c) (K : ∀ h', GW h' x mr o b z L xs σ σ2 t → hT h' = hT h + 1 → hU h' = hU h + 6 → Q 0 (some (.int (nI 1))) h') : sm_wp 159 0 [.ref x, .int c, jk] [] h Q := by
  have kx := G.1.xk
  refine wp_pure k_159 rfl rfl ?_
  refine wp_pure k_159 rfl rfl ?_
  refine wp_ivX k_159 rfl [.int c] rfl kx (r := []) (Nat.le_of_ble_eq_true rfl) (Nat.le_of_ble_eq_true rfl) rfl ?_
  refine c_sign G.1 S hl (fun _ => Or.inr ⟨11, _, 8, rfl, rfl, rfl, ?_⟩) (fun hn => absurd hn hok)
  refine wp_pure k_159 rfl rfl ?_
  refine wp_kn k_159 rfl rfl ?_
  exact wp_irt k_159 rfl rfl rfl (K (thH h 11) G.thr rfl rfl)
theorem l_read_e {h : sm_H} {Q : Nat → Option Value → sm_H → Prop} {x mr o b z L : Nat} {xs : Nat → Int32} {σ σ2 : Sg} {t : Int32} (G : GW h x mr o b z L xs σ σ2 t) (S : SI σ)  {q : Nat} (hl : sLen σ ≤ 600) (hm : textM (sTx σ) (sLen σ) (sLen σ) ([], [], []) 0 = .error q) (K : ∀ h', GW h' x mr o b z L xs (clS σ) σ2 t → hA h' o 0 = .long (-1 - nI q).toInt64 → hT h ≤ hT h' → hT h' ≤ hT h + (2 * sLen σ + 20) → hU h' ≤ hU h + (1200 * sLen σ + 6100) → Q 0 (some (.int (nI 0))) h') : sm_wp 160 0 [.ref x, .ref o, jk] [] h Q := by
  have kx := G.1.xk
  have ko := G.2.1.2.2.2.1
  have lo := G.2.1.2.2.2.2.1
  refine wp_pure k_160 rfl rfl ?_
  refine wp_kn k_160 rfl rfl ?_
  refine wp_pure k_160 rfl rfl ?_
  refine wp_ivX k_160 rfl [] rfl kx (r := [.int (nI 0), .ref o]) (Nat.le_of_ble_eq_true rfl) (Nat.le_of_ble_eq_true rfl) rfl ?_
  refine c_read G.1 S hl (fun q' he h1 R1 => Or.inl ⟨rfl, ?_⟩) (fun E he => absurd (he.symm.trans hm) (fun z => by cases z)) (fun E he => absurd (he.symm.trans hm) (fun z => by cases z))
  obtain rfl : q' = q := by have e := he.symm.trans hm; cases e; rfl
  have G1 := G.cls R1.1 R1.2.1 R1.2.2.2.2.2.2
  have k1 := G1.2.1.2.2.2.1
  have l1 := G1.2.1.2.2.2.2.1
  refine wp_i2l k_160 rfl ?_
  refine wp_last k_160 rfl k1 (nLt l1 (show 0 < 1 by omega)) (nLb l1 (by omega)) ?_
  refine wp_br k_160 rfl rfl rfl rfl (fun _ => ?_) (fun z => absurd trivial z)
  refine wp_kn k_160 rfl rfl ?_
  exact wp_irt k_160 rfl rfl rfl (K (putA h1 o 0 (.long ((-1 - nI q').toInt64))) G1.out hA_putA R1.2.2.1 R1.2.2.2.1 R1.2.2.2.2.2.1)
theorem l_read_t {h : sm_H} {Q : Nat → Option Value → sm_H → Prop} {x mr o b z L : Nat} {xs : Nat → Int32} {σ σ2 : Sg} {t : Int32} (G : GW h x mr o b z L xs σ σ2 t) (S : SI σ)  {E : Ed} (hl : sLen σ ≤ 600) (hm : textM (sTx σ) (sLen σ) (sLen σ) ([], [], []) 0 = .ok E) (hb : ¬ tooB σ E) (K : EdW E → ∀ h', GW h' x mr o b z L xs (tkS σ E) σ2 t → hA h' o 0 = .long (nI E.1.length).toInt64 → hT h ≤ hT h' → hT h' ≤ hT h + (2 * sLen σ + 390) → hU h' ≤ hU h + (1200 * sLen σ + 82000) → Q 0 (some (.int (nI 0))) h') : sm_wp 160 0 [.ref x, .ref o, jk] [] h Q := by
  have kx := G.1.xk
  have ko := G.2.1.2.2.2.1
  have lo := G.2.1.2.2.2.2.1
  refine wp_pure k_160 rfl rfl ?_
  refine wp_kn k_160 rfl rfl ?_
  refine wp_pure k_160 rfl rfl ?_
  refine wp_ivX k_160 rfl [] rfl kx (r := [.int (nI 0), .ref o]) (Nat.le_of_ble_eq_true rfl) (Nat.le_of_ble_eq_true rfl) rfl ?_
  refine c_read G.1 S hl (fun q he => absurd (he.symm.trans hm) (fun z => by cases z)) (fun E' he hb' => absurd hb' (by have e := he.symm.trans hm; cases e; exact hb)) (fun E' he hb' hW h1 R1 => Or.inl ⟨rfl, ?_⟩)
  obtain rfl : E' = E := by have e := he.symm.trans hm; cases e; rfl
  have G1 := G.cls R1.1 R1.2.1 R1.2.2.2.2.2.2
  have k1 := G1.2.1.2.2.2.1
  have l1 := G1.2.1.2.2.2.2.1
  refine wp_i2l k_160 rfl ?_
  refine wp_last k_160 rfl k1 (nLt l1 (show 0 < 1 by omega)) (nLb l1 (by omega)) ?_
  refine wp_br k_160 rfl rfl rfl rfl (fun _ => ?_) (fun z => absurd trivial z)
  refine wp_kn k_160 rfl rfl ?_
  exact wp_irt k_160 rfl rfl rfl (K hW (putA h1 o 0 (.long ((nI E'.1.length).toInt64))) G1.out hA_putA R1.2.2.1 R1.2.2.2.1 R1.2.2.2.2.2.1)
theorem l_read_f {h : sm_H} {Q : Nat → Option Value → sm_H → Prop} {x mr o b z L : Nat} {xs : Nat → Int32} {σ σ2 : Sg} {t : Int32} (G : GW h x mr o b z L xs σ σ2 t) (S : SI σ)  {E : Ed} (hl : sLen σ ≤ 600) (hm : textM (sTx σ) (sLen σ) (sLen σ) ([], [], []) 0 = .ok E) (hb : tooB σ E) (K : ∀ h', GW h' x mr o b z L xs (clS σ) σ2 t → hT h ≤ hT h' → hT h' ≤ hT h + (2 * sLen σ + 21) → hU h' ≤ hU h + (1200 * sLen σ + 6106) → Q 0 (some (.int (nI 1))) h') : sm_wp 160 0 [.ref x, .ref o, jk] [] h Q := by
  have kx := G.1.xk
  refine wp_pure k_160 rfl rfl ?_
  refine wp_kn k_160 rfl rfl ?_
  refine wp_pure k_160 rfl rfl ?_
  refine wp_ivX k_160 rfl [] rfl kx (r := [.int (nI 0), .ref o]) (Nat.le_of_ble_eq_true rfl) (Nat.le_of_ble_eq_true rfl) rfl ?_
  refine c_read G.1 S hl (fun q he => absurd (he.symm.trans hm) (fun z => by cases z)) (fun E' he _ h1 R1 => Or.inr ⟨12, _, 11, rfl, rfl, rfl, ?_⟩) (fun E' he hb' => absurd (by have e := he.symm.trans hm; cases e; exact hb) hb')
  refine wp_pure k_160 rfl rfl ?_
  refine wp_kn k_160 rfl rfl ?_
  have G1 := G.cls R1.1 R1.2.1 R1.2.2.2.2.2.2
  exact wp_irt k_160 rfl rfl rfl (K (thH h1 12) G1.thr (Nat.le_trans R1.2.2.1 (Nat.le_succ _)) (Nat.succ_le_succ R1.2.2.2.1) (Nat.add_le_add_right R1.2.2.2.2.2.1 6))
theorem l_place_y {h : sm_H} {Q : Nat → Option Value → sm_H → Prop} {x mr o b z L : Nat} {xs : Nat → Int32} {σ σ2 : Sg} {t : Int32} (G : GW h x mr o b z L xs σ σ2 t) (S : SI σ) {i a : Int32} {k w : Nat} (hk : k < (cE σ).1.length) (hw : w ≤ 7) (ei : i = nI k) (ea : a = nI w) (K : ∀ h', GW h' x mr o b z L xs σ σ2 t → hA h' o 0 = .long (plV (cE σ) k w).toInt64 → hT h' = hT h → hU h' = hU h → Q 0 (some (.int (nI 0))) h') : sm_wp 161 0 [.ref x, .int i, .int a, .ref o, jk] [] h Q := by
  have kx := G.1.xk
  have ko := G.2.1.2.2.2.1
  have lo := G.2.1.2.2.2.2.1
  refine wp_pure k_161 rfl rfl ?_
  refine wp_kn k_161 rfl rfl ?_
  refine wp_pure k_161 rfl rfl ?_
  refine wp_pure k_161 rfl rfl ?_
  refine wp_pure k_161 rfl rfl ?_
  refine wp_ivX k_161 rfl [.int i, .int a] rfl kx (r := [.int (nI 0), .ref o]) (Nat.le_of_ble_eq_true rfl) (Nat.le_of_ble_eq_true rfl) rfl ?_
  refine c_place G.1 S (fun hn => absurd ⟨k, w, hk, hw, ei, ea⟩ hn) (fun k' w' h1 h2 e1 e2 => Or.inl ⟨rfl, ?_⟩)
  have n6 : (cE σ).1.length ≤ 60 := S.2.2.2.2.2.1
  obtain rfl : k' = k := yE (by omega) (by omega) (e1.symm.trans ei)
  obtain rfl : w' = w := yE (by omega) (by omega) (e2.symm.trans ea)
  have k1 := G.2.1.2.2.2.1
  have l1 := G.2.1.2.2.2.2.1
  refine wp_i2l k_161 rfl ?_
  refine wp_last k_161 rfl k1 (nLt l1 (show 0 < 1 by omega)) (nLb l1 (by omega)) ?_
  refine wp_br k_161 rfl rfl rfl rfl (fun _ => ?_) (fun z => absurd trivial z)
  refine wp_kn k_161 rfl rfl ?_
  exact wp_irt k_161 rfl rfl rfl (K (putA h o 0 (.long ((plV (cE σ) k' w').toInt64))) G.out hA_putA rfl rfl)
theorem l_place_n {h : sm_H} {Q : Nat → Option Value → sm_H → Prop} {x mr o b z L : Nat} {xs : Nat → Int32} {σ σ2 : Sg} {t : Int32} (G : GW h x mr o b z L xs σ σ2 t) (S : SI σ) {i a : Int32} (hn : ¬ (∃ k w, k < (cE σ).1.length ∧ w ≤ 7 ∧ i = nI k ∧ a = nI w)) (K : ∀ h', GW h' x mr o b z L xs σ σ2 t → hT h' = hT h + 1 → hU h' = hU h + 6 → Q 0 (some (.int (nI 1))) h') : sm_wp 161 0 [.ref x, .int i, .int a, .ref o, jk] [] h Q := by
  have kx := G.1.xk
  refine wp_pure k_161 rfl rfl ?_
  refine wp_kn k_161 rfl rfl ?_
  refine wp_pure k_161 rfl rfl ?_
  refine wp_pure k_161 rfl rfl ?_
  refine wp_pure k_161 rfl rfl ?_
  refine wp_ivX k_161 rfl [.int i, .int a] rfl kx (r := [.int (nI 0), .ref o]) (Nat.le_of_ble_eq_true rfl) (Nat.le_of_ble_eq_true rfl) rfl ?_
  refine c_place G.1 S (fun _ => Or.inr ⟨11, _, 13, rfl, rfl, rfl, ?_⟩) (fun k' w' h1 h2 e1 e2 => absurd ⟨k', w', h1, h2, e1, e2⟩ hn)
  refine wp_pure k_161 rfl rfl ?_
  refine wp_kn k_161 rfl rfl ?_
  exact wp_irt k_161 rfl rfl rfl (K (thH h 11) G.thr rfl rfl)
theorem l_fault_y {h : sm_H} {Q : Nat → Option Value → sm_H → Prop} {x mr o b z L : Nat} {xs : Nat → Int32} {σ σ2 : Sg} {t : Int32} (G : GW h x mr o b z L xs σ σ2 t) (S : SI σ) {i a : Int32} {k w : Nat} (hk : k < (fltE (cE σ)).length) (ei : i = nI k) (hw : w ≤ 2) (ea : a = nI w) (K : ∀ h', GW h' x mr o b z L xs σ σ2 t → hA h' o 0 = .long (ftV (cE σ) k w).toInt64 → hT h' = hT h → hU h' = hU h → Q 0 (some (.int (nI 0))) h') : sm_wp 162 0 [.ref x, .int i, .int a, .ref o, jk] [] h Q := by
  have kx := G.1.xk
  have ko := G.2.1.2.2.2.1
  have lo := G.2.1.2.2.2.2.1
  refine wp_pure k_162 rfl rfl ?_
  refine wp_kn k_162 rfl rfl ?_
  refine wp_pure k_162 rfl rfl ?_
  refine wp_pure k_162 rfl rfl ?_
  refine wp_pure k_162 rfl rfl ?_
  refine wp_ivX k_162 rfl [.int i, .int a] rfl kx (r := [.int (nI 0), .ref o]) (Nat.le_of_ble_eq_true rfl) (Nat.le_of_ble_eq_true rfl) rfl ?_
  refine c_fault G.1 S (fun hn => absurd ⟨k, hk, ei⟩ hn) (fun k' h1 e1 hn => absurd ⟨w, hw, ea⟩ hn) (fun k' w' h1 e1 h2 e2 => Or.inl ⟨rfl, ?_⟩)
  skip
  have nf : (fltE (cE σ)).length ≤ 180 := by
    have h3 : (fltE (cE σ)).length ≤ 3 * (cE σ).1.length := flt_len
    have n6 : (cE σ).1.length ≤ 60 := S.2.2.2.2.2.1
    omega
  obtain rfl : k' = k := yE (by omega) (by omega) (e1.symm.trans ei)
  obtain rfl : w' = w := yE (by omega) (by omega) (e2.symm.trans ea)
  have k1 := G.2.1.2.2.2.1
  have l1 := G.2.1.2.2.2.2.1
  refine wp_i2l k_162 rfl ?_
  refine wp_last k_162 rfl k1 (nLt l1 (show 0 < 1 by omega)) (nLb l1 (by omega)) ?_
  refine wp_br k_162 rfl rfl rfl rfl (fun _ => ?_) (fun z => absurd trivial z)
  refine wp_kn k_162 rfl rfl ?_
  exact wp_irt k_162 rfl rfl rfl (K (putA h o 0 (.long ((ftV (cE σ) k' w').toInt64))) G.out hA_putA rfl rfl)
theorem l_fault_1 {h : sm_H} {Q : Nat → Option Value → sm_H → Prop} {x mr o b z L : Nat} {xs : Nat → Int32} {σ σ2 : Sg} {t : Int32} (G : GW h x mr o b z L xs σ σ2 t) (S : SI σ) {i a : Int32} (hn : ¬ (∃ k, k < (fltE (cE σ)).length ∧ i = nI k)) (K : ∀ h', GW h' x mr o b z L xs σ σ2 t → hT h' = hT h + 1 → hU h' = hU h + 6 → Q 0 (some (.int (nI 1))) h') : sm_wp 162 0 [.ref x, .int i, .int a, .ref o, jk] [] h Q := by
  have kx := G.1.xk
  refine wp_pure k_162 rfl rfl ?_
  refine wp_kn k_162 rfl rfl ?_
  refine wp_pure k_162 rfl rfl ?_
  refine wp_pure k_162 rfl rfl ?_
  refine wp_pure k_162 rfl rfl ?_
  refine wp_ivX k_162 rfl [.int i, .int a] rfl kx (r := [.int (nI 0), .ref o]) (Nat.le_of_ble_eq_true rfl) (Nat.le_of_ble_eq_true rfl) rfl ?_
  refine c_fault G.1 S (fun _ => Or.inr ⟨13, _, 13, rfl, rfl, rfl, ?_⟩) (fun k' h1 e1 _ => absurd ⟨k', h1, e1⟩ hn) (fun k' w' h1 e1 h2 e2 => absurd ⟨k', h1, e1⟩ hn)
  refine wp_pure k_162 rfl rfl ?_
  refine wp_kn k_162 rfl rfl ?_
  exact wp_irt k_162 rfl rfl rfl (K (thH h 13) G.thr rfl rfl)
theorem l_fault_2 {h : sm_H} {Q : Nat → Option Value → sm_H → Prop} {x mr o b z L : Nat} {xs : Nat → Int32} {σ σ2 : Sg} {t : Int32} (G : GW h x mr o b z L xs σ σ2 t) (S : SI σ) {i a : Int32} {k : Nat} (hk : k < (fltE (cE σ)).length) (ei : i = nI k) (hn : ¬ (∃ w, w ≤ 2 ∧ a = nI w)) (K : ∀ h', GW h' x mr o b z L xs σ σ2 t → hT h' = hT h + 1 → hU h' = hU h + 6 → Q 0 (some (.int (nI 2))) h') : sm_wp 162 0 [.ref x, .int i, .int a, .ref o, jk] [] h Q := by
  have kx := G.1.xk
  refine wp_pure k_162 rfl rfl ?_
  refine wp_kn k_162 rfl rfl ?_
  refine wp_pure k_162 rfl rfl ?_
  refine wp_pure k_162 rfl rfl ?_
  refine wp_pure k_162 rfl rfl ?_
  refine wp_ivX k_162 rfl [.int i, .int a] rfl kx (r := [.int (nI 0), .ref o]) (Nat.le_of_ble_eq_true rfl) (Nat.le_of_ble_eq_true rfl) rfl ?_
  refine c_fault G.1 S (fun hk' => absurd ⟨k, hk, ei⟩ hk') (fun k' h1 e1 _ => Or.inr ⟨11, _, 17, rfl, rfl, rfl, ?_⟩) (fun k' w' h1 e1 h2 e2 => absurd ⟨w', h2, e2⟩ hn)
  refine wp_pure k_162 rfl rfl ?_
  refine wp_kn k_162 rfl rfl ?_
  exact wp_irt k_162 rfl rfl rfl (K (thH h 11) G.thr rfl rfl)
theorem l_piece_y {h : sm_H} {Q : Nat → Option Value → sm_H → Prop} {x mr o b z L : Nat} {xs : Nat → Int32} {σ σ2 : Sg} {t : Int32} (G : GW h x mr o b z L xs σ σ2 t) (S : SI σ) {i a : Int32} {p w : Nat} (hp : pcX (cE σ).1 i = some p) (hw : w ≤ 4) (ea : a = nI w) (K : ∀ h', GW h' x mr o b z L xs σ σ2 t → hA h' o 0 = .long (pcV (cE σ) p w).toInt64 → hT h' = hT h → hU h' = hU h → Q 0 (some (.int (nI 0))) h') : sm_wp 163 0 [.ref x, .int i, .int a, .ref o, jk] [] h Q := by
  have kx := G.1.xk
  have ko := G.2.1.2.2.2.1
  have lo := G.2.1.2.2.2.2.1
  refine wp_pure k_163 rfl rfl ?_
  refine wp_kn k_163 rfl rfl ?_
  refine wp_pure k_163 rfl rfl ?_
  refine wp_pure k_163 rfl rfl ?_
  refine wp_pure k_163 rfl rfl ?_
  refine wp_ivX k_163 rfl [.int i, .int a] rfl kx (r := [.int (nI 0), .ref o]) (Nat.le_of_ble_eq_true rfl) (Nat.le_of_ble_eq_true rfl) rfl ?_
  refine c_piece G.1 S (fun hn => absurd (hn.symm.trans hp) (fun z => by cases z)) (fun p' e1 hn => absurd ⟨w, hw, ea⟩ hn) (fun p' w' e1 h2 e2 => Or.inl ⟨rfl, ?_⟩)
  obtain rfl : p' = p := by have e := e1.symm.trans hp; cases e; rfl
  obtain rfl : w' = w := yE (by omega) (by omega) (e2.symm.trans ea)
  have k1 := G.2.1.2.2.2.1
  have l1 := G.2.1.2.2.2.2.1
  refine wp_i2l k_163 rfl ?_
  refine wp_last k_163 rfl k1 (nLt l1 (show 0 < 1 by omega)) (nLb l1 (by omega)) ?_
  refine wp_br k_163 rfl rfl rfl rfl (fun _ => ?_) (fun z => absurd trivial z)
  refine wp_kn k_163 rfl rfl ?_
  exact wp_irt k_163 rfl rfl rfl (K (putA h o 0 (.long ((pcV (cE σ) p' w').toInt64))) G.out hA_putA rfl rfl)
theorem l_piece_1 {h : sm_H} {Q : Nat → Option Value → sm_H → Prop} {x mr o b z L : Nat} {xs : Nat → Int32} {σ σ2 : Sg} {t : Int32} (G : GW h x mr o b z L xs σ σ2 t) (S : SI σ) {i a : Int32} (hp : pcX (cE σ).1 i = none) (K : ∀ h', GW h' x mr o b z L xs σ σ2 t → hT h' = hT h + 1 → hU h' = hU h + 6 → Q 0 (some (.int (nI 1))) h') : sm_wp 163 0 [.ref x, .int i, .int a, .ref o, jk] [] h Q := by
  have kx := G.1.xk
  refine wp_pure k_163 rfl rfl ?_
  refine wp_kn k_163 rfl rfl ?_
  refine wp_pure k_163 rfl rfl ?_
  refine wp_pure k_163 rfl rfl ?_
  refine wp_pure k_163 rfl rfl ?_
  refine wp_ivX k_163 rfl [.int i, .int a] rfl kx (r := [.int (nI 0), .ref o]) (Nat.le_of_ble_eq_true rfl) (Nat.le_of_ble_eq_true rfl) rfl ?_
  refine c_piece G.1 S (fun _ => Or.inr ⟨13, _, 13, rfl, rfl, rfl, ?_⟩) (fun p' e1 _ => absurd (e1.symm.trans hp) (fun z => by cases z)) (fun p' w' e1 h2 e2 => absurd (e1.symm.trans hp) (fun z => by cases z))
  refine wp_pure k_163 rfl rfl ?_
  refine wp_kn k_163 rfl rfl ?_
  exact wp_irt k_163 rfl rfl rfl (K (thH h 13) G.thr rfl rfl)
theorem l_piece_2 {h : sm_H} {Q : Nat → Option Value → sm_H → Prop} {x mr o b z L : Nat} {xs : Nat → Int32} {σ σ2 : Sg} {t : Int32} (G : GW h x mr o b z L xs σ σ2 t) (S : SI σ) {i a : Int32} {p : Nat} (hp : pcX (cE σ).1 i = some p) (hn : ¬ (∃ w, w ≤ 4 ∧ a = nI w)) (K : ∀ h', GW h' x mr o b z L xs σ σ2 t → hT h' = hT h + 1 → hU h' = hU h + 6 → Q 0 (some (.int (nI 2))) h') : sm_wp 163 0 [.ref x, .int i, .int a, .ref o, jk] [] h Q := by
  have kx := G.1.xk
  refine wp_pure k_163 rfl rfl ?_
  refine wp_kn k_163 rfl rfl ?_
  refine wp_pure k_163 rfl rfl ?_
  refine wp_pure k_163 rfl rfl ?_
  refine wp_pure k_163 rfl rfl ?_
  refine wp_ivX k_163 rfl [.int i, .int a] rfl kx (r := [.int (nI 0), .ref o]) (Nat.le_of_ble_eq_true rfl) (Nat.le_of_ble_eq_true rfl) rfl ?_
  refine c_piece G.1 S (fun hk' => absurd (hk'.symm.trans hp) (fun z => by cases z)) (fun p' e1 _ => Or.inr ⟨11, _, 17, rfl, rfl, rfl, ?_⟩) (fun p' w' e1 h2 e2 => absurd ⟨w', h2, e2⟩ hn)
  refine wp_pure k_163 rfl rfl ?_
  refine wp_kn k_163 rfl rfl ?_
  exact wp_irt k_163 rfl rfl rfl (K (thH h 11) G.thr rfl rfl)
theorem l_inside_t {h : sm_H} {Q : Nat → Option Value → sm_H → Prop} {x mr o b z L : Nat} {xs : Nat → Int32} {σ σ2 : Sg} {t : Int32} (G : GW h x mr o b z L xs σ σ2 t) (S : SI σ) {i a : Int32} {k w : Nat} (hk : k < (cE σ).1.length) (hw : w < (cE σ).1.length) (ei : i = nI k) (ea : a = nI w) (h1k : atP (cE σ).1 1 k = nI 1) (h0w : atP (cE σ).1 1 w = nI 0) (hin : insE (cE σ).1 k w) (K : ∀ h', GW h' x mr o b z L xs σ σ2 t → hA h' o 0 = .long (lN 1) → hT h' = hT h → hU h' = hU h → Q 0 (some (.int (nI 0))) h') : sm_wp 164 0 [.ref x, .int i, .int a, .ref o, jk] [] h Q := by
  have kx := G.1.xk
  have ko := G.2.1.2.2.2.1
  have lo := G.2.1.2.2.2.2.1
  refine wp_pure k_164 rfl rfl ?_
  refine wp_kn k_164 rfl rfl ?_
  refine wp_pure k_164 rfl rfl ?_
  refine wp_pure k_164 rfl rfl ?_
  refine wp_pure k_164 rfl rfl ?_
  refine wp_ivX k_164 rfl [.int i, .int a] rfl kx (r := [.int (nI 0), .ref o]) (Nat.le_of_ble_eq_true rfl) (Nat.le_of_ble_eq_true rfl) rfl ?_
  refine c_inside G.1 S (fun hn => absurd ⟨k, w, hk, hw, ei, ea, h1k, h0w⟩ hn) (fun k' w' h1 h2 e1 e2 _ _ => Or.inl ⟨rfl, ?_⟩)
  have n6 : (cE σ).1.length ≤ 60 := S.2.2.2.2.2.1
  obtain rfl : k' = k := yE (by omega) (by omega) (e1.symm.trans ei)
  obtain rfl : w' = w := yE (by omega) (by omega) (e2.symm.trans ea)
  rw [pit_y hin]
  have k1 := G.2.1.2.2.2.1
  have l1 := G.2.1.2.2.2.2.1
  refine wp_br k_164 rfl rfl rfl rfl (fun z => absurd z (show ¬ ((nI 1 : Int32) = 0) by decide)) (fun _ => ?_)
  refine wp_pure k_164 rfl rfl ?_
  refine wp_br k_164 rfl rfl rfl rfl (fun _ => ?_) (fun z => absurd trivial z)
  refine wp_last k_164 rfl k1 (nLt l1 (show 0 < 1 by omega)) (nLb l1 (by omega)) ?_
  refine wp_br k_164 rfl rfl rfl rfl (fun _ => ?_) (fun z => absurd trivial z)
  refine wp_kn k_164 rfl rfl ?_
  exact wp_irt k_164 rfl rfl rfl (K (putA h o 0 (.long (lN 1))) G.out hA_putA rfl rfl)
theorem l_inside_f {h : sm_H} {Q : Nat → Option Value → sm_H → Prop} {x mr o b z L : Nat} {xs : Nat → Int32} {σ σ2 : Sg} {t : Int32} (G : GW h x mr o b z L xs σ σ2 t) (S : SI σ) {i a : Int32} {k w : Nat} (hk : k < (cE σ).1.length) (hw : w < (cE σ).1.length) (ei : i = nI k) (ea : a = nI w) (h1k : atP (cE σ).1 1 k = nI 1) (h0w : atP (cE σ).1 1 w = nI 0) (hin : ¬ insE (cE σ).1 k w) (K : ∀ h', GW h' x mr o b z L xs σ σ2 t → hA h' o 0 = .long (lN 0) → hT h' = hT h → hU h' = hU h → Q 0 (some (.int (nI 0))) h') : sm_wp 164 0 [.ref x, .int i, .int a, .ref o, jk] [] h Q := by
  have kx := G.1.xk
  have ko := G.2.1.2.2.2.1
  have lo := G.2.1.2.2.2.2.1
  refine wp_pure k_164 rfl rfl ?_
  refine wp_kn k_164 rfl rfl ?_
  refine wp_pure k_164 rfl rfl ?_
  refine wp_pure k_164 rfl rfl ?_
  refine wp_pure k_164 rfl rfl ?_
  refine wp_ivX k_164 rfl [.int i, .int a] rfl kx (r := [.int (nI 0), .ref o]) (Nat.le_of_ble_eq_true rfl) (Nat.le_of_ble_eq_true rfl) rfl ?_
  refine c_inside G.1 S (fun hn => absurd ⟨k, w, hk, hw, ei, ea, h1k, h0w⟩ hn) (fun k' w' h1 h2 e1 e2 _ _ => Or.inl ⟨rfl, ?_⟩)
  have n6 : (cE σ).1.length ≤ 60 := S.2.2.2.2.2.1
  obtain rfl : k' = k := yE (by omega) (by omega) (e1.symm.trans ei)
  obtain rfl : w' = w := yE (by omega) (by omega) (e2.symm.trans ea)
  rw [pit_n hin]
  have k1 := G.2.1.2.2.2.1
  have l1 := G.2.1.2.2.2.2.1
  refine wp_br k_164 rfl rfl rfl rfl (fun _ => ?_) (fun z => absurd (show (nI 0 : Int32) = 0 by decide) z)
  refine wp_pure k_164 rfl rfl ?_
  refine wp_last k_164 rfl k1 (nLt l1 (show 0 < 1 by omega)) (nLb l1 (by omega)) ?_
  refine wp_br k_164 rfl rfl rfl rfl (fun _ => ?_) (fun z => absurd trivial z)
  refine wp_kn k_164 rfl rfl ?_
  exact wp_irt k_164 rfl rfl rfl (K (putA h o 0 (.long (lN 0))) G.out hA_putA rfl rfl)
theorem l_inside_n {h : sm_H} {Q : Nat → Option Value → sm_H → Prop} {x mr o b z L : Nat} {xs : Nat → Int32} {σ σ2 : Sg} {t : Int32} (G : GW h x mr o b z L xs σ σ2 t) (S : SI σ) {i a : Int32} (hn : ¬ (∃ k w, k < (cE σ).1.length ∧ w < (cE σ).1.length ∧ i = nI k ∧ a = nI w ∧ atP (cE σ).1 1 k = nI 1 ∧ atP (cE σ).1 1 w = nI 0)) (K : ∀ h', GW h' x mr o b z L xs σ σ2 t → hT h' = hT h + 1 → hU h' = hU h + 6 → Q 0 (some (.int (nI 1))) h') : sm_wp 164 0 [.ref x, .int i, .int a, .ref o, jk] [] h Q := by
  have kx := G.1.xk
  refine wp_pure k_164 rfl rfl ?_
  refine wp_kn k_164 rfl rfl ?_
  refine wp_pure k_164 rfl rfl ?_
  refine wp_pure k_164 rfl rfl ?_
  refine wp_pure k_164 rfl rfl ?_
  refine wp_ivX k_164 rfl [.int i, .int a] rfl kx (r := [.int (nI 0), .ref o]) (Nat.le_of_ble_eq_true rfl) (Nat.le_of_ble_eq_true rfl) rfl ?_
  refine c_inside G.1 S (fun _ => Or.inr ⟨11, _, 20, rfl, rfl, rfl, ?_⟩) (fun k' w' h1 h2 e1 e2 h3 h4 => absurd ⟨k', w', h1, h2, e1, e2, h3, h4⟩ hn)
  refine wp_pure k_164 rfl rfl ?_
  refine wp_kn k_164 rfl rfl ?_
  exact wp_irt k_164 rfl rfl rfl (K (thH h 11) G.thr rfl rfl)
theorem l_fill_y {h : sm_H} {Q : Nat → Option Value → sm_H → Prop} {x mr o b z L : Nat} {xs : Nat → Int32} {σ σ2 : Sg} {t : Int32} (G : GW h x mr o b z L xs σ σ2 t) (S : SI σ) {i a c : Int32} {e k u : Nat} (he : e ≤ sE σ) (hk : k < (edP σ e).length) (hu : u ≤ 99) (ei : i = nI e) (ea : a = nI k) (ec : c = nI u) (h1k : atP (edP σ e) 1 k = nI 1) (K : ∀ h', GW h' x mr o b z L xs (flS σ e k (nI u)) σ2 t → hT h' = hT h → hU h' = hU h → Q 0 (some (.int (nI 0))) h') : sm_wp 165 0 [.ref x, .int i, .int a, .int c, jk] [] h Q := by
  have kx := G.1.xk
  have ko := G.2.1.2.2.2.1
  have lo := G.2.1.2.2.2.2.1
  refine wp_pure k_165 rfl rfl ?_
  refine wp_pure k_165 rfl rfl ?_
  refine wp_pure k_165 rfl rfl ?_
  refine wp_pure k_165 rfl rfl ?_
  refine wp_ivX k_165 rfl [.int i, .int a, .int c] rfl kx (r := []) (Nat.le_of_ble_eq_true rfl) (Nat.le_of_ble_eq_true rfl) rfl ?_
  refine c_fill G.1 S (fun hn => absurd ⟨e, k, u, he, hk, hu, ei, ea, ec, h1k⟩ hn) (fun e' k' u' p1 p2 p3 p4 p5 p6 _ h1 C1 s1 t1 u1 z1 => Or.inl ⟨rfl, ?_⟩)
  have q8 := S.2.2.2.2.1
  have qE : sE σ ≤ 8 := by unfold sE; omega
  have q6 := S.2.2.2.2.2.2.1
  obtain rfl : e' = e := yE (by omega) (by omega) (p4.symm.trans ei)
  obtain rfl : k' = k := yE (by have := q6 e'; omega) (by have := q6 e'; omega) (p5.symm.trans ea)
  obtain rfl : u' = u := yE (by omega) (by omega) (p6.symm.trans ec)
  have G1 := G.cls C1 s1 z1
  have k1 := G1.2.1.2.2.2.1
  have l1 := G1.2.1.2.2.2.2.1
  refine wp_br k_165 rfl rfl rfl rfl (fun _ => ?_) (fun z => absurd trivial z)
  refine wp_kn k_165 rfl rfl ?_
  exact wp_irt k_165 rfl rfl rfl (K h1 G1 t1 u1)
theorem l_fill_n {h : sm_H} {Q : Nat → Option Value → sm_H → Prop} {x mr o b z L : Nat} {xs : Nat → Int32} {σ σ2 : Sg} {t : Int32} (G : GW h x mr o b z L xs σ σ2 t) (S : SI σ) {i a c : Int32} (hn : ¬ (∃ e k u, e ≤ sE σ ∧ k < (edP σ e).length ∧ u ≤ 99 ∧ i = nI e ∧ a = nI k ∧ c = nI u ∧ atP (edP σ e) 1 k = nI 1)) (K : ∀ h', GW h' x mr o b z L xs σ σ2 t → hT h' = hT h + 1 → hU h' = hU h + 6 → Q 0 (some (.int (nI 1))) h') : sm_wp 165 0 [.ref x, .int i, .int a, .int c, jk] [] h Q := by
  have kx := G.1.xk
  refine wp_pure k_165 rfl rfl ?_
  refine wp_pure k_165 rfl rfl ?_
  refine wp_pure k_165 rfl rfl ?_
  refine wp_pure k_165 rfl rfl ?_
  refine wp_ivX k_165 rfl [.int i, .int a, .int c] rfl kx (r := []) (Nat.le_of_ble_eq_true rfl) (Nat.le_of_ble_eq_true rfl) rfl ?_
  refine c_fill G.1 S (fun _ => Or.inr ⟨11, _, 10, rfl, rfl, rfl, ?_⟩) (fun e' k' u' p1 p2 p3 p4 p5 p6 p7 _ _ _ _ _ _ => absurd ⟨e', k', u', p1, p2, p3, p4, p5, p6, p7⟩ hn)
  refine wp_pure k_165 rfl rfl ?_
  refine wp_kn k_165 rfl rfl ?_
  exact wp_irt k_165 rfl rfl rfl (K (thH h 11) G.thr rfl rfl)
theorem l_differ_y {h : sm_H} {Q : Nat → Option Value → sm_H → Prop} {x mr o b z L : Nat} {xs : Nat → Int32} {σ σ2 : Sg} {t : Int32} (G : GW h x mr o b z L xs σ σ2 t) (S : SI σ) {a : Int32} {e : Nat} (he : e ≤ sE σ) (ea : a = nI e) (K : ∀ h', GW h' x mr o b z L xs (dfS σ (mvN (sCur σ) (edP σ e) (sUn σ e) (edP σ e).length).1) σ2 t → hA h' o 0 = .long (mvN (sCur σ) (edP σ e) (sUn σ e) (edP σ e).length).2.toInt64 → hT h ≤ hT h' → hT h' ≤ hT h + 60 → hU h ≤ hU h' → hU h' ≤ hU h + 8040 → Q 0 (some (.int (nI 0))) h') : sm_wp 166 0 [.ref x, .int a, .ref o, jk] [] h Q := by
  have kx := G.1.xk
  have ko := G.2.1.2.2.2.1
  have lo := G.2.1.2.2.2.2.1
  refine wp_pure k_166 rfl rfl ?_
  refine wp_kn k_166 rfl rfl ?_
  refine wp_pure k_166 rfl rfl ?_
  refine wp_pure k_166 rfl rfl ?_
  refine wp_ivX k_166 rfl [.int a] rfl kx (r := [.int (nI 0), .ref o]) (Nat.le_of_ble_eq_true rfl) (Nat.le_of_ble_eq_true rfl) rfl ?_
  refine c_differ G.1 S (fun hn => absurd ⟨e, he, ea⟩ hn) (fun e' p1 p4 h1 C1 s1 t1 t1' u1 u1' z1 => Or.inl ⟨rfl, ?_⟩)
  have q8 := S.2.2.2.2.1
  have qE : sE σ ≤ 8 := by unfold sE; omega
  obtain rfl : e' = e := yE (by omega) (by omega) (p4.symm.trans ea)
  have G1 := G.cls C1 s1 z1
  have k1 := G1.2.1.2.2.2.1
  have l1 := G1.2.1.2.2.2.2.1
  refine wp_i2l k_166 rfl ?_
  refine wp_last k_166 rfl k1 (nLt l1 (show 0 < 1 by omega)) (nLb l1 (by omega)) ?_
  refine wp_br k_166 rfl rfl rfl rfl (fun _ => ?_) (fun z => absurd trivial z)
  refine wp_kn k_166 rfl rfl ?_
  exact wp_irt k_166 rfl rfl rfl (K (putA h1 o 0 (.long (mvN (sCur σ) (edP σ e') (sUn σ e') (edP σ e').length).2.toInt64)) G1.out hA_putA t1 t1' u1 u1')
theorem l_differ_n {h : sm_H} {Q : Nat → Option Value → sm_H → Prop} {x mr o b z L : Nat} {xs : Nat → Int32} {σ σ2 : Sg} {t : Int32} (G : GW h x mr o b z L xs σ σ2 t) (S : SI σ) {a : Int32} (hn : ¬ (∃ e, e ≤ sE σ ∧ a = nI e)) (K : ∀ h', GW h' x mr o b z L xs σ σ2 t → hT h' = hT h + 1 → hU h' = hU h + 6 → Q 0 (some (.int (nI 1))) h') : sm_wp 166 0 [.ref x, .int a, .ref o, jk] [] h Q := by
  have kx := G.1.xk
  refine wp_pure k_166 rfl rfl ?_
  refine wp_kn k_166 rfl rfl ?_
  refine wp_pure k_166 rfl rfl ?_
  refine wp_pure k_166 rfl rfl ?_
  refine wp_ivX k_166 rfl [.int a] rfl kx (r := [.int (nI 0), .ref o]) (Nat.le_of_ble_eq_true rfl) (Nat.le_of_ble_eq_true rfl) rfl ?_
  refine c_differ G.1 S (fun _ => Or.inr ⟨11, _, 12, rfl, rfl, rfl, ?_⟩) (fun e' p1 p4 _ _ _ _ _ _ _ _ => absurd ⟨e', p1, p4⟩ hn)
  refine wp_pure k_166 rfl rfl ?_
  refine wp_kn k_166 rfl rfl ?_
  exact wp_irt k_166 rfl rfl rfl (K (thH h 11) G.thr rfl rfl)
theorem l_moved_y {h : sm_H} {Q : Nat → Option Value → sm_H → Prop} {x mr o b z L : Nat} {xs : Nat → Int32} {σ σ2 : Sg} {t : Int32} (G : GW h x mr o b z L xs σ σ2 t) (S : SI σ) {a : Int32} {k : Nat} {y : Nat} (hk : (sMv σ)[k]? = some y) (ea : a = nI k) (K : ∀ h', GW h' x mr o b z L xs σ σ2 t → hA h' o 0 = .long (nI y).toInt64 → hT h' = hT h → hU h' = hU h → Q 0 (some (.int (nI 0))) h') : sm_wp 167 0 [.ref x, .int a, .ref o, jk] [] h Q := by
  have kx := G.1.xk
  have ko := G.2.1.2.2.2.1
  have lo := G.2.1.2.2.2.2.1
  refine wp_pure k_167 rfl rfl ?_
  refine wp_kn k_167 rfl rfl ?_
  refine wp_pure k_167 rfl rfl ?_
  refine wp_pure k_167 rfl rfl ?_
  refine wp_ivX k_167 rfl [.int a] rfl kx (r := [.int (nI 0), .ref o]) (Nat.le_of_ble_eq_true rfl) (Nat.le_of_ble_eq_true rfl) rfl ?_
  refine c_moved G.1 S (fun hn => absurd ⟨k, (List.getElem?_eq_some_iff.mp hk).1, ea⟩ hn) (fun k' y' p1 p4 => Or.inl ⟨rfl, ?_⟩)
  have q6 := S.2.2.2.2.2.2.2.2.1
  have kl := (List.getElem?_eq_some_iff.mp hk).1
  have kl' := (List.getElem?_eq_some_iff.mp p1).1
  obtain rfl : k' = k := yE (by omega) (by omega) (p4.symm.trans ea)
  obtain rfl : y' = y := by have e := p1.symm.trans hk; cases e; rfl
  have k1 := G.2.1.2.2.2.1
  have l1 := G.2.1.2.2.2.2.1
  refine wp_i2l k_167 rfl ?_
  refine wp_last k_167 rfl k1 (nLt l1 (show 0 < 1 by omega)) (nLb l1 (by omega)) ?_
  refine wp_br k_167 rfl rfl rfl rfl (fun _ => ?_) (fun z => absurd trivial z)
  refine wp_kn k_167 rfl rfl ?_
  exact wp_irt k_167 rfl rfl rfl (K (putA h o 0 (.long ((nI y').toInt64))) G.out hA_putA rfl rfl)
theorem l_moved_n {h : sm_H} {Q : Nat → Option Value → sm_H → Prop} {x mr o b z L : Nat} {xs : Nat → Int32} {σ σ2 : Sg} {t : Int32} (G : GW h x mr o b z L xs σ σ2 t) (S : SI σ) {a : Int32} (hn : ¬ (∃ k, k < (sMv σ).length ∧ a = nI k)) (K : ∀ h', GW h' x mr o b z L xs σ σ2 t → hT h' = hT h + 1 → hU h' = hU h + 6 → Q 0 (some (.int (nI 1))) h') : sm_wp 167 0 [.ref x, .int a, .ref o, jk] [] h Q := by
  have kx := G.1.xk
  refine wp_pure k_167 rfl rfl ?_
  refine wp_kn k_167 rfl rfl ?_
  refine wp_pure k_167 rfl rfl ?_
  refine wp_pure k_167 rfl rfl ?_
  refine wp_ivX k_167 rfl [.int a] rfl kx (r := [.int (nI 0), .ref o]) (Nat.le_of_ble_eq_true rfl) (Nat.le_of_ble_eq_true rfl) rfl ?_
  refine c_moved G.1 S (fun _ => Or.inr ⟨13, _, 12, rfl, rfl, rfl, ?_⟩) (fun k' y' p1 p4 => absurd ⟨k', (List.getElem?_eq_some_iff.mp p1).1, p4⟩ hn)
  refine wp_pure k_167 rfl rfl ?_
  refine wp_kn k_167 rfl rfl ?_
  exact wp_irt k_167 rfl rfl rfl (K (thH h 13) G.thr rfl rfl)
theorem l_at_y {h : sm_H} {Q : Nat → Option Value → sm_H → Prop} {x mr o b z L : Nat} {xs : Nat → Int32} {σ σ2 : Sg} {t : Int32} (G : GW h x mr o b z L xs σ σ2 t) (S : SI σ) {a : Int32} {k : Nat} {y : Int32} (hk : (sPn σ)[k]? = some y) (ea : a = nI k) (K : ∀ h', GW h' x mr o b z L xs σ σ2 t → hA h' o 0 = .long (y).toInt64 → hT h' = hT h → hU h' = hU h → Q 0 (some (.int (nI 0))) h') : sm_wp 168 0 [.ref x, .int a, .ref o, jk] [] h Q := by
  have kx := G.1.xk
  have ko := G.2.1.2.2.2.1
  have lo := G.2.1.2.2.2.2.1
  refine wp_pure k_168 rfl rfl ?_
  refine wp_kn k_168 rfl rfl ?_
  refine wp_pure k_168 rfl rfl ?_
  refine wp_pure k_168 rfl rfl ?_
  refine wp_ivX k_168 rfl [.int a] rfl kx (r := [.int (nI 0), .ref o]) (Nat.le_of_ble_eq_true rfl) (Nat.le_of_ble_eq_true rfl) rfl ?_
  refine c_at G.1 S (fun hn => absurd ⟨k, (List.getElem?_eq_some_iff.mp hk).1, ea⟩ hn) (fun k' y' p1 p4 => Or.inl ⟨rfl, ?_⟩)
  have q6 := S.2.2.2.2.2.2.2.2.2.2.1
  have kl := (List.getElem?_eq_some_iff.mp hk).1
  have kl' := (List.getElem?_eq_some_iff.mp p1).1
  obtain rfl : k' = k := yE (by omega) (by omega) (p4.symm.trans ea)
  obtain rfl : y' = y := by have e := p1.symm.trans hk; cases e; rfl
  have k1 := G.2.1.2.2.2.1
  have l1 := G.2.1.2.2.2.2.1
  refine wp_i2l k_168 rfl ?_
  refine wp_last k_168 rfl k1 (nLt l1 (show 0 < 1 by omega)) (nLb l1 (by omega)) ?_
  refine wp_br k_168 rfl rfl rfl rfl (fun _ => ?_) (fun z => absurd trivial z)
  refine wp_kn k_168 rfl rfl ?_
  exact wp_irt k_168 rfl rfl rfl (K (putA h o 0 (.long ((y').toInt64))) G.out hA_putA rfl rfl)
theorem l_at_n {h : sm_H} {Q : Nat → Option Value → sm_H → Prop} {x mr o b z L : Nat} {xs : Nat → Int32} {σ σ2 : Sg} {t : Int32} (G : GW h x mr o b z L xs σ σ2 t) (S : SI σ) {a : Int32} (hn : ¬ (∃ k, k < (sPn σ).length ∧ a = nI k)) (K : ∀ h', GW h' x mr o b z L xs σ σ2 t → hT h' = hT h + 1 → hU h' = hU h + 6 → Q 0 (some (.int (nI 1))) h') : sm_wp 168 0 [.ref x, .int a, .ref o, jk] [] h Q := by
  have kx := G.1.xk
  refine wp_pure k_168 rfl rfl ?_
  refine wp_kn k_168 rfl rfl ?_
  refine wp_pure k_168 rfl rfl ?_
  refine wp_pure k_168 rfl rfl ?_
  refine wp_ivX k_168 rfl [.int a] rfl kx (r := [.int (nI 0), .ref o]) (Nat.le_of_ble_eq_true rfl) (Nat.le_of_ble_eq_true rfl) rfl ?_
  refine c_at G.1 S (fun _ => Or.inr ⟨13, _, 12, rfl, rfl, rfl, ?_⟩) (fun k' y' p1 p4 => absurd ⟨k', (List.getElem?_eq_some_iff.mp p1).1, p4⟩ hn)
  refine wp_pure k_168 rfl rfl ?_
  refine wp_kn k_168 rfl rfl ?_
  exact wp_irt k_168 rfl rfl rfl (K (thH h 13) G.thr rfl rfl)
