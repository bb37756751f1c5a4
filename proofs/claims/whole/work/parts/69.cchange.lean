/-! the class is changed: a sign, a filling, a difference -/
theorem wp_i2c {j pc : Nat} {L r : List Value} {h : sm_H} {Q : Nat → Option Value → sm_H → Prop} {t : Nat → Option (Instr × Nat × Nat)} {ci kz : Nat} {c : Int32} (hx : sm_tab j t) (hi : t pc = some (.i2c, ci, kz)) (hc : ∃ d, d < 128 ∧ c = nI d) (kk : sm_wp j (pc + 1) L (.int c :: r) h Q) : sm_wp j pc L (.int c :: r) h Q := by
  refine wp_pure hx hi rfl ?_
  obtain ⟨d, hd, rfl⟩ := hc
  have e : ((nI d).toUInt32 % 65536).toInt32 = nI d := (by decide +kernel : ∀ d, d < 128 → ((nI d).toUInt32 % 65536).toInt32 = nI d) d hd
  show sm_wp j (pc + 1) L (.int ((nI d).toUInt32 % 65536).toInt32 :: r) h Q
  rw [e]
  exact kk
theorem nar_c {c : Int32} (hc : ∃ d, d < 128 ∧ c = nI d) : narrow .char (.int c) = .int c := by
  obtain ⟨d, hd, rfl⟩ := hc
  exact (by decide +kernel : ∀ d, d < 128 → narrow .char (.int (nI d)) = .int (nI d)) d hd
theorem okS_d {c : Int32} (h : okS c) : ∃ d, d < 128 ∧ c = nI d := by
  rcases h with h | ⟨h1, h2⟩
  · exact ⟨10, by decide, h⟩
  · obtain ⟨j, hj, rfl⟩ := nI_of (x := c) (fun z => absurd (Int32.le_trans h1 (Int32.le_of_lt z)) (by decide))
    exact ⟨j, by have := (nI_leI (a := j) (b := 126) hj (by decide)).mp h2; omega, rfl⟩
theorem c_sign {h : sm_H} {Q : Nat → Option Value → sm_H → Prop} {x : Nat} {σ : Sg} {P : Nat → Prop} (C : CR h x σ P) (S : SI σ) (hl : sLen σ < 600) {c : Int32} (Kt : ¬ okS c → Q 12 (some (.ref (hT h))) (thH h 11)) (K1 : okS c → ∀ h', CR h' x (sgS σ c) P → (∀ a, P a → samA h h' a) → hT h' = hT h → hU h' = hU h → hZ h' = hZ h → Q 0 none h') : sm_wp 5 0 [.ref x, .int c] [] h Q := by
  obtain ⟨sg, eds, ee, go, ins, lf, ef, pl, pls, fnd, efd, ea, fa, fda, lo, hi, dk, rc, ex, c1, c2, c3, c4, c5, c6, c7, c8, c9⟩ := id C
  have keE := c7.1.ke
  have keF := c6.2.2.1.ke
  have keD := c3.1.ke
  obtain ⟨x0, x1, x2, x3, x4, x5, x6, x7, x8⟩ := id c1
  by_cases hok : okS c
  · by_cases q1 : c = nI 10
    · skip
      refine wp_pure k_5 rfl rfl ?_
      refine wp_kn k_5 rfl rfl ?_
      refine wp_br k_5 rfl rfl rfl rfl (fun _ => ?_) (fun z => absurd q1 z)
      refine wp_pure k_5 rfl rfl ?_
      refine wp_get k_5 rfl x0 x2 ?_
      refine wp_pure k_5 rfl rfl ?_
      refine wp_get k_5 rfl x0 x1 ?_
      refine wp_len k_5 rfl (by rw [c2.1]; rfl) c2.2.1 ?_
      refine wp_br k_5 rfl rfl rfl rfl (fun _ => ?_) (fun z => absurd (show nI (sLen σ) < nI 3000 from ((nI_ltI (by omega) (by decide)).mpr (by omega))) z)
      refine wp_pure k_5 rfl rfl ?_
      refine wp_get k_5 rfl x0 x1 ?_
      refine wp_pure k_5 rfl rfl ?_
      refine wp_get k_5 rfl x0 x2 ?_
      refine wp_pure k_5 rfl rfl ?_
      refine wp_i2c k_5 rfl (okS_d hok) ?_
      refine wp_cast1 k_5 rfl c2.1 (nLt c2.2.1 (show sLen σ < 3000 by omega)) (nLb c2.2.1 (by omega)) (nar_c (okS_d hok)) ?_
      refine wp_pure k_5 rfl rfl ?_
      refine wp_pure k_5 rfl rfl ?_
      refine wp_get k_5 rfl x0 x2 ?_
      refine wp_kn k_5 rfl rfl ?_
      refine wp_addN k_5 rfl ?_
      refine wp_put k_5 rfl x0 rfl rfl ?_
      refine wp_vrt k_5 rfl rfl ?_
      generalize hh' : putF (putA h sg (sLen σ) (.int c)) 1 x (.int (nI (sLen σ + 1))) = h'
      have nW : ∀ a, a < hT h → a ≠ x → a ≠ sg → samA h h' a := fun a _ h1 h2 => by rw [← hh']; exact (samA.putA h2).trans (samA.putF h1)
      have hT' : hT h' = hT h := by rw [← hh']; rfl
      have hU' : hU h' = hU h := by rw [← hh']; rfl
      have hz : hZ h' = hZ h := by rw [← hh']; rfl
      have ht : hT h ≤ hT h' := by omega
      refine K1 hok h' ⟨sg, eds, ee, go, ins, lf, ef, pl, pls, fnd, efd, ea, fa, fda, lo, hi, dk, rc, ex, ?_, ?_, (c3.same (nW fnd (c8.1 _ (by simp)).1 (kne c3.1.1 x0 (by decide)) (kne c3.1.1 c2.1 (by decide))) (nW efd c3.1.2.2.2.2.2.2.1 (kne2 keD x0 (by decide) (by decide)) (kne2 keD c2.1 (by decide) (by decide))) (fun i hi => ⟨(nW _ (c3.1.2.2.2.2.2.2.2.2 i hi).2.2.2 (kne (c3.k hi) x0 (by decide)) (kne (c3.k hi) c2.1 (by decide))).1, (nW _ (c3.1.2.2.2.2.2.2.2.2 i hi).2.2.2 (kne (c3.k hi) x0 (by decide)) (kne (c3.k hi) c2.1 (by decide))).2.2.1 _⟩) hz ht), (c4.same (nW pl (c8.1 _ (by simp)).1 (kne c4.1 x0 (by decide)) (kne c4.1 c2.1 (by decide))) (nW pls (c8.1 _ (by simp)).1 (kne c4.2.2.2.1 x0 (by decide)) (Ne.symm c8.2.1.1))), (c5.same (nW go (c8.1 _ (by simp)).1 (kne c5.1.1 x0 (by decide)) (kne c5.1.1 c2.1 (by decide)))), (c6.same (nW ins (c8.1 _ (by simp)).1 (kne c6.1 x0 (by decide)) (kne c6.1 c2.1 (by decide))) (nW lf (c8.1 _ (by simp)).1 (kne c6.2.2.1.1 x0 (by decide)) (kne c6.2.2.1.1 c2.1 (by decide))) (nW ef c6.2.2.1.2.2.2.2.2.2.1 (kne2 keF x0 (by decide) (by decide)) (kne2 keF c2.1 (by decide) (by decide))) (fun i hi => (nW _ (c6.2.2.1.2.2.2.2.2.2.2.2 i hi).2.2.2 (kne (c6.2.2.2 i _ (List.getElem?_eq_getElem hi)).1 x0 (by decide)) (kne (c6.2.2.2 i _ (List.getElem?_eq_getElem hi)).1 c2.1 (by decide)))) hz ht), (c7.same (nW eds (c8.1 _ (by simp)).1 (kne c7.1.1 x0 (by decide)) (kne c7.1.1 c2.1 (by decide))) (nW ee c7.1.2.2.2.2.2.2.1 (kne2 keE x0 (by decide) (by decide)) (kne2 keE c2.1 (by decide) (by decide))) (fun e he a ha => by
        have z := c8.2.2.2.2.2.2.2.1 e he a ha
        obtain ⟨E', _, _, r⟩ := c7.2 e he
        exact nW a (by have := r.1; have := ha.2; omega) (z.2.1) (z.2.2.1)) (nW _ (c9.2.2.2 _ c9.2.2.1) (fun q => (c8.1 x (by simp)).2 (by rw [← q]; exact c9.2.2.1)) (fun q => (c8.1 sg (by simp)).2 (by rw [← q]; exact c9.2.2.1))) hz ht), (c8.same ht (nW ee c7.1.2.2.2.2.2.2.1 (kne2 keE x0 (by decide) (by decide)) (kne2 keE c2.1 (by decide) (by decide))).1 (nW ef c6.2.2.1.2.2.2.2.2.2.1 (kne2 keF x0 (by decide) (by decide)) (kne2 keF c2.1 (by decide) (by decide))).1 (nW efd c3.1.2.2.2.2.2.2.1 (kne2 keD x0 (by decide) (by decide)) (kne2 keD c2.1 (by decide) (by decide))).1), (c9.same (nW _ (c9.2.2.2 _ c9.2.2.1) (fun q => (c8.1 x (by simp)).2 (by rw [← q]; exact c9.2.2.1)) (fun q => (c8.1 sg (by simp)).2 (by rw [← q]; exact c9.2.2.1))) hz ht)⟩ (fun a ha => nW a (c9.2.2.2 a ha) (fun q => (c8.1 x (by simp)).2 (by rw [← q]; exact ha)) (fun q => (c8.1 sg (by simp)).2 (by rw [← q]; exact ha))) hT' hU' hz
      · rw [← hh']
        exact ⟨x0, (hF_putF_f (by decide)).trans x1, hF_putF, (hF_putF_f (by decide)).trans x3, (hF_putF_f (by decide)).trans x4, (hF_putF_f (by decide)).trans x5, (hF_putF_f (by decide)).trans x6, (hF_putF_f (by decide)).trans x7, (hF_putF_f (by decide)).trans x8⟩
      · rw [← hh']
        refine ⟨c2.1, c2.2.1, fun i hi => ?_⟩
        show (putA h sg (sLen σ) (.int c)).2.2.2.2.2.1 sg i = .int (if i = sLen σ then c else sTx σ i)
        have hi : i < sLen σ + 1 := hi
        by_cases q : i = sLen σ
        · rw [if_pos q, q]; exact hA_putA
        · rw [if_neg q]; exact (hA_putA_i q).trans (c2.2.2 i (by omega))
    · have q2 := hok.resolve_left q1
      refine wp_pure k_5 rfl rfl ?_
      refine wp_kn k_5 rfl rfl ?_
      refine wp_br k_5 rfl rfl rfl rfl (fun z => absurd z q1) (fun _ => ?_)
      refine wp_pure k_5 rfl rfl ?_
      refine wp_kn k_5 rfl rfl ?_
      refine wp_br k_5 rfl rfl rfl rfl (fun z => absurd z (Int32.not_lt.mpr q2.1)) (fun _ => ?_)
      refine wp_pure k_5 rfl rfl ?_
      refine wp_kn k_5 rfl rfl ?_
      refine wp_br k_5 rfl rfl rfl rfl (fun _ => ?_) (fun z => absurd q2.2 z)
      refine wp_pure k_5 rfl rfl ?_
      refine wp_get k_5 rfl x0 x2 ?_
      refine wp_pure k_5 rfl rfl ?_
      refine wp_get k_5 rfl x0 x1 ?_
      refine wp_len k_5 rfl (by rw [c2.1]; rfl) c2.2.1 ?_
      refine wp_br k_5 rfl rfl rfl rfl (fun _ => ?_) (fun z => absurd (show nI (sLen σ) < nI 3000 from ((nI_ltI (by omega) (by decide)).mpr (by omega))) z)
      refine wp_pure k_5 rfl rfl ?_
      refine wp_get k_5 rfl x0 x1 ?_
      refine wp_pure k_5 rfl rfl ?_
      refine wp_get k_5 rfl x0 x2 ?_
      refine wp_pure k_5 rfl rfl ?_
      refine wp_i2c k_5 rfl (okS_d hok) ?_
      refine wp_cast1 k_5 rfl c2.1 (nLt c2.2.1 (show sLen σ < 3000 by omega)) (nLb c2.2.1 (by omega)) (nar_c (okS_d hok)) ?_
      refine wp_pure k_5 rfl rfl ?_
      refine wp_pure k_5 rfl rfl ?_
      refine wp_get k_5 rfl x0 x2 ?_
      refine wp_kn k_5 rfl rfl ?_
      refine wp_addN k_5 rfl ?_
      refine wp_put k_5 rfl x0 rfl rfl ?_
      refine wp_vrt k_5 rfl rfl ?_
      generalize hh' : putF (putA h sg (sLen σ) (.int c)) 1 x (.int (nI (sLen σ + 1))) = h'
      have nW : ∀ a, a < hT h → a ≠ x → a ≠ sg → samA h h' a := fun a _ h1 h2 => by rw [← hh']; exact (samA.putA h2).trans (samA.putF h1)
      have hT' : hT h' = hT h := by rw [← hh']; rfl
      have hU' : hU h' = hU h := by rw [← hh']; rfl
      have hz : hZ h' = hZ h := by rw [← hh']; rfl
      have ht : hT h ≤ hT h' := by omega
      refine K1 hok h' ⟨sg, eds, ee, go, ins, lf, ef, pl, pls, fnd, efd, ea, fa, fda, lo, hi, dk, rc, ex, ?_, ?_, (c3.same (nW fnd (c8.1 _ (by simp)).1 (kne c3.1.1 x0 (by decide)) (kne c3.1.1 c2.1 (by decide))) (nW efd c3.1.2.2.2.2.2.2.1 (kne2 keD x0 (by decide) (by decide)) (kne2 keD c2.1 (by decide) (by decide))) (fun i hi => ⟨(nW _ (c3.1.2.2.2.2.2.2.2.2 i hi).2.2.2 (kne (c3.k hi) x0 (by decide)) (kne (c3.k hi) c2.1 (by decide))).1, (nW _ (c3.1.2.2.2.2.2.2.2.2 i hi).2.2.2 (kne (c3.k hi) x0 (by decide)) (kne (c3.k hi) c2.1 (by decide))).2.2.1 _⟩) hz ht), (c4.same (nW pl (c8.1 _ (by simp)).1 (kne c4.1 x0 (by decide)) (kne c4.1 c2.1 (by decide))) (nW pls (c8.1 _ (by simp)).1 (kne c4.2.2.2.1 x0 (by decide)) (Ne.symm c8.2.1.1))), (c5.same (nW go (c8.1 _ (by simp)).1 (kne c5.1.1 x0 (by decide)) (kne c5.1.1 c2.1 (by decide)))), (c6.same (nW ins (c8.1 _ (by simp)).1 (kne c6.1 x0 (by decide)) (kne c6.1 c2.1 (by decide))) (nW lf (c8.1 _ (by simp)).1 (kne c6.2.2.1.1 x0 (by decide)) (kne c6.2.2.1.1 c2.1 (by decide))) (nW ef c6.2.2.1.2.2.2.2.2.2.1 (kne2 keF x0 (by decide) (by decide)) (kne2 keF c2.1 (by decide) (by decide))) (fun i hi => (nW _ (c6.2.2.1.2.2.2.2.2.2.2.2 i hi).2.2.2 (kne (c6.2.2.2 i _ (List.getElem?_eq_getElem hi)).1 x0 (by decide)) (kne (c6.2.2.2 i _ (List.getElem?_eq_getElem hi)).1 c2.1 (by decide)))) hz ht), (c7.same (nW eds (c8.1 _ (by simp)).1 (kne c7.1.1 x0 (by decide)) (kne c7.1.1 c2.1 (by decide))) (nW ee c7.1.2.2.2.2.2.2.1 (kne2 keE x0 (by decide) (by decide)) (kne2 keE c2.1 (by decide) (by decide))) (fun e he a ha => by
        have z := c8.2.2.2.2.2.2.2.1 e he a ha
        obtain ⟨E', _, _, r⟩ := c7.2 e he
        exact nW a (by have := r.1; have := ha.2; omega) (z.2.1) (z.2.2.1)) (nW _ (c9.2.2.2 _ c9.2.2.1) (fun q => (c8.1 x (by simp)).2 (by rw [← q]; exact c9.2.2.1)) (fun q => (c8.1 sg (by simp)).2 (by rw [← q]; exact c9.2.2.1))) hz ht), (c8.same ht (nW ee c7.1.2.2.2.2.2.2.1 (kne2 keE x0 (by decide) (by decide)) (kne2 keE c2.1 (by decide) (by decide))).1 (nW ef c6.2.2.1.2.2.2.2.2.2.1 (kne2 keF x0 (by decide) (by decide)) (kne2 keF c2.1 (by decide) (by decide))).1 (nW efd c3.1.2.2.2.2.2.2.1 (kne2 keD x0 (by decide) (by decide)) (kne2 keD c2.1 (by decide) (by decide))).1), (c9.same (nW _ (c9.2.2.2 _ c9.2.2.1) (fun q => (c8.1 x (by simp)).2 (by rw [← q]; exact c9.2.2.1)) (fun q => (c8.1 sg (by simp)).2 (by rw [← q]; exact c9.2.2.1))) hz ht)⟩ (fun a ha => nW a (c9.2.2.2 a ha) (fun q => (c8.1 x (by simp)).2 (by rw [← q]; exact ha)) (fun q => (c8.1 sg (by simp)).2 (by rw [← q]; exact ha))) hT' hU' hz
      · rw [← hh']
        exact ⟨x0, (hF_putF_f (by decide)).trans x1, hF_putF, (hF_putF_f (by decide)).trans x3, (hF_putF_f (by decide)).trans x4, (hF_putF_f (by decide)).trans x5, (hF_putF_f (by decide)).trans x6, (hF_putF_f (by decide)).trans x7, (hF_putF_f (by decide)).trans x8⟩
      · rw [← hh']
        refine ⟨c2.1, c2.2.1, fun i hi => ?_⟩
        show (putA h sg (sLen σ) (.int c)).2.2.2.2.2.1 sg i = .int (if i = sLen σ then c else sTx σ i)
        have hi : i < sLen σ + 1 := hi
        by_cases q : i = sLen σ
        · rw [if_pos q, q]; exact hA_putA
        · rw [if_neg q]; exact (hA_putA_i q).trans (c2.2.2 i (by omega))
  · have q1 : ¬ c = nI 10 := fun q => hok (Or.inl q)
    by_cases q2 : c < nI 32
    · skip
      refine wp_pure k_5 rfl rfl ?_
      refine wp_kn k_5 rfl rfl ?_
      refine wp_br k_5 rfl rfl rfl rfl (fun z => absurd z q1) (fun _ => ?_)
      refine wp_pure k_5 rfl rfl ?_
      refine wp_kn k_5 rfl rfl ?_
      refine wp_br k_5 rfl rfl rfl rfl (fun _ => ?_) (fun z => absurd q2 z)
      exact wp_th k_5 rfl (Kt hok)
    · skip
      refine wp_pure k_5 rfl rfl ?_
      refine wp_kn k_5 rfl rfl ?_
      refine wp_br k_5 rfl rfl rfl rfl (fun z => absurd z q1) (fun _ => ?_)
      refine wp_pure k_5 rfl rfl ?_
      refine wp_kn k_5 rfl rfl ?_
      refine wp_br k_5 rfl rfl rfl rfl (fun z => absurd z q2) (fun _ => ?_)
      refine wp_pure k_5 rfl rfl ?_
      refine wp_kn k_5 rfl rfl ?_
      refine wp_br k_5 rfl rfl rfl rfl (fun z => absurd z (fun q => hok (Or.inr ⟨Int32.not_lt.mp q2, q⟩))) (fun _ => ?_)
      exact wp_th k_5 rfl (Kt hok)
theorem c_edN {h : sm_H} {Q : Nat → Option Value → sm_H → Prop} {x sg eds ee go ins lf ef pl pls fnd efd : Nat} {ea fa fda lo hi : Nat → Nat} {dk rc ex : Nat} {σ : Sg} {P : Nat → Prop} (C : CA h x sg eds ee go ins lf ef pl pls fnd efd ea fa fda lo hi dk rc ex σ P) {i : Int32} (K1 : ∀ e, e < (sEd σ).length → i = nI e → Q 0 (some (.ref (ea e))) h) (K0 : ¬ (∃ e, e < (sEd σ).length ∧ i = nI e) → Q 0 (some .null) h) : sm_wp 13 0 [.ref x, .int i] [] h Q := by
  obtain ⟨c1, c2, c3, c4, c5, c6, c7, c8, c9⟩ := C
  obtain ⟨x0, x1, x2, x3, x4, x5, x6, x7, x8⟩ := c1
  have n1 := c7.1.2.2.2.2.1
  have hk17 : ∀ e, e < (sEd σ).length → hC h (ea e) = 17 := fun e he => by
    obtain ⟨E', _, _, _, lp, ep, pa, bt, X, _⟩ := c7.2 e he
    exact X.1.1
  by_cases z1 : i < 0
  · skip
    refine wp_pure k_13 rfl rfl ?_
    refine wp_br k_13 rfl rfl rfl rfl (fun _ => ?_) (fun z => absurd z1 z)
    refine wp_pure k_13 rfl rfl ?_
    exact wp_rt k_13 rfl rfl rfl rfl rfl rfl rfl (K0 (fun ⟨k, hk, e⟩ => nI_pos (n := k) (by omega) (by rw [← e]; exact z1)))
  obtain ⟨k, hk, rfl⟩ := nI_of z1
  refine wp_pure k_13 rfl rfl ?_
  refine wp_br k_13 rfl rfl rfl rfl (fun z => absurd z z1) (fun _ => ?_)
  refine wp_pure k_13 rfl rfl ?_
  refine wp_pure k_13 rfl rfl ?_
  refine wp_get k_13 rfl x0 x3 ?_
  refine wp_iv k_13 rfl [] rfl c7.1.1 (r := [.int (nI k)]) (Nat.le_of_ble_eq_true rfl) (Nat.le_of_ble_eq_true rfl) rfl ?_
  refine c_size c7.1 ⟨rfl, ?_⟩
  refine wp_br k_13 rfl rfl rfl rfl (fun (z12 : nI ((sEd σ).length) ≤ nI k) => ?_) (fun (z12 : ¬ (nI ((sEd σ).length) ≤ nI k)) => ?_)
  · have y12 : (sEd σ).length ≤ k := yLe (by omega) (by omega) z12
    refine wp_pure k_13 rfl rfl ?_
    exact wp_rt k_13 rfl rfl rfl rfl rfl rfl rfl (K0 (fun ⟨k9, hk9, e⟩ => by have := (nI_eq hk (by omega)).mp e; omega))
  · have y12 : k < (sEd σ).length := yNLe (by omega) (by omega) z12
    refine wp_pure k_13 rfl rfl ?_
    refine wp_get k_13 rfl x0 x3 ?_
    refine wp_pure k_13 rfl rfl ?_
    refine wp_iv k_13 rfl [.int (nI k)] rfl c7.1.1 (r := []) (Nat.le_of_ble_eq_true rfl) (Nat.le_of_ble_eq_true rfl) rfl ?_
    refine c_get c7.1 (by omega) ⟨rfl, ?_⟩
    refine wp_cc k_13 rfl (hk17 k y12) ?_
    refine wp_br k_13 rfl rfl rfl rfl (fun _ => ?_) (fun z => absurd trivial z)
    exact wp_rt k_13 rfl rfl rfl rfl rfl rfl rfl (K1 k y12 rfl)
