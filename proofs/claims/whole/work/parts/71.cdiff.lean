theorem Lst.kd {h h1 : sm_H} {a a' e n n' : Nat} {f f' : Nat → Nat} (l : Lst h a e n f) (l' : Lst h1 a' e n' f') (hz : hZ h1 = hZ h) (sz : hC h1 (hZ h) = hC h (hZ h)) : hC h1 e = hC h e := by
  rcases l.2.2.2.2.2.2.2.1 with ⟨p1, p2, _⟩ | ⟨p1, _⟩ <;> rcases l'.2.2.2.2.2.2.2.1 with ⟨q1, q2, _⟩ | ⟨q1, _⟩
  · exact q2.trans p2.symm
  · rw [← p1] at sz; exact sz
  · rw [← hz, ← q1] at sz; exact sz
  · exact q1.trans p1.symm
theorem cO.fd {h h1 : sm_H} {P : Nat → Prop} {x sg eds ee go ins lf ef pl pls fnd efd e1 : Nat} {fa lo hi : Nat → Nat} {n nf : Nat} (c : cO h P x sg eds ee go ins lf ef pl pls fnd efd fa lo hi n nf) (z : ∀ a, P a → a < hT h) (ht : hT h ≤ hT h1) (k1 : hC h1 ee = hC h ee) (k2 : hC h1 ef = hC h ef) (b1 : ee < hT h) (b2 : ef < hT h) (b3 : ∀ e, e < n → hi e ≤ hT h) (he : (e1 = efd ∧ hC h1 e1 = hC h efd) ∨ hT h ≤ e1) : cO h1 P x sg eds ee go ins lf ef pl pls fnd e1 fa lo hi n nf := by
  obtain ⟨c1, c2, c3, c4, c5, c6, c7, c8, c9⟩ := c
  refine ⟨fun a ha => ⟨by have := (c1 a ha).1; omega, (c1 a ha).2⟩, c2, by rw [k1]; exact c3, by rw [k2]; exact c4, ?_, ?_, c7, fun e h9 a ha => ?_, c9⟩
  · rcases he with ⟨e0, k⟩ | e0
    · rw [k, e0]; exact c5
    · exact Or.inr (fun q => by have := z _ q; omega)
  · rw [k1, k2]
    rcases he with ⟨e0, k⟩ | e0
    · rw [e0]; exact c6
    · exact ⟨fun q => ⟨(c6.1 q).1, by omega⟩, fun _ => by omega⟩
  · have hb := b3 e h9
    have hl := ha.2
    have y := c8 e h9 a ha
    refine ⟨y.1, y.2.1, y.2.2.1, y.2.2.2.1, y.2.2.2.2.1, y.2.2.2.2.2.1, y.2.2.2.2.2.2.1, y.2.2.2.2.2.2.2.1, y.2.2.2.2.2.2.2.2.1, y.2.2.2.2.2.2.2.2.2.1, y.2.2.2.2.2.2.2.2.2.2.1, y.2.2.2.2.2.2.2.2.2.2.2.1, ?_, y.2.2.2.2.2.2.2.2.2.2.2.2.2⟩
    rcases he with ⟨e0, _⟩ | e0
    · rw [e0]; exact y.2.2.2.2.2.2.2.2.2.2.2.2.1
    · clear y; omega
theorem c_differ {h : sm_H} {Q : Nat → Option Value → sm_H → Prop} {x : Nat} {σ : Sg} {P : Nat → Prop} (C : CR h x σ P) (S : SI σ) {a : Int32} (Kt : ¬ (∃ e, e ≤ sE σ ∧ a = nI e) → Q 12 (some (.ref (hT h))) (thH h 11)) (K1 : ∀ e, e ≤ sE σ → a = nI e → ∀ h', CR h' x (dfS σ (mvN (sCur σ) (edP σ e) (sUn σ e) (edP σ e).length).1) P → (∀ a, P a → samA h h' a) → hT h ≤ hT h' → hT h' ≤ hT h + 60 → hU h ≤ hU h' → hU h' ≤ hU h + 8040 → hZ h' = hZ h → Q 0 (some (.int (mvN (sCur σ) (edP σ e) (sUn σ e) (edP σ e).length).2)) h') : sm_wp 14 0 [.ref x, .int a, jk, jk, jk, jk] [] h Q := by
  obtain ⟨sg, eds, ee, go, ins, lf, ef, pl, pls, fnd, efd, ea, fa, fda, lo, hi, dk, rc, ex, c1, c2, c3, c4, c5, c6, c7, c8, c9⟩ := id C
  have keE := c7.1.ke
  have keF := c6.2.2.1.ke
  have keD := c3.1.ke
  obtain ⟨x0, x1, x2, x3, x4, x5, x6, x7, x8⟩ := id c1
  have hlen := S.2.2.2.1
  have hlen8 := S.2.2.2.2.1
  have hsl : sE σ < (sEd σ).length := by unfold sE; omega
  have hCA : CA h x sg eds ee go ins lf ef pl pls fnd efd ea fa fda lo hi dk rc ex σ P := ⟨c1, c2, c3, c4, c5, c6, c7, c8, c9⟩
  by_cases q1 : ∃ e, e < (sEd σ).length ∧ a = nI e
  · obtain ⟨e, he, rfl⟩ := q1
    obtain ⟨E2, qE, _, hi2, lp2, ep2, pa2, bt2, X2, O2⟩ := c7.2 e he
    obtain ⟨E9, _, hE9, hi1, lp, ep, pa, bt, X, O⟩ := c7.2 (sE σ) hsl
    have hE9 := hE9 rfl
    subst hE9
    have n6 : E2.1.length ≤ 60 := by rw [qE]; exact S.2.2.2.2.2.2.1 e
    have hse : e ≤ sE σ := by unfold sE; omega
    have hWd2 : EdW (E2.1, [], []) := by rw [qE]; exact S.2.1 e
    refine wp_pure k_14 rfl rfl ?_
    refine wp_pure k_14 rfl rfl ?_
    refine wp_iv k_14 rfl [.int (nI e)] rfl x0 (r := []) (Nat.le_of_ble_eq_true rfl) (Nat.le_of_ble_eq_true rfl) rfl ?_
    refine c_edN hCA (fun k9 hk9 e9 => ?_) (fun q => absurd ⟨e, he, rfl⟩ q)
    have e9 := (nI_eq (by omega) (by omega)).mp e9
    subst e9
    refine ⟨rfl, ?_⟩
    refine wp_pure k_14 rfl rfl ?_
    refine wp_pure k_14 rfl rfl ?_
    refine wp_br k_14 rfl rfl rfl rfl (fun _ => ?_) (fun z => absurd trivial z)
    refine wp_pure k_14 rfl rfl ?_
    refine wp_get k_14 rfl x0 x8 ?_
    refine wp_iv k_14 rfl [] rfl c3.1.1 (r := []) (Nat.le_of_ble_eq_true rfl) (Nat.le_of_ble_eq_true rfl) rfl ?_
    refine c_clear c3.1 (fun h0 f0 L0 fr0 => ⟨rfl, ?_⟩)
    have nW : ∀ a, a < hT h → a ≠ fnd → (hC h efd = 7 → a ≠ efd) → samA h h0 a := fun a h1 h2 h3 => fr0.2.2.2.2.2 a h1 (fun q => q.elim h2 (fun q => h3 q.2 q.1))
    have sZ0 : samA h h0 (hZ h) := (nW _ (c9.2.2.2 _ c9.2.2.1) (fun q => (c8.1 fnd (by simp)).2 (by rw [← q]; exact c9.2.2.1)) (fun z q => by rw [← q, c9.1] at z; cases z))
    clear nW
    refine wp_kn k_14 rfl rfl ?_
    refine wp_pure k_14 rfl rfl ?_
    refine wp_kn k_14 rfl rfl ?_
    refine wp_pure k_14 rfl rfl ?_
    skip
    refine dn (n := E2.1.length) (P := fun i => ∀ (x5 : Value) (h1 : sm_H) (eN : Nat) (fN : Nat → Nat), cN h1 fnd eN fN (mvN (sCur σ) (edP σ e) (sUn σ e) i).1 → ((eN = efd ∧ hC h1 eN = hC h efd) ∨ hT h ≤ eN) → Fr h h1 (fun b => b = fnd ∨ (b = efd ∧ hC h efd = 7)) i (134 * i) → sm_wp 14 32 [.ref x, .int (nI e), .ref (ea e), .int (mvN (sCur σ) (edP σ e) (sUn σ e) i).2, .int (nI i), x5] [] h1 Q) ?_ ?_ 0 (Nat.zero_le _) jk h0 efd f0 ⟨L0, fun i k hi => by cases hi⟩ (Or.inl ⟨rfl, c3.1.kd L0 fr0.2.2.2.2.1 sZ0.1⟩) fr0
    · intro x5 h1 eN fN d3 he1 fr
      have nW : ∀ a, a < hT h → a ≠ fnd → (hC h efd = 7 → a ≠ efd) → samA h h1 a := fun a h1 h2 h3 => fr.2.2.2.2.2 a h1 (fun q => q.elim h2 (fun q => h3 q.2 q.1))
      have sE2 : ∀ b, inI (lo e) (hi e) b → samA h h1 b := fun b hb => nW b (by have := hb.2; omega) ((c8.2.2.2.2.2.2.2.1 e he b hb).2.2.2.2.2.2.2.2.2.2.2.1) (fun _ => (c8.2.2.2.2.2.2.2.1 e he b hb).2.2.2.2.2.2.2.2.2.2.2.2.1)
      have sE1 : ∀ b, inI (lo (sE σ)) (hi (sE σ)) b → samA h h1 b := fun b hb => nW b (by have := hb.2; omega) ((c8.2.2.2.2.2.2.2.1 (sE σ) hsl b hb).2.2.2.2.2.2.2.2.2.2.2.1) (fun _ => (c8.2.2.2.2.2.2.2.1 (sE σ) hsl b hb).2.2.2.2.2.2.2.2.2.2.2.2.1)
      have sZ : samA h h1 (hZ h) := (nW _ (c9.2.2.2 _ c9.2.2.1) (fun q => (c8.1 fnd (by simp)).2 (by rw [← q]; exact c9.2.2.1)) (fun z q => by rw [← q, c9.1] at z; cases z))
      have hz : hZ h1 = hZ h := fr.2.2.2.2.1
      have ht : hT h ≤ hT h1 := fr.1
      have X21 := (EdFO.same X2 O2 sE2 sZ hz ht).1
      have X11 := (EdFO.same X O sE1 sZ hz ht).1
      have d1 := c1.same (nW x (c8.1 _ (by simp)).1 (kne x0 c3.1.1 (by decide)) (fun _ => Ne.symm (kne2 keD x0 (by decide) (by decide))))
      obtain ⟨⟨e02, e12, e22, e32⟩, l12, hP2, hBt2⟩ := id X21
      obtain ⟨⟨e0, e1, e2, e3⟩, l1, hP, hBt⟩ := id X11
      obtain ⟨y0, y1, y2, y3, y4, y5, y6, y7, y8⟩ := id d1
      refine wp_pure k_14 rfl rfl ?_
      refine wp_pure k_14 rfl rfl ?_
      refine wp_get k_14 rfl e02 e12 ?_
      refine wp_iv k_14 rfl [] rfl l12.1 (r := [.int (nI (E2.1.length))]) (Nat.le_of_ble_eq_true rfl) (Nat.le_of_ble_eq_true rfl) rfl ?_
      refine c_size l12 ⟨rfl, ?_⟩
      refine wp_br k_14 rfl rfl rfl rfl (fun _ => ?_) (fun z => absurd (Int32.le_refl _) z)
      refine wp_pure k_14 rfl rfl ?_
      rw [qE] at d3 ⊢
      have c8' := c8.fd c9.2.2.2 ht (nW ee c7.1.2.2.2.2.2.2.1 (kne2 keE c3.1.1 (by decide) (by decide)) (fun z => keE.elim (fun y q => by rw [q, z] at y; cases y) (fun y => (c8.2.2.2.2.2.1.1 y).2))).1 (nW ef c6.2.2.1.2.2.2.2.2.2.1 (kne2 keF c3.1.1 (by decide) (by decide)) (fun z => keF.elim (fun y q => by rw [q, z] at y; cases y) (fun y => c8.2.2.2.2.2.1.2 y))).1 c7.1.2.2.2.2.2.2.1 c6.2.2.1.2.2.2.2.2.2.1 (fun e he => by obtain ⟨E', _, _, r⟩ := c7.2 e he; exact r.1) he1
      exact wp_irt k_14 rfl rfl rfl (K1 e hse rfl h1 ⟨sg, eds, ee, go, ins, lf, ef, pl, pls, fnd, eN, ea, fa, fN, lo, hi, dk, rc, ex, d1, (c2.same (nW sg (c8.1 _ (by simp)).1 (kne c2.1 c3.1.1 (by decide)) (fun _ => Ne.symm (kne2 keD c2.1 (by decide) (by decide))))), d3, (c4.same (nW pl (c8.1 _ (by simp)).1 (kne c4.1 c3.1.1 (by decide)) (fun _ => Ne.symm (kne2 keD c4.1 (by decide) (by decide)))) (nW pls (c8.1 _ (by simp)).1 (kne c4.2.2.2.1 c3.1.1 (by decide)) (fun _ => Ne.symm (kne2 keD c4.2.2.2.1 (by decide) (by decide))))), (c5.same (nW go (c8.1 _ (by simp)).1 (kne c5.1.1 c3.1.1 (by decide)) (fun _ => Ne.symm (kne2 keD c5.1.1 (by decide) (by decide))))), (c6.same (nW ins (c8.1 _ (by simp)).1 (kne c6.1 c3.1.1 (by decide)) (fun _ => Ne.symm (kne2 keD c6.1 (by decide) (by decide)))) (nW lf (c8.1 _ (by simp)).1 c8.2.1.2.2.2 (fun _ => Ne.symm (kne2 keD c6.2.2.1.1 (by decide) (by decide)))) (nW ef c6.2.2.1.2.2.2.2.2.2.1 (kne2 keF c3.1.1 (by decide) (by decide)) (fun z => keF.elim (fun y q => by rw [q, z] at y; cases y) (fun y => c8.2.2.2.2.2.1.2 y))) (fun i hi => (nW _ (c6.2.2.1.2.2.2.2.2.2.2.2 i hi).2.2.2 (kne (c6.2.2.2 i _ (List.getElem?_eq_getElem hi)).1 c3.1.1 (by decide)) (fun _ => Ne.symm (kne2 keD (c6.2.2.2 i _ (List.getElem?_eq_getElem hi)).1 (by decide) (by decide))))) hz ht), (c7.same (nW eds (c8.1 _ (by simp)).1 c8.2.1.2.2.1 (fun _ => Ne.symm (kne2 keD c7.1.1 (by decide) (by decide)))) (nW ee c7.1.2.2.2.2.2.2.1 (kne2 keE c3.1.1 (by decide) (by decide)) (fun z => keE.elim (fun y q => by rw [q, z] at y; cases y) (fun y => (c8.2.2.2.2.2.1.1 y).2))) (fun e he a ha => by
        have z := c8.2.2.2.2.2.2.2.1 e he a ha
        obtain ⟨E', _, _, r⟩ := c7.2 e he
        exact nW a (by have := r.1; have := ha.2; omega) (z.2.2.2.2.2.2.2.2.2.2.2.1) (fun _ => z.2.2.2.2.2.2.2.2.2.2.2.2.1)) (nW _ (c9.2.2.2 _ c9.2.2.1) (fun q => (c8.1 fnd (by simp)).2 (by rw [← q]; exact c9.2.2.1)) (fun z q => by rw [← q, c9.1] at z; cases z)) hz ht), c8', (c9.same (nW _ (c9.2.2.2 _ c9.2.2.1) (fun q => (c8.1 fnd (by simp)).2 (by rw [← q]; exact c9.2.2.1)) (fun z q => by rw [← q, c9.1] at z; cases z)) hz ht)⟩ (fun a ha => nW a (c9.2.2.2 a ha) (fun q => (c8.1 fnd (by simp)).2 (by rw [← q]; exact ha)) (fun z q => (c8.2.2.2.2.1.resolve_left (by rw [z]; decide)) (by rw [← q]; exact ha))) ht (by have := fr.2.1; omega) fr.2.2.1 (by have := fr.2.2.2.1; omega) hz)
    · intro i hi9 ih x5 h1 eN fN d3 he1 fr
      have nW : ∀ a, a < hT h → a ≠ fnd → (hC h efd = 7 → a ≠ efd) → samA h h1 a := fun a h1 h2 h3 => fr.2.2.2.2.2 a h1 (fun q => q.elim h2 (fun q => h3 q.2 q.1))
      have sE2 : ∀ b, inI (lo e) (hi e) b → samA h h1 b := fun b hb => nW b (by have := hb.2; omega) ((c8.2.2.2.2.2.2.2.1 e he b hb).2.2.2.2.2.2.2.2.2.2.2.1) (fun _ => (c8.2.2.2.2.2.2.2.1 e he b hb).2.2.2.2.2.2.2.2.2.2.2.2.1)
      have sE1 : ∀ b, inI (lo (sE σ)) (hi (sE σ)) b → samA h h1 b := fun b hb => nW b (by have := hb.2; omega) ((c8.2.2.2.2.2.2.2.1 (sE σ) hsl b hb).2.2.2.2.2.2.2.2.2.2.2.1) (fun _ => (c8.2.2.2.2.2.2.2.1 (sE σ) hsl b hb).2.2.2.2.2.2.2.2.2.2.2.2.1)
      have sZ : samA h h1 (hZ h) := (nW _ (c9.2.2.2 _ c9.2.2.1) (fun q => (c8.1 fnd (by simp)).2 (by rw [← q]; exact c9.2.2.1)) (fun z q => by rw [← q, c9.1] at z; cases z))
      have hz : hZ h1 = hZ h := fr.2.2.2.2.1
      have ht : hT h ≤ hT h1 := fr.1
      have X21 := (EdFO.same X2 O2 sE2 sZ hz ht).1
      have X11 := (EdFO.same X O sE1 sZ hz ht).1
      have d1 := c1.same (nW x (c8.1 _ (by simp)).1 (kne x0 c3.1.1 (by decide)) (fun _ => Ne.symm (kne2 keD x0 (by decide) (by decide))))
      obtain ⟨⟨e02, e12, e22, e32⟩, l12, hP2, hBt2⟩ := id X21
      obtain ⟨⟨e0, e1, e2, e3⟩, l1, hP, hBt⟩ := id X11
      obtain ⟨y0, y1, y2, y3, y4, y5, y6, y7, y8⟩ := id d1
      have hml := @mvN_le (sCur σ) (edP σ e) (sUn σ e) i
      obtain ⟨u9, hu9, eu9⟩ := S.2.2.1 e i
      have hPi := hP2 i hi9
      refine wp_pure k_14 rfl rfl ?_
      refine wp_pure k_14 rfl rfl ?_
      refine wp_get k_14 rfl e02 e12 ?_
      refine wp_iv k_14 rfl [] rfl l12.1 (r := [.int (nI i)]) (Nat.le_of_ble_eq_true rfl) (Nat.le_of_ble_eq_true rfl) rfl ?_
      refine c_size l12 ⟨rfl, ?_⟩
      refine wp_br k_14 rfl rfl rfl rfl (fun z => absurd z (nI_ge hi9 (by omega))) (fun _ => ?_)
      refine wp_pure k_14 rfl rfl ?_
      refine wp_get k_14 rfl e02 e12 ?_
      refine wp_pure k_14 rfl rfl ?_
      refine wp_iv k_14 rfl [.int (nI i)] rfl l12.1 (r := []) (Nat.le_of_ble_eq_true rfl) (Nat.le_of_ble_eq_true rfl) rfl ?_
      refine c_get l12 (by omega) ⟨rfl, ?_⟩
      refine wp_cc k_14 rfl (hP2 i (by omega)).1 ?_
      refine wp_pure k_14 rfl rfl ?_
      refine wp_pure k_14 rfl rfl ?_
      refine wp_get k_14 rfl (hP2 i (by omega)).1 ((hP2 i (by omega)).2.1 1 (by decide)) ?_
      refine wp_kn k_14 rfl rfl ?_
      refine wp_br k_14 rfl rfl rfl rfl (fun (z64 : ¬ atP E2.1 1 i = nI 1) => ?_) (fun (z64 : ¬ (¬ atP E2.1 1 i = nI 1)) => ?_)
      · refine wp_inc k_14 rfl rfl rfl ?_
        refine wp_br k_14 rfl rfl rfl rfl (fun _ => ?_) (fun z => absurd trivial z)
        rw [mvN_n (cur := sCur σ) (old := edP σ e) (un := sUn σ e) (fun q => z64 (by rw [qE]; exact q.1))] at ih
        exact ih _ h1 eN fN d3 he1 (fr.mono (fun _ _ q => q) (by omega) (by omega))
      · refine wp_pure k_14 rfl rfl ?_
        refine wp_get k_14 rfl (hP2 i (by omega)).1 (hPi.2.2.2.2.2.1.trans (congrArg Value.int eu9)) ?_
        refine wp_br k_14 rfl rfl rfl rfl (fun (z72 : nI u9 ≤ 0) => ?_) (fun (z72 : ¬ (nI u9 ≤ 0)) => ?_)
        · have y72 : u9 ≤ 0 := yLe (by omega) (by omega) (show nI u9 ≤ nI 0 from z72)
          refine wp_inc k_14 rfl rfl rfl ?_
          refine wp_br k_14 rfl rfl rfl rfl (fun _ => ?_) (fun z => absurd trivial z)
          rw [mvN_n (cur := sCur σ) (old := edP σ e) (un := sUn σ e) (fun q => q.2.1 (by rw [eu9, show u9 = 0 by omega]))] at ih
          exact ih _ h1 eN fN d3 he1 (fr.mono (fun _ _ q => q) (by omega) (by omega))
        · have y72 : 0 < u9 := yNLe (by omega) (by omega) (show ¬ (nI u9 ≤ nI 0) from z72)
          refine wp_pure k_14 rfl rfl ?_
          refine wp_get k_14 rfl y0 y4 ?_
          refine wp_pure k_14 rfl rfl ?_
          refine wp_iv k_14 rfl [.ref (pa2 i)] rfl e0 (r := []) (Nat.le_of_ble_eq_true rfl) (Nat.le_of_ble_eq_true rfl) rfl ?_
          refine c_keeps X11 X21 S.1 hWd2 (i := i) (by omega) (Classical.not_not.mp z64) (fun zk => ⟨rfl, ?_⟩) (fun zk => ⟨rfl, ?_⟩)
          · refine wp_br k_14 rfl rfl rfl rfl (fun _ => ?_) (fun z => absurd (show ¬ (nI 1 : Int32) = 0 by decide) z)
            refine wp_inc k_14 rfl rfl rfl ?_
            refine wp_br k_14 rfl rfl rfl rfl (fun _ => ?_) (fun z => absurd trivial z)
            rw [mvN_n (cur := sCur σ) (old := edP σ e) (un := sUn σ e) (fun q => q.2.2 (by rw [qE] at zk; exact zk))] at ih
            exact ih _ h1 eN fN d3 he1 (fr.mono (fun _ _ q => q) (by omega) (by omega))
          · refine wp_br k_14 rfl rfl rfl rfl (fun z => absurd z (show ¬ (¬ (nI 0 : Int32) = 0) by decide)) (fun _ => ?_)
            refine wp_pure k_14 rfl rfl ?_
            refine wp_get k_14 rfl y0 y8 ?_
            refine wp_pure k_14 rfl rfl ?_
            refine wp_iv k_14 rfl [.ref (pa2 i)] rfl d3.1.1 (r := []) (Nat.le_of_ble_eq_true rfl) (Nat.le_of_ble_eq_true rfl) rfl ?_
            refine c_add d3.1 (by omega) (by rw [hPi.1]; decide) (by rw [hPi.1]; decide) (l12.2.2.2.2.2.2.2.2 i hi9).2.2.2 (fun h2 e2 L2 w2 f2 => ⟨rfl, ?_⟩)
            have s9k : ∀ b, b < hT h1 → hC h1 b = 22 → samA h1 h2 b := fun b hb hk => f2.2.2.2.2.2 b hb (fun q => q.elim (kne hk d3.1.1 (by decide)) (fun q => kne hk q.2 (by decide) q.1))
            have s9 := s9k (pa2 i) (l12.2.2.2.2.2.2.2.2 i hi9).2.2.2 hPi.1
            refine wp_pure k_14 rfl rfl ?_
            refine wp_pure k_14 rfl rfl ?_
            refine wp_pure k_14 rfl rfl ?_
            refine wp_get k_14 rfl (s9.1.trans hPi.1) ((s9.2.2.1 _).trans (hPi.2.2.2.2.2.1.trans (congrArg Value.int eu9))) ?_
            refine wp_iadd k_14 rfl ?_
            refine wp_pure k_14 rfl rfl ?_
            refine wp_inc k_14 rfl rfl rfl ?_
            refine wp_br k_14 rfl rfl rfl rfl (fun _ => ?_) (fun z => absurd trivial z)
            have hmp : mvP (sCur σ) (edP σ e) (sUn σ e) i := ⟨by rw [← qE]; exact Classical.not_not.mp z64, fun q => by rw [eu9] at q; have := (nI_eq (by omega) (by decide)).mp q; omega, by rw [← qE]; exact zk⟩
            rw [mvN_y (cur := sCur σ) (old := edP σ e) (un := sUn σ e) hmp] at ih
            rw [← eu9]
            have zk14 : hC h1 (hZ h1) = 14 := by rw [hz]; exact sZ.1.trans c9.1
            have sz2 : samA h1 h2 (hZ h1) := f2.2.2.2.2.2 _ (by rw [hz]; have := c9.2.2.2 _ c9.2.2.1; omega) (fun q => q.elim (kne zk14 d3.1.1 (by decide)) (fun q => kne zk14 q.2 (by decide) q.1))
            refine ih _ h2 e2 _ ⟨by rw [List.length_append]; exact L2, fun j y hj => ?_⟩ ?_ (fr.trans f2 (fun _ _ q => q) (fun b hb q => ?_) (Nat.le_refl _) (by omega))
            · by_cases w : j < (mvN (sCur σ) (edP σ e) (sUn σ e) i).1.length
              · rw [List.getElem?_append_left w] at hj
                rw [if_neg (by omega)]
                have y1 := d3.2 j y hj
                have y2 := s9k (fN j) (d3.1.2.2.2.2.2.2.2.2 j w).2.2.2 y1.1
                exact ⟨y2.1.trans y1.1, (y2.2.2.1 _).trans y1.2⟩
              · have hk := (List.getElem?_eq_some_iff.mp hj).1
                rw [List.length_append] at hk
                have e2 : j = (mvN (sCur σ) (edP σ e) (sUn σ e) i).1.length := by have : j < (mvN (sCur σ) (edP σ e) (sUn σ e) i).1.length + 1 := hk; omega
                rw [e2, List.getElem?_append_right (Nat.le_refl _), Nat.sub_self] at hj
                cases hj
                rw [if_pos e2]
                exact ⟨s9.1.trans hPi.1, (s9.2.2.1 _).trans hPi.2.2.2.2.2.2.1⟩
            · rcases w2 with ⟨w2, w3⟩ | w2
              · rw [w2]
                rw [w2] at L2
                rcases he1 with ⟨z1, z2⟩ | z1
                · exact Or.inl ⟨z1, (d3.1.kd L2 f2.2.2.2.2.1 sz2.1).trans z2⟩
                · exact Or.inr z1
              · exact Or.inr (by omega)
            · rcases q with q | ⟨q, q7⟩
              · exact Or.inl q
              · rcases he1 with ⟨z1, z2⟩ | z1
                · exact Or.inr ⟨q.trans z1, z2.symm.trans q7⟩
                · omega
  · skip
    refine wp_pure k_14 rfl rfl ?_
    refine wp_pure k_14 rfl rfl ?_
    refine wp_iv k_14 rfl [.int a] rfl x0 (r := []) (Nat.le_of_ble_eq_true rfl) (Nat.le_of_ble_eq_true rfl) rfl ?_
    refine c_edN hCA (fun k9 hk9 e9 => absurd ⟨k9, hk9, e9⟩ q1) (fun _ => ⟨rfl, ?_⟩)
    refine wp_pure k_14 rfl rfl ?_
    refine wp_pure k_14 rfl rfl ?_
    refine wp_br k_14 rfl rfl rfl rfl (fun _ => ?_) (fun z => absurd trivial z)
    exact wp_th k_14 rfl (Kt (fun ⟨e9, h1, f1⟩ => q1 ⟨e9, by omega, f1⟩))
