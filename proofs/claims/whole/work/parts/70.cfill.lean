theorem EdF.fill {h : sm_H} {D : Nat → Prop} {ed lp ep : Nat} {pa : Nat → Nat} {bt : Nat → Nat → Nat} {E : Ed} {un : Nat → Int32} (X : EdF h ed lp ep pa bt E un) (O : EdO h D ed lp ep pa E) {k : Nat} (hk : k < E.1.length) {u : Int32} : EdF (putF h 778 (pa k) (.int u)) ed lp ep pa bt E (fun j => if j = k then u else un j) := by
  obtain ⟨⟨e0, e1, e2, e3⟩, l1, hP, hB⟩ := X
  have kp := (hP k hk).1
  have sE_ := samA.putF (h := h) (f := 778) (v := .int u) (kne e0 kp (by decide))
  refine ⟨⟨e0, (sE_.2.2.1 _).trans e1, (sE_.2.2.1 _).trans e2, (sE_.2.2.1 _).trans e3⟩, l1.same (samA.putF (kne l1.1 kp (by decide))) (samA.putF (kne2 l1.ke kp (by decide) (by decide))) (fun _ _ => rfl) rfl (Nat.le_refl _), fun j hj => ?_, hB⟩
  dsimp only
  by_cases q : j = k
  · subst q
    rw [if_pos rfl]
    obtain ⟨p0, p1, p2, p3, p4, p5, p6, p7, p8, p9, p10⟩ := hP j hj
    exact ⟨p0, fun a ha => (hF_putF_f (by omega)).trans (p1 a ha), (hF_putF_f (by decide)).trans p2, (hF_putF_f (by decide)).trans p3, (hF_putF_f (by decide)).trans p4, hF_putF, (hF_putF_f (by decide)).trans p6, (hF_putF_f (by decide)).trans p7, (hF_putF_f (by decide)).trans p8, (hF_putF_f (by decide)).trans p9, (hF_putF_f (by decide)).trans p10⟩
  · rw [if_neg q]
    exact (hP j hj).same (samA.putF (fun z => q (O.2.2.2 j k hj hk z)))
theorem c_fill {h : sm_H} {Q : Nat → Option Value → sm_H → Prop} {x : Nat} {σ : Sg} {P : Nat → Prop} (C : CR h x σ P) (S : SI σ) {a b c : Int32} (Kt : ¬ (∃ e k u, e ≤ sE σ ∧ k < (edP σ e).length ∧ u ≤ 99 ∧ a = nI e ∧ b = nI k ∧ c = nI u ∧ atP (edP σ e) 1 k = nI 1) → Q 12 (some (.ref (hT h))) (thH h 11)) (K1 : ∀ e k u, e ≤ sE σ → k < (edP σ e).length → u ≤ 99 → a = nI e → b = nI k → c = nI u → atP (edP σ e) 1 k = nI 1 → ∀ h', CR h' x (flS σ e k (nI u)) P → (∀ a, P a → samA h h' a) → hT h' = hT h → hU h' = hU h → hZ h' = hZ h → Q 0 none h') : sm_wp 12 0 [.ref x, .int a, .int b, .int c, jk, jk] [] h Q := by
  obtain ⟨sg, eds, ee, go, ins, lf, ef, pl, pls, fnd, efd, ea, fa, fda, lo, hi, dk, rc, ex, c1, c2, c3, c4, c5, c6, c7, c8, c9⟩ := id C
  have keE := c7.1.ke
  have keF := c6.2.2.1.ke
  have keD := c3.1.ke
  obtain ⟨x0, x1, x2, x3, x4, x5, x6, x7, x8⟩ := id c1
  have hlen := S.2.2.2.1
  have hlen8 := S.2.2.2.2.1
  have hsl : sE σ < (sEd σ).length := by unfold sE; omega
  have hCA : CA h x sg eds ee go ins lf ef pl pls fnd efd ea fa fda lo hi dk rc ex σ P := ⟨c1, c2, c3, c4, c5, c6, c7, c8, c9⟩
  by_cases q1 : ∃ e, e < (sEd σ).length ∧ a = nI e
  · obtain ⟨e, he, rfl⟩ := q1
    obtain ⟨E9, qE, qL, _, lp, ep, pa, bt, X, O⟩ := c7.2 e he
    obtain ⟨⟨e0, e1, e2, e3⟩, l1, hP, hBt⟩ := id X
    have n6 : E9.1.length ≤ 60 := by rw [qE]; exact S.2.2.2.2.2.2.1 e
    have hse : e ≤ sE σ := by unfold sE; omega
    by_cases q2 : ∃ k, k < E9.1.length ∧ b = nI k
    · obtain ⟨k, hk, rfl⟩ := q2
      by_cases kb : atP E9.1 1 k = nI 1
      · by_cases z1 : c < 0
        · skip
          refine wp_pure k_12 rfl rfl ?_
          refine wp_pure k_12 rfl rfl ?_
          refine wp_iv k_12 rfl [.int (nI e)] rfl x0 (r := []) (Nat.le_of_ble_eq_true rfl) (Nat.le_of_ble_eq_true rfl) rfl ?_
          refine c_edN hCA (fun k9 hk9 e9 => ?_) (fun q => absurd ⟨e, he, rfl⟩ q)
          have e9 := (nI_eq (by omega) (by omega)).mp e9
          subst e9
          refine ⟨rfl, ?_⟩
          refine wp_pure k_12 rfl rfl ?_
          refine wp_pure k_12 rfl rfl ?_
          refine wp_br k_12 rfl rfl rfl rfl (fun _ => ?_) (fun z => absurd trivial z)
          refine wp_pure k_12 rfl rfl ?_
          refine wp_pure k_12 rfl rfl ?_
          refine wp_iv k_12 rfl [.int (nI k)] rfl e0 (r := []) (Nat.le_of_ble_eq_true rfl) (Nat.le_of_ble_eq_true rfl) rfl ?_
          refine c_plN X (fun k9 hk9 e9 => ?_) (fun q => absurd ⟨k, hk, rfl⟩ q)
          have e9 := (nI_eq (by omega) (by omega)).mp e9
          subst e9
          refine ⟨rfl, ?_⟩
          refine wp_pure k_12 rfl rfl ?_
          refine wp_pure k_12 rfl rfl ?_
          refine wp_br k_12 rfl rfl rfl rfl (fun _ => ?_) (fun z => absurd trivial z)
          refine wp_pure k_12 rfl rfl ?_
          refine wp_get k_12 rfl (hP k (by omega)).1 ((hP k (by omega)).2.1 1 (by decide)) ?_
          refine wp_kn k_12 rfl rfl ?_
          refine wp_br k_12 rfl rfl rfl rfl (fun _ => ?_) (fun z => absurd kb z)
          refine wp_pure k_12 rfl rfl ?_
          refine wp_br k_12 rfl rfl rfl rfl (fun _ => ?_) (fun z => absurd z1 z)
          exact wp_th k_12 rfl (Kt (fun ⟨e9, k9, u9, h1, h2, h3, f1, f2, f3, q⟩ => nI_pos (n := u9) (by omega) (by rw [← f3]; exact z1)))
        · obtain ⟨u, hu, rfl⟩ := nI_of z1
          by_cases hu9 : u ≤ 99
          · skip
            refine wp_pure k_12 rfl rfl ?_
            refine wp_pure k_12 rfl rfl ?_
            refine wp_iv k_12 rfl [.int (nI e)] rfl x0 (r := []) (Nat.le_of_ble_eq_true rfl) (Nat.le_of_ble_eq_true rfl) rfl ?_
            refine c_edN hCA (fun k9 hk9 e9 => ?_) (fun q => absurd ⟨e, he, rfl⟩ q)
            have e9 := (nI_eq (by omega) (by omega)).mp e9
            subst e9
            refine ⟨rfl, ?_⟩
            refine wp_pure k_12 rfl rfl ?_
            refine wp_pure k_12 rfl rfl ?_
            refine wp_br k_12 rfl rfl rfl rfl (fun _ => ?_) (fun z => absurd trivial z)
            refine wp_pure k_12 rfl rfl ?_
            refine wp_pure k_12 rfl rfl ?_
            refine wp_iv k_12 rfl [.int (nI k)] rfl e0 (r := []) (Nat.le_of_ble_eq_true rfl) (Nat.le_of_ble_eq_true rfl) rfl ?_
            refine c_plN X (fun k9 hk9 e9 => ?_) (fun q => absurd ⟨k, hk, rfl⟩ q)
            have e9 := (nI_eq (by omega) (by omega)).mp e9
            subst e9
            refine ⟨rfl, ?_⟩
            refine wp_pure k_12 rfl rfl ?_
            refine wp_pure k_12 rfl rfl ?_
            refine wp_br k_12 rfl rfl rfl rfl (fun _ => ?_) (fun z => absurd trivial z)
            refine wp_pure k_12 rfl rfl ?_
            refine wp_get k_12 rfl (hP k (by omega)).1 ((hP k (by omega)).2.1 1 (by decide)) ?_
            refine wp_kn k_12 rfl rfl ?_
            refine wp_br k_12 rfl rfl rfl rfl (fun _ => ?_) (fun z => absurd kb z)
            refine wp_pure k_12 rfl rfl ?_
            refine wp_br k_12 rfl rfl rfl rfl (fun z => absurd z z1) (fun _ => ?_)
            refine wp_pure k_12 rfl rfl ?_
            refine wp_kn k_12 rfl rfl ?_
            refine wp_br k_12 rfl rfl rfl rfl (fun _ => ?_) (fun z => absurd (show nI u ≤ nI 99 from ((nI_leI hu (by decide)).mpr hu9)) z)
            refine wp_pure k_12 rfl rfl ?_
            refine wp_pure k_12 rfl rfl ?_
            refine wp_put k_12 rfl (hP k (by omega)).1 rfl rfl ?_
            refine wp_vrt k_12 rfl rfl ?_
            have hin := O.2.2.1 k hk
            have z := c8.2.2.2.2.2.2.2.1 e he _ hin
            have hfil := EdF.fill X O hk (u := nI u)
            have h779 : ∀ b, hF (putF h 778 (pa k) (.int (nI u))) 779 b = hF h 779 b := fun b => hF_putF_f (by decide)
            generalize hh' : putF h 778 (pa k) (.int (nI u)) = h' at *
            have nW : ∀ a, a ≠ pa k → samA h h' a := fun a h1 => by rw [← hh']; exact samA.putF h1
            have hC' : ∀ b, hC h' b = hC h b := fun b => by rw [← hh']; rfl
            have hT' : hT h' = hT h := by rw [← hh']; rfl
            have hU' : hU h' = hU h := by rw [← hh']; rfl
            have hz : hZ h' = hZ h := by rw [← hh']; rfl
            have ht : hT h ≤ hT h' := by omega
            have sZ : samA h h' (hZ h) := nW _ (fun q => z.1 (by rw [← q]; exact c9.2.2.1))
            refine K1 e k u hse (by rw [← qE]; exact hk) hu9 rfl rfl rfl (by rw [← qE]; exact kb) h' ⟨sg, eds, ee, go, ins, lf, ef, pl, pls, fnd, efd, ea, fa, fda, lo, hi, dk, rc, ex, c1.same (nW _ (Ne.symm z.2.1)), c2.same (nW _ (Ne.symm z.2.2.1)), c3.same (nW _ (Ne.symm z.2.2.2.2.2.2.2.2.2.2.2.1)) (nW _ (Ne.symm z.2.2.2.2.2.2.2.2.2.2.2.2.1)) (fun i hi => ⟨hC' _, h779 _⟩) hz ht, c4.same (nW _ (Ne.symm z.2.2.2.2.2.2.2.2.2.1)) (nW _ (Ne.symm z.2.2.2.2.2.2.2.2.2.2.1)), c5.same (nW _ (Ne.symm z.2.2.2.2.2.1)), c6.same (nW _ (Ne.symm z.2.2.2.2.2.2.1)) (nW _ (Ne.symm z.2.2.2.2.2.2.2.1)) (nW _ (Ne.symm z.2.2.2.2.2.2.2.2.1)) (fun i hi => nW _ (Ne.symm (z.2.2.2.2.2.2.2.2.2.2.2.2.2 i hi))) hz ht, ⟨c7.1.same (nW _ (Ne.symm z.2.2.2.1)) (nW _ (Ne.symm z.2.2.2.2.1)) (fun i hi => hC' _) hz ht, fun e' he' => ?_⟩, c8.same ht (hC' _) (hC' _) (hC' _), c9.same sZ hz ht⟩ (fun a ha => nW a (fun q => z.1 (by rw [← q]; exact ha))) hT' hU' hz
            by_cases q : e' = e
            · subst q
              refine ⟨E9, qE, qL, by omega, lp, ep, pa, bt, ?_, ?_⟩
              · have eu : sUn (flS σ e' k (nI u)) e' = fun j => if j = k then nI u else sUn σ e' j := by
                  funext j
                  show (if e' = e' ∧ j = k then nI u else sUn σ e' j) = _
                  by_cases w : j = k
                  · rw [if_pos ⟨rfl, w⟩, if_pos w]
                  · rw [if_neg (fun y => w y.2), if_neg w]
                rw [eu]
                exact hfil
              · unfold EdO
                rw [hC']
                exact O
            · obtain ⟨E', y1, y2, y3⟩ := c7.2 e' he'
              refine ⟨E', y1, y2, ?_⟩
              have eu : sUn (flS σ e k (nI u)) e' = sUn σ e' := by
                funext j
                show (if e' = e ∧ j = k then nI u else sUn σ e' j) = _
                rw [if_neg (fun y => q y.1)]
              rw [eu]
              exact y3.same (fun b hb => nW b (fun w => c8.2.2.2.2.2.2.2.2 e e' he he' (Ne.symm q) _ hin (by rw [← w]; exact hb))) sZ hz ht
          · skip
            refine wp_pure k_12 rfl rfl ?_
            refine wp_pure k_12 rfl rfl ?_
            refine wp_iv k_12 rfl [.int (nI e)] rfl x0 (r := []) (Nat.le_of_ble_eq_true rfl) (Nat.le_of_ble_eq_true rfl) rfl ?_
            refine c_edN hCA (fun k9 hk9 e9 => ?_) (fun q => absurd ⟨e, he, rfl⟩ q)
            have e9 := (nI_eq (by omega) (by omega)).mp e9
            subst e9
            refine ⟨rfl, ?_⟩
            refine wp_pure k_12 rfl rfl ?_
            refine wp_pure k_12 rfl rfl ?_
            refine wp_br k_12 rfl rfl rfl rfl (fun _ => ?_) (fun z => absurd trivial z)
            refine wp_pure k_12 rfl rfl ?_
            refine wp_pure k_12 rfl rfl ?_
            refine wp_iv k_12 rfl [.int (nI k)] rfl e0 (r := []) (Nat.le_of_ble_eq_true rfl) (Nat.le_of_ble_eq_true rfl) rfl ?_
            refine c_plN X (fun k9 hk9 e9 => ?_) (fun q => absurd ⟨k, hk, rfl⟩ q)
            have e9 := (nI_eq (by omega) (by omega)).mp e9
            subst e9
            refine ⟨rfl, ?_⟩
            refine wp_pure k_12 rfl rfl ?_
            refine wp_pure k_12 rfl rfl ?_
            refine wp_br k_12 rfl rfl rfl rfl (fun _ => ?_) (fun z => absurd trivial z)
            refine wp_pure k_12 rfl rfl ?_
            refine wp_get k_12 rfl (hP k (by omega)).1 ((hP k (by omega)).2.1 1 (by decide)) ?_
            refine wp_kn k_12 rfl rfl ?_
            refine wp_br k_12 rfl rfl rfl rfl (fun _ => ?_) (fun z => absurd kb z)
            refine wp_pure k_12 rfl rfl ?_
            refine wp_br k_12 rfl rfl rfl rfl (fun z => absurd z z1) (fun _ => ?_)
            refine wp_pure k_12 rfl rfl ?_
            refine wp_kn k_12 rfl rfl ?_
            refine wp_br k_12 rfl rfl rfl rfl (fun z => absurd z (show ¬ (nI u ≤ nI 99) from (fun q => hu9 ((nI_leI hu (by decide)).mp q)))) (fun _ => ?_)
            exact wp_th k_12 rfl (Kt (fun ⟨e9, k9, u9, h1, h2, h3, f1, f2, f3, q⟩ => by have := (nI_eq hu (by omega)).mp f3; omega))
      · skip
        refine wp_pure k_12 rfl rfl ?_
        refine wp_pure k_12 rfl rfl ?_
        refine wp_iv k_12 rfl [.int (nI e)] rfl x0 (r := []) (Nat.le_of_ble_eq_true rfl) (Nat.le_of_ble_eq_true rfl) rfl ?_
        refine c_edN hCA (fun k9 hk9 e9 => ?_) (fun q => absurd ⟨e, he, rfl⟩ q)
        have e9 := (nI_eq (by omega) (by omega)).mp e9
        subst e9
        refine ⟨rfl, ?_⟩
        refine wp_pure k_12 rfl rfl ?_
        refine wp_pure k_12 rfl rfl ?_
        refine wp_br k_12 rfl rfl rfl rfl (fun _ => ?_) (fun z => absurd trivial z)
        refine wp_pure k_12 rfl rfl ?_
        refine wp_pure k_12 rfl rfl ?_
        refine wp_iv k_12 rfl [.int (nI k)] rfl e0 (r := []) (Nat.le_of_ble_eq_true rfl) (Nat.le_of_ble_eq_true rfl) rfl ?_
        refine c_plN X (fun k9 hk9 e9 => ?_) (fun q => absurd ⟨k, hk, rfl⟩ q)
        have e9 := (nI_eq (by omega) (by omega)).mp e9
        subst e9
        refine ⟨rfl, ?_⟩
        refine wp_pure k_12 rfl rfl ?_
        refine wp_pure k_12 rfl rfl ?_
        refine wp_br k_12 rfl rfl rfl rfl (fun _ => ?_) (fun z => absurd trivial z)
        refine wp_pure k_12 rfl rfl ?_
        refine wp_get k_12 rfl (hP k (by omega)).1 ((hP k (by omega)).2.1 1 (by decide)) ?_
        refine wp_kn k_12 rfl rfl ?_
        refine wp_br k_12 rfl rfl rfl rfl (fun z => absurd z kb) (fun _ => ?_)
        exact wp_th k_12 rfl (Kt (fun ⟨e9, k9, u9, h1, h2, h3, f1, f2, f3, q⟩ => by
          have f1 := (nI_eq (by omega) (by omega)).mp f1
          subst f1
          rw [← qE] at h2 q
          have f2 := (nI_eq (by omega) (by omega)).mp f2
          subst f2
          exact kb q))
    · skip
      refine wp_pure k_12 rfl rfl ?_
      refine wp_pure k_12 rfl rfl ?_
      refine wp_iv k_12 rfl [.int (nI e)] rfl x0 (r := []) (Nat.le_of_ble_eq_true rfl) (Nat.le_of_ble_eq_true rfl) rfl ?_
      refine c_edN hCA (fun k9 hk9 e9 => ?_) (fun q => absurd ⟨e, he, rfl⟩ q)
      have e9 := (nI_eq (by omega) (by omega)).mp e9
      subst e9
      refine ⟨rfl, ?_⟩
      refine wp_pure k_12 rfl rfl ?_
      refine wp_pure k_12 rfl rfl ?_
      refine wp_br k_12 rfl rfl rfl rfl (fun _ => ?_) (fun z => absurd trivial z)
      refine wp_pure k_12 rfl rfl ?_
      refine wp_pure k_12 rfl rfl ?_
      refine wp_iv k_12 rfl [.int b] rfl e0 (r := []) (Nat.le_of_ble_eq_true rfl) (Nat.le_of_ble_eq_true rfl) rfl ?_
      refine c_plN X (fun k9 hk9 e9 => absurd ⟨k9, hk9, e9⟩ q2) (fun _ => ⟨rfl, ?_⟩)
      refine wp_pure k_12 rfl rfl ?_
      refine wp_pure k_12 rfl rfl ?_
      refine wp_br k_12 rfl rfl rfl rfl (fun _ => ?_) (fun z => absurd trivial z)
      exact wp_th k_12 rfl (Kt (fun ⟨e9, k9, u9, h1, h2, h3, f1, f2, f3, q⟩ => by
        have f1 := (nI_eq (by omega) (by omega)).mp f1
        subst f1
        rw [← qE] at h2
        exact q2 ⟨k9, h2, f2⟩))
  · skip
    refine wp_pure k_12 rfl rfl ?_
    refine wp_pure k_12 rfl rfl ?_
    refine wp_iv k_12 rfl [.int a] rfl x0 (r := []) (Nat.le_of_ble_eq_true rfl) (Nat.le_of_ble_eq_true rfl) rfl ?_
    refine c_edN hCA (fun k9 hk9 e9 => absurd ⟨k9, hk9, e9⟩ q1) (fun _ => ⟨rfl, ?_⟩)
    refine wp_pure k_12 rfl rfl ?_
    refine wp_pure k_12 rfl rfl ?_
    refine wp_br k_12 rfl rfl rfl rfl (fun _ => ?_) (fun z => absurd trivial z)
    exact wp_th k_12 rfl (Kt (fun ⟨e9, k9, u9, h1, h2, h3, f1, f2, f3, q⟩ => q1 ⟨e9, by unfold sE at h1; omega, f1⟩))
