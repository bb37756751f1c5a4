/-! the reference reads -/
theorem MR.cl {g g' : Nat → Int32} {ar ar' : Nat → Nat → Int32} {σ : Sg} (R : MR g ar σ) (h2 : g' 2 = nI 0) (hg : g' 3 = g 3 ∧ g' 14 = g 14 ∧ g' 18 = g 18 ∧ g' 45 = g 45 ∧ g' 47 = g 47) (ha : ∀ k, k < 23 ∨ k = 44 ∨ k = 46 → ar' k = ar k) : MR g' ar' (clS σ) := by
  obtain ⟨g3, g14, g18, g45, g47⟩ := hg
  obtain ⟨_, a2, a3, a4, a5, a6, a7, a8, a9⟩ := R
  refine ⟨⟨h2, Nat.zero_le _, fun i hi => absurd hi (Nat.not_lt_zero i)⟩, ⟨g3.trans a2.1, a2.2⟩, fun e ps he => ?_, fun k P hk => ?_, ⟨g14.trans a5.1, fun i a b t hi => ?_⟩, ⟨g18.trans a6.1, fun i a b hi => ?_⟩, a7, ⟨g45.trans a8.1, a8.2.1, fun i k hi => by rw [ha 44 (by omega)]; exact a8.2.2 i k hi⟩, ⟨g47.trans a9.1, a9.2.1, fun i k hi => by rw [ha 46 (by omega)]; exact a9.2.2 i k hi⟩⟩
  · obtain ⟨q1, q2, q3⟩ := a3 e ps he
    refine ⟨q1, by rw [ha 4 (by omega)]; exact q2, fun k P hk => ?_⟩
    unfold KA
    rw [ha 5 (by omega), ha 6 (by omega), ha 7 (by omega), ha 8 (by omega), ha 9 (by omega), ha 10 (by omega), ha 11 (by omega), ha 12 (by omega), ha 13 (by omega)]
    exact q3 k P hk
  · rw [ha 21 (by omega), ha 22 (by omega)]; exact a4 k P hk
  · rw [ha 15 (by omega), ha 16 (by omega), ha 17 (by omega)]; exact a5.2 i a b t hi
  · rw [ha 19 (by omega), ha 20 (by omega)]; exact a6.2 i a b hi
theorem MR.tk {g g' : Nat → Int32} {ar ar' : Nat → Nat → Int32} {σ : Sg} {E : Ed} (R : MR g ar σ) (h8 : (sEd σ).length < 8) (hn : E.1.length ≤ 60) (hwv : E.2.1.length + E.2.2.length ≤ 60) (h2 : g' 2 = nI 0) (h3 : g' 3 = nI (sEd σ).length) (h14 : g' 14 = nI E.2.1.length) (h18 : g' 18 = nI E.2.2.length) (h45 : g' 45 = g 45) (h47 : g' 47 = g 47) (q4 : ∀ e, ar' 4 e = if e = (sEd σ).length then nI E.1.length else ar 4 e) (q5 : ∀ k, 5 ≤ k → k ≤ 13 → ∀ j, j < 60 * (sEd σ).length → ar' k j = ar k j)
    (qn : ∀ (k : Nat) (P : Pl), E.1[k]? = some P → KA ar' (60 * (sEd σ).length + k) P ∧ ar' 13 (60 * (sEd σ).length + k) = nI 0 ∧ ar' 21 k = nI P.2.length ∧ P.2.length ≤ 4 ∧ ∀ i, i < P.2.length → ar' 22 (4 * k + i) = nI (P.2.getD i 0)) (qw : ∀ (i a b : Nat) (t : Bool), E.2.1[i]? = some (a, b, t) → ar' 15 i = nI a ∧ ar' 16 i = nI b ∧ ar' 17 i = nI t.toNat) (qv : ∀ (i a b : Nat), E.2.2[i]? = some (a, b) → ar' 19 i = nI a ∧ ar' 20 i = nI b) (q44 : ar' 44 = ar 44) (q46 : ar' 46 = ar 46) : MR g' ar' (tkS σ E) := by
  obtain ⟨_, a2, a3, a4, a5, a6, a7, a8, a9⟩ := R
  have hl : (sEd σ ++ [E.1]).length = (sEd σ).length + 1 := by rw [List.length_append]; rfl
  have hcur : sCur (tkS σ E) = E.1 := congrArg (fun E : Ed => E.1) (@tkS_cur σ E)
  refine ⟨⟨h2, Nat.zero_le _, fun i hi => absurd hi (Nat.not_lt_zero i)⟩, ⟨by show g' 3 = nI ((sEd σ ++ [E.1]).length - 1); rw [hl]; exact h3, by show 1 ≤ (sEd σ ++ [E.1]).length; omega, by show (sEd σ ++ [E.1]).length ≤ 8; omega⟩, fun e ps he => ?_, fun k P hk => ?_, ⟨h14, qw⟩, ⟨h18, qv⟩, hwv, ⟨h45.trans a8.1, a8.2.1, fun i k hi => by rw [q44]; exact a8.2.2 i k hi⟩, ⟨h47.trans a9.1, a9.2.1, fun i k hi => by rw [q46]; exact a9.2.2 i k hi⟩⟩
  · have he : (sEd σ ++ [E.1])[e]? = some ps := he
    by_cases c : e < (sEd σ).length
    · rw [List.getElem?_append_left c] at he
      obtain ⟨r1, r2, r3⟩ := a3 e ps he
      refine ⟨r1, by rw [q4, if_neg (by omega)]; exact r2, fun k P hk => ?_⟩
      have hkl := (List.getElem?_eq_some_iff.mp hk).1
      have hj : 60 * e + k < 60 * (sEd σ).length := by omega
      unfold KA
      rw [q5 5 (by omega) (by omega) _ hj, q5 6 (by omega) (by omega) _ hj, q5 7 (by omega) (by omega) _ hj, q5 8 (by omega) (by omega) _ hj, q5 9 (by omega) (by omega) _ hj, q5 10 (by omega) (by omega) _ hj, q5 11 (by omega) (by omega) _ hj, q5 12 (by omega) (by omega) _ hj, q5 13 (by omega) (by omega) _ hj]
      obtain ⟨r4, r5⟩ := r3 k P hk
      exact ⟨r4, by show _ = (if e = (sEd σ).length then nI 0 else sUn σ e k); rw [if_neg (by omega)]; exact r5⟩
    · have hk := (List.getElem?_eq_some_iff.mp he).1
      have e2 : e = (sEd σ).length := by omega
      subst e2
      rw [List.getElem?_append_right (Nat.le_refl _), Nat.sub_self] at he
      cases he
      refine ⟨hn, by rw [q4, if_pos rfl], fun k P hk => ?_⟩
      obtain ⟨r1, r2, _⟩ := qn k P hk
      exact ⟨r1, by show _ = (if (sEd σ).length = (sEd σ).length then nI 0 else sUn σ (sEd σ).length k); rw [if_pos rfl]; exact r2⟩
  · rw [hcur] at hk
    obtain ⟨_, _, r3, r4, r5⟩ := qn k P hk
    exact ⟨r3, r4, r5⟩
def tooB (σ : Sg) (E : Ed) : Prop := 60 < E.2.1.length + E.2.2.length ∨ 60 < E.1.length ∨ (sEd σ).length = 8
theorem m_readEnd {h0 h : sm_H} {m : Nat} {g g0 : Nat → Int32} {ar ar0 : Nat → Nat → Int32} {Q : Nat → Option Value → sm_H → Prop} {σ : Sg} (M : MS h0 h m g ar) (R : MR g0 ar0 σ) (hg : g 3 = g0 3 ∧ g 14 = g0 14 ∧ g 18 = g0 18 ∧ g 45 = g0 45 ∧ g 47 = g0 47) (ha : ∀ k, k < 28 ∨ k = 44 ∨ k = 46 → ar k = ar0 k) {E : Ed} (hE : RM g ar E) (hl : (E.1.length + E.2.1.length + E.2.2.length) * 5 ≤ 600)
    (Kf : tooB σ E → ∀ h' g' ar', MS h0 h' m g' ar' → g' 0 = nI 1 → MR g' ar' (clS σ) → Q 0 (some (.int (nI 0))) h') (Kt : ¬ tooB σ E → ∀ h' g' ar', MS h0 h' m g' ar' → g' 0 = nI 0 → MR g' ar' (tkS σ E) → Q 0 (some (.int (nI E.1.length))) h') : sm_wp 84 50 [.ref m, .int (nI 1), jk] [] h Q := by
  have hS := R.2.1.2.2
  have hS1 := R.2.1.2.1
  have h3 : g 3 = nI ((sEd σ).length - 1) := hg.1.trans R.2.1.1
  obtain ⟨e26, eRT, e27, e31, e25, eW, eV⟩ := hE
  by_cases c1 : 60 < E.2.1.length + E.2.2.length
  · have e25 : g 25 = nI 1 := by rw [e25, decide_eq_true c1]; rfl
    refine wp_pure k_84 rfl rfl ?_
    refine wp_kn k_84 rfl rfl ?_
    refine wm_pi 2 M k_84 rfl rfl rfl rfl rfl rfl (fun h1 M1 => ?_)
    refine wp_pure k_84 rfl rfl ?_
    refine wp_pure k_84 rfl rfl ?_
    refine wp_br k_84 rfl rfl rfl rfl (fun z => absurd z (show ¬ ((nI 1 : Int32) = 0) by decide)) (fun _ => ?_)
    refine wp_pure k_84 rfl rfl ?_
    refine wm_gi 25 M1 k_84 rfl rfl rfl rfl ((uF_ne (by decide)).trans e25) ?_
    refine wp_br k_84 rfl rfl rfl rfl (fun _ => ?_) (fun z => absurd (show ¬ (nI 1 : Int32) = 0 by decide) z)
    refine wp_kn k_84 rfl rfl ?_
    refine wp_br k_84 rfl rfl rfl rfl (fun _ => ?_) (fun z => absurd trivial z)
    refine wm_pi 0 M1 k_84 rfl rfl rfl rfl rfl rfl (fun h2 M2 => ?_)
    refine wp_pure k_84 rfl rfl ?_
    refine wp_br k_84 rfl rfl rfl rfl (fun _ => ?_) (fun z => absurd (show ¬ (nI 1 : Int32) = 0 by decide) z)
    refine wp_pure k_84 rfl rfl ?_
    refine wm_gi 0 M2 k_84 rfl rfl rfl rfl uF_at ?_
    refine wp_br k_84 rfl rfl rfl rfl (fun z => absurd z (show ¬ ((nI 1 : Int32) ≤ 0) by decide)) (fun _ => ?_)
    refine wp_kn k_84 rfl rfl ?_
    exact wp_irt k_84 rfl rfl rfl (Kf (Or.inl c1) _ _ _ M2 uF_at (R.cl ((uF_ne (by decide)).trans uF_at) ⟨(uF_ne (by decide)).trans ((uF_ne (by decide)).trans hg.1), (uF_ne (by decide)).trans ((uF_ne (by decide)).trans hg.2.1), (uF_ne (by decide)).trans ((uF_ne (by decide)).trans hg.2.2.1), (uF_ne (by decide)).trans ((uF_ne (by decide)).trans hg.2.2.2.1), (uF_ne (by decide)).trans ((uF_ne (by decide)).trans hg.2.2.2.2)⟩ (fun k hk => ha k (by omega))))
  have e25 : g 25 = nI 0 := by rw [e25, decide_eq_false c1]; rfl
  by_cases c2 : 60 < E.1.length
  · skip
    refine wp_pure k_84 rfl rfl ?_
    refine wp_kn k_84 rfl rfl ?_
    refine wm_pi 2 M k_84 rfl rfl rfl rfl rfl rfl (fun h1 M1 => ?_)
    refine wp_pure k_84 rfl rfl ?_
    refine wp_pure k_84 rfl rfl ?_
    refine wp_br k_84 rfl rfl rfl rfl (fun z => absurd z (show ¬ ((nI 1 : Int32) = 0) by decide)) (fun _ => ?_)
    refine wp_pure k_84 rfl rfl ?_
    refine wm_gi 25 M1 k_84 rfl rfl rfl rfl ((uF_ne (by decide)).trans e25) ?_
    refine wp_br k_84 rfl rfl rfl rfl (fun z => absurd z (show ¬ (¬ (nI 0 : Int32) = 0) by decide)) (fun _ => ?_)
    refine wp_pure k_84 rfl rfl ?_
    refine wm_gi 26 M1 k_84 rfl rfl rfl rfl ((uF_ne (by decide)).trans e26) ?_
    refine wp_kn k_84 rfl rfl ?_
    refine wp_br k_84 rfl rfl rfl rfl (fun _ => ?_) (fun z => absurd (show nI 60 < nI E.1.length from (nI_ltI (by omega) (by omega)).mpr c2) z)
    refine wp_kn k_84 rfl rfl ?_
    refine wp_br k_84 rfl rfl rfl rfl (fun _ => ?_) (fun z => absurd trivial z)
    refine wm_pi 0 M1 k_84 rfl rfl rfl rfl rfl rfl (fun h2 M2 => ?_)
    refine wp_pure k_84 rfl rfl ?_
    refine wp_br k_84 rfl rfl rfl rfl (fun _ => ?_) (fun z => absurd (show ¬ (nI 1 : Int32) = 0 by decide) z)
    refine wp_pure k_84 rfl rfl ?_
    refine wm_gi 0 M2 k_84 rfl rfl rfl rfl uF_at ?_
    refine wp_br k_84 rfl rfl rfl rfl (fun z => absurd z (show ¬ ((nI 1 : Int32) ≤ 0) by decide)) (fun _ => ?_)
    refine wp_kn k_84 rfl rfl ?_
    exact wp_irt k_84 rfl rfl rfl (Kf (Or.inr (Or.inl c2)) _ _ _ M2 uF_at (R.cl ((uF_ne (by decide)).trans uF_at) ⟨(uF_ne (by decide)).trans ((uF_ne (by decide)).trans hg.1), (uF_ne (by decide)).trans ((uF_ne (by decide)).trans hg.2.1), (uF_ne (by decide)).trans ((uF_ne (by decide)).trans hg.2.2.1), (uF_ne (by decide)).trans ((uF_ne (by decide)).trans hg.2.2.2.1), (uF_ne (by decide)).trans ((uF_ne (by decide)).trans hg.2.2.2.2)⟩ (fun k hk => ha k (by omega))))
  by_cases c3 : (sEd σ).length = 8
  · have h3 : g 3 = nI 7 := by rw [h3, c3]
    refine wp_pure k_84 rfl rfl ?_
    refine wp_kn k_84 rfl rfl ?_
    refine wm_pi 2 M k_84 rfl rfl rfl rfl rfl rfl (fun h1 M1 => ?_)
    refine wp_pure k_84 rfl rfl ?_
    refine wp_pure k_84 rfl rfl ?_
    refine wp_br k_84 rfl rfl rfl rfl (fun z => absurd z (show ¬ ((nI 1 : Int32) = 0) by decide)) (fun _ => ?_)
    refine wp_pure k_84 rfl rfl ?_
    refine wm_gi 25 M1 k_84 rfl rfl rfl rfl ((uF_ne (by decide)).trans e25) ?_
    refine wp_br k_84 rfl rfl rfl rfl (fun z => absurd z (show ¬ (¬ (nI 0 : Int32) = 0) by decide)) (fun _ => ?_)
    refine wp_pure k_84 rfl rfl ?_
    refine wm_gi 26 M1 k_84 rfl rfl rfl rfl ((uF_ne (by decide)).trans e26) ?_
    refine wp_kn k_84 rfl rfl ?_
    refine wp_br k_84 rfl rfl rfl rfl (fun z => absurd z (fun q => c2 ((nI_ltI (by omega) (by omega)).mp q))) (fun _ => ?_)
    refine wp_pure k_84 rfl rfl ?_
    refine wm_gi 3 M1 k_84 rfl rfl rfl rfl ((uF_ne (by decide)).trans h3) ?_
    refine wp_kn k_84 rfl rfl ?_
    refine wp_br k_84 rfl rfl rfl rfl (fun z => absurd z (show ¬ (¬ nI 7 = nI 7) by decide)) (fun _ => ?_)
    refine wp_kn k_84 rfl rfl ?_
    refine wp_br k_84 rfl rfl rfl rfl (fun _ => ?_) (fun z => absurd trivial z)
    refine wm_pi 0 M1 k_84 rfl rfl rfl rfl rfl rfl (fun h2 M2 => ?_)
    refine wp_pure k_84 rfl rfl ?_
    refine wp_br k_84 rfl rfl rfl rfl (fun _ => ?_) (fun z => absurd (show ¬ (nI 1 : Int32) = 0 by decide) z)
    refine wp_pure k_84 rfl rfl ?_
    refine wm_gi 0 M2 k_84 rfl rfl rfl rfl uF_at ?_
    refine wp_br k_84 rfl rfl rfl rfl (fun z => absurd z (show ¬ ((nI 1 : Int32) ≤ 0) by decide)) (fun _ => ?_)
    refine wp_kn k_84 rfl rfl ?_
    exact wp_irt k_84 rfl rfl rfl (Kf (Or.inr (Or.inr c3)) _ _ _ M2 uF_at (R.cl ((uF_ne (by decide)).trans uF_at) ⟨(uF_ne (by decide)).trans ((uF_ne (by decide)).trans hg.1), (uF_ne (by decide)).trans ((uF_ne (by decide)).trans hg.2.1), (uF_ne (by decide)).trans ((uF_ne (by decide)).trans hg.2.2.1), (uF_ne (by decide)).trans ((uF_ne (by decide)).trans hg.2.2.2.1), (uF_ne (by decide)).trans ((uF_ne (by decide)).trans hg.2.2.2.2)⟩ (fun k hk => ha k (by omega))))
  have ct : ¬ tooB σ E := fun q => q.elim c1 (fun q => q.elim c2 c3)
  generalize hEl : (sEd σ).length = ne at *
  refine wp_pure k_84 rfl rfl ?_
  refine wp_kn k_84 rfl rfl ?_
  refine wm_pi 2 M k_84 rfl rfl rfl rfl rfl rfl (fun h1 M1 => ?_)
  refine wp_pure k_84 rfl rfl ?_
  refine wp_pure k_84 rfl rfl ?_
  refine wp_br k_84 rfl rfl rfl rfl (fun z => absurd z (show ¬ ((nI 1 : Int32) = 0) by decide)) (fun _ => ?_)
  refine wp_pure k_84 rfl rfl ?_
  refine wm_gi 25 M1 k_84 rfl rfl rfl rfl ((uF_ne (by decide)).trans e25) ?_
  refine wp_br k_84 rfl rfl rfl rfl (fun z => absurd z (show ¬ (¬ (nI 0 : Int32) = 0) by decide)) (fun _ => ?_)
  refine wp_pure k_84 rfl rfl ?_
  refine wm_gi 26 M1 k_84 rfl rfl rfl rfl ((uF_ne (by decide)).trans e26) ?_
  refine wp_kn k_84 rfl rfl ?_
  refine wp_br k_84 rfl rfl rfl rfl (fun z => absurd z (fun q => c2 ((nI_ltI (by omega) (by omega)).mp q))) (fun _ => ?_)
  refine wp_pure k_84 rfl rfl ?_
  refine wm_gi 3 M1 k_84 rfl rfl rfl rfl ((uF_ne (by decide)).trans h3) ?_
  refine wp_kn k_84 rfl rfl ?_
  refine wp_br k_84 rfl rfl rfl rfl (fun _ => ?_) (fun z => absurd (show ¬ nI (ne - 1) = nI 7 from (fun q => c3 (by have := (nI_eq (by omega) (by decide)).mp q; omega))) z)
  refine wp_kn k_84 rfl rfl ?_
  refine wm_pi 0 M1 k_84 rfl rfl rfl rfl rfl rfl (fun h2 M2 => ?_)
  refine wp_pure k_84 rfl rfl ?_
  refine wp_br k_84 rfl rfl rfl rfl (fun _ => ?_) (fun z => absurd (show ¬ (nI 1 : Int32) = 0 by decide) z)
  refine wp_pure k_84 rfl rfl ?_
  refine wm_gi 0 M2 k_84 rfl rfl rfl rfl uF_at ?_
  refine wp_br k_84 rfl rfl rfl rfl (fun _ => ?_) (fun z => absurd (show (nI 0 : Int32) ≤ 0 by decide) z)
  refine wp_pure k_84 rfl rfl ?_
  refine wp_pure k_84 rfl rfl ?_
  refine wm_gi 3 M2 k_84 rfl rfl rfl rfl ((uF_ne (by decide)).trans ((uF_ne (by decide)).trans h3)) ?_
  refine wp_kn k_84 rfl rfl ?_
  refine wp_addN k_84 rfl ?_
  refine wm_pi 3 M2 k_84 rfl rfl rfl rfl rfl rfl (fun h3 M3 => ?_)
  refine wp_pure k_84 rfl rfl ?_
  refine wm_ga 4 M3 k_84 rfl rfl rfl (by decide) ?_
  refine wp_pure k_84 rfl rfl ?_
  refine wm_gi 3 M3 k_84 rfl rfl rfl rfl uF_at ?_
  refine wp_pure k_84 rfl rfl ?_
  refine wm_gi 26 M3 k_84 rfl rfl rfl rfl ((uF_ne (by decide)).trans ((uF_ne (by decide)).trans ((uF_ne (by decide)).trans e26))) ?_
  refine wm_as 4 M3 k_84 rfl rfl (by decide) rfl (show (ne - 1) + 1 < 8 by omega) (fun h4 M4 => ?_)
  refine wp_kn k_84 rfl rfl ?_
  refine wp_pure k_84 rfl rfl ?_
  refine m_rdK M4 (ps := E.1) (e := ne) (by simp only [uF]; exact e26) (uF_at.trans (by rw [show ne - 1 + 1 = ne by omega])) ?_ (by omega) (by omega) (fun hA arA MA kpA => ?_)
  · exact eRT.same (fun k h1 h2 => uA_ne (by omega))
  refine wp_pure k_84 rfl rfl ?_
  refine wp_pure k_84 rfl rfl ?_
  refine wm_gi 27 MA k_84 rfl rfl rfl rfl (by simp only [uF]; exact e27) ?_
  refine wm_pi 14 MA k_84 rfl rfl rfl rfl rfl rfl (fun h1 M1 => ?_)
  refine wp_kn k_84 rfl rfl ?_
  refine wp_pure k_84 rfl rfl ?_
  refine m_rdW M1 (ws := E.2.1) uF_at ?_ (by omega) (fun hB arB MB pB wB => ?_)
  · exact eW.same ⟨(kpA.1 28 (by unfold kpX; omega)).trans (uA_ne (by decide)), (kpA.1 29 (by unfold kpX; omega)).trans (uA_ne (by decide)), (kpA.1 30 (by unfold kpX; omega)).trans (uA_ne (by decide))⟩
  refine wp_pure k_84 rfl rfl ?_
  refine wp_pure k_84 rfl rfl ?_
  refine wm_gi 31 MB k_84 rfl rfl rfl rfl (by simp only [uF]; exact e31) ?_
  refine wm_pi 18 MB k_84 rfl rfl rfl rfl rfl rfl (fun h6 M6 => ?_)
  refine wp_kn k_84 rfl rfl ?_
  refine wp_pure k_84 rfl rfl ?_
  refine m_rdV M6 (vs := E.2.2) uF_at ?_ (by omega) (fun hC arC MC pC vC => ?_)
  · exact eV.same ⟨(pB 32 (by omega)).trans ((kpA.1 32 (by unfold kpX; omega)).trans (uA_ne (by decide))), (pB 33 (by omega)).trans ((kpA.1 33 (by unfold kpX; omega)).trans (uA_ne (by decide)))⟩
  have cA : ∀ k, k ≠ 4 → kpX k → k < 15 ∨ 20 < k → arC k = ar k := fun k h1 h2 h3 => (pC k (by omega)).trans ((pB k (by omega)).trans ((kpA.1 k h2).trans (uA_ne h1)))
  have cB : ∀ k, k < 15 ∨ 20 < k → arC k = arA k := fun k h3 => (pC k (by omega)).trans (pB k (by omega))
  refine wp_pure k_84 rfl rfl ?_
  refine wm_gi 26 MC k_84 rfl rfl rfl rfl (by simp only [uF]; exact e26) ?_
  refine wp_irt k_84 rfl rfl rfl (Kt ct _ _ _ MC (by simp only [uF]; rfl) (R.tk (by omega) (by omega) (by omega) (by simp only [uF]; rfl) ((uF_ne (by decide)).trans ((uF_ne (by decide)).trans (uF_at.trans (by rw [show ne - 1 + 1 = ne by omega, hEl])))) (by simp only [uF]; rfl) (by simp only [uF]; rfl) (by simp only [uF]; exact hg.2.2.2.1) (by simp only [uF]; exact hg.2.2.2.2) (fun e => ?_) (fun k h1 h2 j hj => ?_) (fun k P hk => ?_) (fun i a b t hi => ?_) (fun i a b hi => vC i a b hi) ?_ ?_))
  · rw [(pC 4 (by omega)).trans ((pB 4 (by omega)).trans (kpA.1 4 (by unfold kpX; omega))), hEl]
    by_cases q : e = ne
    · rw [if_pos q, q]
      refine (show _ = _ from ?_)
      rw [show ne - 1 + 1 = ne by omega]
      exact uA_at
    · rw [if_neg q, uA_nn (by omega)]
      rw [ha 4 (by omega)]
  · rw [cB k (by omega)]
    rw [hEl] at hj
    refine (kpA.2.1 k h1 h2 j hj).trans ?_
    rw [uA_ne (by omega), ha k (by omega)]
  · obtain ⟨c1, c2, c3, c4, c5, c6, c7, c8, c9, c10, c11⟩ := kpA.2.2 k P (List.getElem?_eq_some_iff.mp hk).1 hk
    obtain ⟨r0, r1, r2, r3⟩ := eRT k P hk
    obtain ⟨s1, s2, s3, s4, s5, s6, s7, s8⟩ := r0
    rw [hEl]
    have un : ∀ k i, k ≠ 4 → uA ar 4 (ne - 1 + 1) (nI E.1.length) k i = ar k i := fun k i h => by rw [uA_ne h]
    unfold KA
    rw [cB 5 (by omega), cB 6 (by omega), cB 7 (by omega), cB 8 (by omega), cB 9 (by omega), cB 10 (by omega), cB 11 (by omega), cB 12 (by omega), cB 13 (by omega), cB 21 (by omega), cB 22 (by omega)]
    refine ⟨⟨c2.trans ((un 37 k (by decide)).trans s1), c1.trans ((un 36 k (by decide)).trans s2), c3.trans ((un 38 k (by decide)).trans s3), c4.trans ((un 39 k (by decide)).trans s4), c5.trans ((un 40 k (by decide)).trans s5), c6.trans ((un 41 k (by decide)).trans s6), c7.trans ((un 42 k (by decide)).trans s7), c8.trans ((un 43 k (by decide)).trans s8)⟩, c9, c10, r2, fun i hi => (c11 i hi).trans ((un 35 _ (by decide)).trans (r3 i hi))⟩
  · rw [pC 15 (by omega), pC 16 (by omega), pC 17 (by omega)]; exact wB i a b t hi
  · exact (cA 44 (by decide) (by unfold kpX; omega) (by omega)).trans (ha 44 (by omega))
  · exact (cA 46 (by decide) (by unfold kpX; omega) (by omega)).trans (ha 46 (by omega))
theorem m_read {h0 h : sm_H} {m : Nat} {g : Nat → Int32} {ar : Nat → Nat → Int32} {Q : Nat → Option Value → sm_H → Prop} {σ : Sg} (M : MS h0 h m g ar) (R : MR g ar σ) (Ke : ∀ q, textM (sTx σ) (sLen σ) (sLen σ) ([], [], []) 0 = .error q → ∀ h' g' ar', MS h0 h' m g' ar' → g' 0 = nI 0 → MR g' ar' (clS σ) → Q 0 (some (.int (-1 - nI q))) h') (Kf : ∀ E, textM (sTx σ) (sLen σ) (sLen σ) ([], [], []) 0 = .ok E → tooB σ E → ∀ h' g' ar', MS h0 h' m g' ar' → g' 0 = nI 1 → MR g' ar' (clS σ) → Q 0 (some (.int (nI 0))) h') (Kt : ∀ E, textM (sTx σ) (sLen σ) (sLen σ) ([], [], []) 0 = .ok E → ¬ tooB σ E → ∀ h' g' ar', MS h0 h' m g' ar' → g' 0 = nI 0 → MR g' ar' (tkS σ E) → Q 0 (some (.int (nI E.1.length))) h') : sm_wp 84 0 [.ref m, jk, jk] [] h Q := by
  have hl := R.1.2.1
  have tE : ∀ f E p, textM (ar 1) (sLen σ) f E p = textM (sTx σ) (sLen σ) f E p := fun f E p => textM_E (fun i hi => R.1.2.2 i hi) f E p
  refine wp_pure k_84 rfl rfl ?_
  refine wp_kn k_84 rfl rfl ?_
  refine wm_pi 23 M k_84 rfl rfl rfl rfl rfl rfl (fun h1 M1 => ?_)
  refine wp_pure k_84 rfl rfl ?_
  refine wp_kn k_84 rfl rfl ?_
  refine wm_pi 26 M1 k_84 rfl rfl rfl rfl rfl rfl (fun h2 M2 => ?_)
  refine wp_pure k_84 rfl rfl ?_
  refine wp_kn k_84 rfl rfl ?_
  refine wm_pi 27 M2 k_84 rfl rfl rfl rfl rfl rfl (fun h3 M3 => ?_)
  refine wp_pure k_84 rfl rfl ?_
  refine wp_kn k_84 rfl rfl ?_
  refine wm_pi 31 M3 k_84 rfl rfl rfl rfl rfl rfl (fun h4 M4 => ?_)
  refine wp_pure k_84 rfl rfl ?_
  refine wp_kn k_84 rfl rfl ?_
  refine wm_pi 25 M4 k_84 rfl rfl rfl rfl rfl rfl (fun h5 M5 => ?_)
  refine wp_kn k_84 rfl rfl ?_
  refine wp_pure k_84 rfl rfl ?_
  have e1 : ∀ k, k ∉ gSc → (uF (uF (uF (uF (uF g 23 (nI 0)) 26 (nI 0)) 27 (nI 0)) 31 (nI 0)) 25 (nI 0)) k = g k := fun k hk => by
    have n23 : k ≠ 23 := fun q => hk (by rw [q]; decide)
    have n25 : k ≠ 25 := fun q => hk (by rw [q]; decide)
    have n26 : k ≠ 26 := fun q => hk (by rw [q]; decide)
    have n27 : k ≠ 27 := fun q => hk (by rw [q]; decide)
    have n31 : k ≠ 31 := fun q => hk (by rw [q]; decide)
    rw [uF_ne n25, uF_ne n31, uF_ne n27, uF_ne n26, uF_ne n23]
  refine m_readL hl (sLen σ) M5 rfl (by simp only [uF]; exact R.1.1) (p := 0) (by simp only [uF]; rfl) (Nat.zero_le _) (E := ([], [], [])) ⟨by simp only [uF]; rfl, fun k P hk => by simp at hk, by simp only [uF]; rfl, by simp only [uF]; rfl, by simp only [uF]; rfl, fun i a b t _ hk => by simp at hk, fun i a b _ hk => by simp at hk⟩ (by decide) (by omega) (fun hA gA arA E MA eA fA zA RA bA => ?_) (fun hA gA arA q MA eA fA zA aA => ?_)
  · have eg : ∀ k, k ∉ gSc → gA k = g k := fun k hk => (eA k hk).trans (e1 k hk)
    rw [tE] at zA
    exact m_readEnd MA R ⟨eg 3 (by decide), eg 14 (by decide), eg 18 (by decide), eg 45 (by decide), eg 47 (by decide)⟩ (fun k hk => fA k (by omega) (by omega)) RA (by omega) (Kf E zA) (Kt E zA)
  · have eg : ∀ k, k ∉ gSc → gA k = g k := fun k hk => (eA k hk).trans (e1 k hk)
    rw [tE] at zA
    refine wp_pure k_84 rfl rfl ?_
    refine wp_kn k_84 rfl rfl ?_
    refine wm_pi 2 MA k_84 rfl rfl rfl rfl rfl rfl (fun h12 M12 => ?_)
    refine wp_pure k_84 rfl rfl ?_
    refine wp_pure k_84 rfl rfl ?_
    refine wp_br k_84 rfl rfl rfl rfl (fun _ => ?_) (fun z => absurd (show (nI 0 : Int32) = 0 by decide) z)
    refine wp_kn k_84 rfl rfl ?_
    refine wm_pi 0 M12 k_84 rfl rfl rfl rfl rfl rfl (fun h13 M13 => ?_)
    refine wp_pure k_84 rfl rfl ?_
    refine wp_br k_84 rfl rfl rfl rfl (fun z => absurd z (show ¬ (¬ (nI 0 : Int32) = 0) by decide)) (fun _ => ?_)
    refine wp_km k_84 rfl rfl ?_
    refine wp_pure k_84 rfl rfl ?_
    refine wm_gi 24 M13 k_84 rfl rfl rfl rfl ((uF_ne (by decide)).trans ((uF_ne (by decide)).trans aA)) ?_
    refine wp_isub k_84 rfl ?_
    exact wp_irt k_84 rfl rfl rfl (Ke q zA _ _ _ M13 uF_at (R.cl ((uF_ne (by decide)).trans uF_at) ⟨(uF_ne (by decide)).trans ((uF_ne (by decide)).trans (eg 3 (by decide))), (uF_ne (by decide)).trans ((uF_ne (by decide)).trans (eg 14 (by decide))), (uF_ne (by decide)).trans ((uF_ne (by decide)).trans (eg 18 (by decide))), (uF_ne (by decide)).trans ((uF_ne (by decide)).trans (eg 45 (by decide))), (uF_ne (by decide)).trans ((uF_ne (by decide)).trans (eg 47 (by decide)))⟩ (fun k hk => fA k (by omega) (by omega))))
