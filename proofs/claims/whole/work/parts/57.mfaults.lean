theorem m_ff1 {h0 h : sm_H} {m : Nat} {g : Nat → Int32} {ar : Nat → Nat → Int32} {Q : Nat → Option Value → sm_H → Prop} {E : Ed} {e : Nat} (M : MS h0 h m g ar) (V : MV g ar E e) (hW : EdW E) (F : FarE E (fun a b => ar 62 (60 * a + b))) {l : List Flt} (hFL : FL g ar l) (hF2 : l.length < 200) {i : Nat} (hi : i < E.1.length) {c b : Int32} (hc : c = atP E.1 1 i) (hb : b = atP E.1 7 i) (K : ∀ h' g' ar', MS h0 h' m g' ar' → (∀ k, k ≠ 66 → g' k = g k) → (∀ k, k < 63 ∨ 65 < k → ar' k = ar k) → FL g' ar' (l ++ flt1 E i) → sm_wp 115 63 [.ref m, .int (nI i), .int c, .int b] [] h' Q) : sm_wp 115 37 [.ref m, .int (nI i), .int c, .int b] [] h Q := by
  have he := V.he
  have hn := V.hn
  have hl := V.hl
  by_cases k1 : c = nI 1
  · obtain ⟨r, hr, hrl, _⟩ := hW.of1 hi (hc.symm.trans k1)
    have hbr := hb.trans hr
    subst hbr
    have ho : rO E.1 i = r := by unfold rO; rw [hr]; exact nI_clamp (by omega)
    refine wp_pure k_115 rfl rfl ?_
    refine wp_kn k_115 rfl rfl ?_
    refine wp_br k_115 rfl rfl rfl rfl (fun z => absurd z (fun q => q k1)) (fun _ => ?_)
    refine wp_pure k_115 rfl rfl ?_
    refine wp_pure k_115 rfl rfl ?_
    refine wp_pure k_115 rfl rfl ?_
    refine wp_pure k_115 rfl rfl ?_
    refine wm_iv k_115 rfl rfl M [.int (nI i), .int (nI r)] rfl (r := [.ref m]) (Nat.le_of_ble_eq_true rfl) (Nat.le_of_ble_eq_true rfl) rfl ?_
    refine m_isInside M V hi hrl (fun zi => ⟨rfl, ?_⟩) (fun zi => ⟨rfl, ?_⟩)
    · refine wp_br k_115 rfl rfl rfl rfl (fun _ => ?_) (fun z => absurd (show ¬ (nI 1 : Int32) = 0 by decide) z)
      refine wp_kn k_115 rfl rfl ?_
      refine wp_kn k_115 rfl rfl ?_
      refine wp_pure k_115 rfl rfl ?_
      refine wp_pure k_115 rfl rfl ?_
      refine wm_iv k_115 rfl rfl M [.int (nI 0), .int (nI 1), .int (nI i), .int (nI r)] rfl (r := []) (Nat.le_of_ble_eq_true rfl) (Nat.le_of_ble_eq_true rfl) rfl ?_
      refine m_addFault M hFL hF2 (c := atP E.1 1 i = nI 1 ∧ ¬ insE E.1 i (rO E.1 i)) (Or.inr ⟨fun q => q.2 (by rw [ho]; exact zi), rfl⟩) (fun h1 g1 ar1 M1 p1 q1 f1 => ⟨rfl, ?_⟩)
      have pz := p1
      have qz := q1
      have fz := f1
      exact K _ _ _ M1 pz qz (by unfold flt1; rw [hr]; exact fz)
    · refine wp_br k_115 rfl rfl rfl rfl (fun z => absurd z (show ¬ (¬ (nI 0 : Int32) = 0) by decide)) (fun _ => ?_)
      refine wp_kn k_115 rfl rfl ?_
      refine wp_br k_115 rfl rfl rfl rfl (fun _ => ?_) (fun z => absurd trivial z)
      refine wp_kn k_115 rfl rfl ?_
      refine wp_pure k_115 rfl rfl ?_
      refine wp_pure k_115 rfl rfl ?_
      refine wm_iv k_115 rfl rfl M [.int (nI 1), .int (nI 1), .int (nI i), .int (nI r)] rfl (r := []) (Nat.le_of_ble_eq_true rfl) (Nat.le_of_ble_eq_true rfl) rfl ?_
      refine m_addFault M hFL hF2 (c := atP E.1 1 i = nI 1 ∧ ¬ insE E.1 i (rO E.1 i)) (Or.inl ⟨⟨hc.symm.trans k1, by rw [ho]; exact zi⟩, rfl⟩) (fun h2 g2 ar2 M2 p2 q2 f2 => ⟨rfl, ?_⟩)
      have pz := p2
      have qz := q2
      have fz := f2
      exact K _ _ _ M2 pz qz (by unfold flt1; rw [hr]; exact fz)
  · skip
    refine wp_pure k_115 rfl rfl ?_
    refine wp_kn k_115 rfl rfl ?_
    refine wp_br k_115 rfl rfl rfl rfl (fun _ => ?_) (fun z => absurd k1 z)
    exact K _ _ _ M (fun _ _ => rfl) (fun _ _ => rfl) (by unfold flt1; rw [ift_n (fun q => k1 (hc.trans q.1)), List.append_nil]; exact hFL)
theorem m_ff2 {h0 h : sm_H} {m : Nat} {g : Nat → Int32} {ar : Nat → Nat → Int32} {Q : Nat → Option Value → sm_H → Prop} {E : Ed} {e : Nat} (M : MS h0 h m g ar) (V : MV g ar E e) (hW : EdW E) (F : FarE E (fun a b => ar 62 (60 * a + b))) {l : List Flt} (hFL : FL g ar l) (hF2 : l.length < 200) {i : Nat} (hi : i < E.1.length) {c b : Int32} (hc : c = atP E.1 1 i) (hb : b = atP E.1 7 i) (K : ∀ h' g' ar', MS h0 h' m g' ar' → (∀ k, k ≠ 66 → g' k = g k) → (∀ k, k < 63 ∨ 65 < k → ar' k = ar k) → FL g' ar' (l ++ flt2 E i) → sm_wp 115 97 [.ref m, .int (nI i), .int c, .int b] [] h' Q) : sm_wp 115 63 [.ref m, .int (nI i), .int c, .int b] [] h Q := by
  have he := V.he
  have hn := V.hn
  have hl := V.hl
  have hcases : (c = nI 0 ∨ c = nI 1) ∨ ¬ (c = nI 0 ∨ c = nI 1) := Classical.em _
  have hq : fO (fmE E.1 i) = -1 ↔ fmE E.1 i = none := by
    cases hf : fmE E.1 i with
    | none => exact ⟨fun _ => rfl, fun _ => rfl⟩
    | some k => exact ⟨fun q => absurd q (nI_nm1 (by have := (fstP_inv hf).1; omega)), fun q => by cases q⟩
  by_cases k0 : c = nI 0
  · have kk : c = nI 0 ∨ c = nI 1 := Or.inl k0
    refine wp_pure k_115 rfl rfl ?_
    refine wp_br k_115 rfl rfl rfl rfl (fun _ => ?_) (fun z => absurd k0 z)
    refine wp_pure k_115 rfl rfl ?_
    refine wp_pure k_115 rfl rfl ?_
    refine wp_pure k_115 rfl rfl ?_
    refine wm_iv k_115 rfl rfl M [.int (nI i)] rfl (r := [.ref m]) (Nat.le_of_ble_eq_true rfl) (Nat.le_of_ble_eq_true rfl) rfl ?_
    refine m_firstMet M V hW hi ⟨rfl, ?_⟩
    refine wp_km k_115 rfl rfl ?_
    refine wp_br k_115 rfl rfl rfl rfl (fun (z79 : fO (fmE E.1 i) = -1) => ?_) (fun (z79 : ¬ (fO (fmE E.1 i) = -1)) => ?_)
    · refine wp_kn k_115 rfl rfl ?_
      refine wp_kn k_115 rfl rfl ?_
      refine wp_pure k_115 rfl rfl ?_
      refine wp_pure k_115 rfl rfl ?_
      refine wp_pure k_115 rfl rfl ?_
      refine wm_iv k_115 rfl rfl M [.int (nI i)] rfl (r := [.int (nI i), .int (nI 2), .int (nI 0), .ref m]) (Nat.le_of_ble_eq_true rfl) (Nat.le_of_ble_eq_true rfl) rfl ?_
      refine m_firstMet M V hW hi ⟨rfl, ?_⟩
      refine wm_iv k_115 rfl rfl M [.int (nI 0), .int (nI 2), .int (nI i), .int (fO (fmE E.1 i))] rfl (r := []) (Nat.le_of_ble_eq_true rfl) (Nat.le_of_ble_eq_true rfl) rfl ?_
      refine m_addFault M hFL hF2 (c := (atP E.1 1 i = nI 0 ∨ atP E.1 1 i = nI 1) ∧ fmE E.1 i ≠ none) (Or.inr ⟨fun q => q.2 (hq.mp z79), rfl⟩) (fun h1 g1 ar1 M1 p1 q1 f1 => ⟨rfl, ?_⟩)
      have pz := p1
      have qz := q1
      have fz := f1
      exact K _ _ _ M1 pz qz fz
    · refine wp_kn k_115 rfl rfl ?_
      refine wp_br k_115 rfl rfl rfl rfl (fun _ => ?_) (fun z => absurd trivial z)
      refine wp_kn k_115 rfl rfl ?_
      refine wp_pure k_115 rfl rfl ?_
      refine wp_pure k_115 rfl rfl ?_
      refine wp_pure k_115 rfl rfl ?_
      refine wm_iv k_115 rfl rfl M [.int (nI i)] rfl (r := [.int (nI i), .int (nI 2), .int (nI 1), .ref m]) (Nat.le_of_ble_eq_true rfl) (Nat.le_of_ble_eq_true rfl) rfl ?_
      refine m_firstMet M V hW hi ⟨rfl, ?_⟩
      refine wm_iv k_115 rfl rfl M [.int (nI 1), .int (nI 2), .int (nI i), .int (fO (fmE E.1 i))] rfl (r := []) (Nat.le_of_ble_eq_true rfl) (Nat.le_of_ble_eq_true rfl) rfl ?_
      refine m_addFault M hFL hF2 (c := (atP E.1 1 i = nI 0 ∨ atP E.1 1 i = nI 1) ∧ fmE E.1 i ≠ none) (Or.inl ⟨⟨by rw [← hc]; exact kk, fun q => z79 (hq.mpr q)⟩, rfl⟩) (fun h2 g2 ar2 M2 p2 q2 f2 => ⟨rfl, ?_⟩)
      have pz := p2
      have qz := q2
      have fz := f2
      exact K _ _ _ M2 pz qz fz
  by_cases k1 : c = nI 1
  · have kk : c = nI 0 ∨ c = nI 1 := Or.inr k1
    refine wp_pure k_115 rfl rfl ?_
    refine wp_br k_115 rfl rfl rfl rfl (fun z => absurd z (show ¬ (c = 0) from (by rw [k1]; decide))) (fun _ => ?_)
    refine wp_pure k_115 rfl rfl ?_
    refine wp_kn k_115 rfl rfl ?_
    refine wp_br k_115 rfl rfl rfl rfl (fun z => absurd z (fun q => q k1)) (fun _ => ?_)
    refine wp_pure k_115 rfl rfl ?_
    refine wp_pure k_115 rfl rfl ?_
    refine wp_pure k_115 rfl rfl ?_
    refine wm_iv k_115 rfl rfl M [.int (nI i)] rfl (r := [.ref m]) (Nat.le_of_ble_eq_true rfl) (Nat.le_of_ble_eq_true rfl) rfl ?_
    refine m_firstMet M V hW hi ⟨rfl, ?_⟩
    refine wp_km k_115 rfl rfl ?_
    refine wp_br k_115 rfl rfl rfl rfl (fun (z79 : fO (fmE E.1 i) = -1) => ?_) (fun (z79 : ¬ (fO (fmE E.1 i) = -1)) => ?_)
    · refine wp_kn k_115 rfl rfl ?_
      refine wp_kn k_115 rfl rfl ?_
      refine wp_pure k_115 rfl rfl ?_
      refine wp_pure k_115 rfl rfl ?_
      refine wp_pure k_115 rfl rfl ?_
      refine wm_iv k_115 rfl rfl M [.int (nI i)] rfl (r := [.int (nI i), .int (nI 2), .int (nI 0), .ref m]) (Nat.le_of_ble_eq_true rfl) (Nat.le_of_ble_eq_true rfl) rfl ?_
      refine m_firstMet M V hW hi ⟨rfl, ?_⟩
      refine wm_iv k_115 rfl rfl M [.int (nI 0), .int (nI 2), .int (nI i), .int (fO (fmE E.1 i))] rfl (r := []) (Nat.le_of_ble_eq_true rfl) (Nat.le_of_ble_eq_true rfl) rfl ?_
      refine m_addFault M hFL hF2 (c := (atP E.1 1 i = nI 0 ∨ atP E.1 1 i = nI 1) ∧ fmE E.1 i ≠ none) (Or.inr ⟨fun q => q.2 (hq.mp z79), rfl⟩) (fun h1 g1 ar1 M1 p1 q1 f1 => ⟨rfl, ?_⟩)
      have pz := p1
      have qz := q1
      have fz := f1
      exact K _ _ _ M1 pz qz fz
    · refine wp_kn k_115 rfl rfl ?_
      refine wp_br k_115 rfl rfl rfl rfl (fun _ => ?_) (fun z => absurd trivial z)
      refine wp_kn k_115 rfl rfl ?_
      refine wp_pure k_115 rfl rfl ?_
      refine wp_pure k_115 rfl rfl ?_
      refine wp_pure k_115 rfl rfl ?_
      refine wm_iv k_115 rfl rfl M [.int (nI i)] rfl (r := [.int (nI i), .int (nI 2), .int (nI 1), .ref m]) (Nat.le_of_ble_eq_true rfl) (Nat.le_of_ble_eq_true rfl) rfl ?_
      refine m_firstMet M V hW hi ⟨rfl, ?_⟩
      refine wm_iv k_115 rfl rfl M [.int (nI 1), .int (nI 2), .int (nI i), .int (fO (fmE E.1 i))] rfl (r := []) (Nat.le_of_ble_eq_true rfl) (Nat.le_of_ble_eq_true rfl) rfl ?_
      refine m_addFault M hFL hF2 (c := (atP E.1 1 i = nI 0 ∨ atP E.1 1 i = nI 1) ∧ fmE E.1 i ≠ none) (Or.inl ⟨⟨by rw [← hc]; exact kk, fun q => z79 (hq.mpr q)⟩, rfl⟩) (fun h2 g2 ar2 M2 p2 q2 f2 => ⟨rfl, ?_⟩)
      have pz := p2
      have qz := q2
      have fz := f2
      exact K _ _ _ M2 pz qz fz
  refine wp_pure k_115 rfl rfl ?_
  refine wp_br k_115 rfl rfl rfl rfl (fun z => absurd z k0) (fun _ => ?_)
  refine wp_pure k_115 rfl rfl ?_
  refine wp_kn k_115 rfl rfl ?_
  refine wp_br k_115 rfl rfl rfl rfl (fun _ => ?_) (fun z => absurd k1 z)
  exact K _ _ _ M (fun _ _ => rfl) (fun _ _ => rfl) (by unfold flt2; rw [ift_n (fun q => q.1.elim (fun w => k0 (hc.trans w)) (fun w => k1 (hc.trans w))), List.append_nil]; exact hFL)
theorem m_ff3 {h0 h : sm_H} {m : Nat} {g : Nat → Int32} {ar : Nat → Nat → Int32} {Q : Nat → Option Value → sm_H → Prop} {E : Ed} {e : Nat} (M : MS h0 h m g ar) (V : MV g ar E e) (hW : EdW E) (F : FarE E (fun a b => ar 62 (60 * a + b))) {l : List Flt} (hFL : FL g ar l) (hF2 : l.length < 200) {i : Nat} (hi : i < E.1.length) {c b : Int32} (hc : c = atP E.1 1 i) (hb : b = atP E.1 7 i) (K : ∀ h' g' ar', MS h0 h' m g' ar' → (∀ k, k ≠ 66 → g' k = g k) → (∀ k, k < 63 ∨ 65 < k → ar' k = ar k) → FL g' ar' (l ++ flt3 E i) → sm_wp 115 122 [.ref m, .int (nI i), .int c, .int b] [] h' Q) : sm_wp 115 97 [.ref m, .int (nI i), .int c, .int b] [] h Q := by
  have he := V.he
  have hn := V.hn
  have hl := V.hl
  by_cases k1 : c = nI 1
  · skip
    refine wp_pure k_115 rfl rfl ?_
    refine wp_kn k_115 rfl rfl ?_
    refine wp_br k_115 rfl rfl rfl rfl (fun z => absurd z (fun q => q k1)) (fun _ => ?_)
    refine wp_pure k_115 rfl rfl ?_
    refine wp_pure k_115 rfl rfl ?_
    refine wp_pure k_115 rfl rfl ?_
    refine wm_iv k_115 rfl rfl M [.int (nI i)] rfl (r := [.ref m]) (Nat.le_of_ble_eq_true rfl) (Nat.le_of_ble_eq_true rfl) rfl ?_
    refine m_isServed M V hW F hi (fun zi => ⟨rfl, ?_⟩) (fun zi => ⟨rfl, ?_⟩)
    · refine wp_br k_115 rfl rfl rfl rfl (fun _ => ?_) (fun z => absurd (show ¬ (nI 1 : Int32) = 0 by decide) z)
      refine wp_kn k_115 rfl rfl ?_
      refine wp_kn k_115 rfl rfl ?_
      refine wp_pure k_115 rfl rfl ?_
      refine wp_km k_115 rfl rfl ?_
      refine wm_iv k_115 rfl rfl M [.int (nI 0), .int (nI 3), .int (nI i), .int (-1)] rfl (r := []) (Nat.le_of_ble_eq_true rfl) (Nat.le_of_ble_eq_true rfl) rfl ?_
      refine m_addFault M hFL hF2 (c := atP E.1 1 i = nI 1 ∧ ¬ srvE E i) (Or.inr ⟨fun q => q.2 zi, rfl⟩) (fun h1 g1 ar1 M1 p1 q1 f1 => ⟨rfl, ?_⟩)
      have pz := p1
      have qz := q1
      have fz := f1
      exact K _ _ _ M1 pz qz fz
    · refine wp_br k_115 rfl rfl rfl rfl (fun z => absurd z (show ¬ (¬ (nI 0 : Int32) = 0) by decide)) (fun _ => ?_)
      refine wp_kn k_115 rfl rfl ?_
      refine wp_br k_115 rfl rfl rfl rfl (fun _ => ?_) (fun z => absurd trivial z)
      refine wp_kn k_115 rfl rfl ?_
      refine wp_pure k_115 rfl rfl ?_
      refine wp_km k_115 rfl rfl ?_
      refine wm_iv k_115 rfl rfl M [.int (nI 1), .int (nI 3), .int (nI i), .int (-1)] rfl (r := []) (Nat.le_of_ble_eq_true rfl) (Nat.le_of_ble_eq_true rfl) rfl ?_
      refine m_addFault M hFL hF2 (c := atP E.1 1 i = nI 1 ∧ ¬ srvE E i) (Or.inl ⟨⟨hc.symm.trans k1, zi⟩, rfl⟩) (fun h2 g2 ar2 M2 p2 q2 f2 => ⟨rfl, ?_⟩)
      have pz := p2
      have qz := q2
      have fz := f2
      exact K _ _ _ M2 pz qz fz
  · skip
    refine wp_pure k_115 rfl rfl ?_
    refine wp_kn k_115 rfl rfl ?_
    refine wp_br k_115 rfl rfl rfl rfl (fun _ => ?_) (fun z => absurd k1 z)
    exact K _ _ _ M (fun _ _ => rfl) (fun _ _ => rfl) (by unfold flt3; rw [ift_n (fun q => k1 (hc.trans q.1)), List.append_nil]; exact hFL)
theorem m_ff4 {h0 h : sm_H} {m : Nat} {g : Nat → Int32} {ar : Nat → Nat → Int32} {Q : Nat → Option Value → sm_H → Prop} {E : Ed} {e : Nat} (M : MS h0 h m g ar) (V : MV g ar E e) (hW : EdW E) (F : FarE E (fun a b => ar 62 (60 * a + b))) {l : List Flt} (hFL : FL g ar l) (hF2 : l.length < 200) {i : Nat} (hi : i < E.1.length) {c b : Int32} (hc : c = atP E.1 1 i) (hb : b = atP E.1 7 i) (K : ∀ h' g' ar', MS h0 h' m g' ar' → (∀ k, k ≠ 66 → g' k = g k) → (∀ k, k < 63 ∨ 65 < k → ar' k = ar k) → FL g' ar' (l ++ flt4 E i) → sm_wp 115 157 [.ref m, .int (nI i), .int c, .int b] [] h' Q) : sm_wp 115 122 [.ref m, .int (nI i), .int c, .int b] [] h Q := by
  have he := V.he
  have hn := V.hn
  have hl := V.hl
  by_cases kk : c = nI 3 ∨ c = nI 4 ∨ c = nI 5
  · obtain ⟨r, hr, hrl, _⟩ := hW.of3 hi (by rw [← hc]; exact kk)
    have hbr := hb.trans hr
    subst hbr
    have ho : rO E.1 i = r := by unfold rO; rw [hr]; exact nI_clamp (by omega)
    rcases kk with k3 | k3 | k3
    · have kk : c = nI 3 ∨ c = nI 4 ∨ c = nI 5 := Or.inl k3
      refine wp_pure k_115 rfl rfl ?_
      refine wp_kn k_115 rfl rfl ?_
      refine wp_br k_115 rfl rfl rfl rfl (fun _ => ?_) (fun z => absurd k3 z)
      refine wp_pure k_115 rfl rfl ?_
      refine wp_pure k_115 rfl rfl ?_
      refine wp_pure k_115 rfl rfl ?_
      refine wm_iv k_115 rfl rfl M [.int (nI r)] rfl (r := [.ref m]) (Nat.le_of_ble_eq_true rfl) (Nat.le_of_ble_eq_true rfl) rfl ?_
      refine m_isLinked M V hW hrl (fun zi => ⟨rfl, ?_⟩) (fun zi => ⟨rfl, ?_⟩)
      · refine wp_br k_115 rfl rfl rfl rfl (fun _ => ?_) (fun z => absurd (show ¬ (nI 1 : Int32) = 0 by decide) z)
        refine wp_kn k_115 rfl rfl ?_
        refine wp_kn k_115 rfl rfl ?_
        refine wp_pure k_115 rfl rfl ?_
        refine wp_pure k_115 rfl rfl ?_
        refine wm_iv k_115 rfl rfl M [.int (nI 0), .int (nI 4), .int (nI i), .int (nI r)] rfl (r := []) (Nat.le_of_ble_eq_true rfl) (Nat.le_of_ble_eq_true rfl) rfl ?_
        refine m_addFault M hFL hF2 (c := (atP E.1 1 i = nI 3 ∨ atP E.1 1 i = nI 4 ∨ atP E.1 1 i = nI 5) ∧ ¬ lnkE E (rO E.1 i)) (Or.inr ⟨fun q => q.2 (by rw [ho]; exact zi), rfl⟩) (fun h1 g1 ar1 M1 p1 q1 f1 => ⟨rfl, ?_⟩)
        have pz := p1
        have qz := q1
        have fz := f1
        exact K _ _ _ M1 pz qz (by unfold flt4; rw [hr]; exact fz)
      · refine wp_br k_115 rfl rfl rfl rfl (fun z => absurd z (show ¬ (¬ (nI 0 : Int32) = 0) by decide)) (fun _ => ?_)
        refine wp_kn k_115 rfl rfl ?_
        refine wp_br k_115 rfl rfl rfl rfl (fun _ => ?_) (fun z => absurd trivial z)
        refine wp_kn k_115 rfl rfl ?_
        refine wp_pure k_115 rfl rfl ?_
        refine wp_pure k_115 rfl rfl ?_
        refine wm_iv k_115 rfl rfl M [.int (nI 1), .int (nI 4), .int (nI i), .int (nI r)] rfl (r := []) (Nat.le_of_ble_eq_true rfl) (Nat.le_of_ble_eq_true rfl) rfl ?_
        refine m_addFault M hFL hF2 (c := (atP E.1 1 i = nI 3 ∨ atP E.1 1 i = nI 4 ∨ atP E.1 1 i = nI 5) ∧ ¬ lnkE E (rO E.1 i)) (Or.inl ⟨⟨by rw [← hc]; exact kk, by rw [ho]; exact zi⟩, rfl⟩) (fun h2 g2 ar2 M2 p2 q2 f2 => ⟨rfl, ?_⟩)
        have pz := p2
        have qz := q2
        have fz := f2
        exact K _ _ _ M2 pz qz (by unfold flt4; rw [hr]; exact fz)
    · have kk : c = nI 3 ∨ c = nI 4 ∨ c = nI 5 := Or.inr (Or.inl k3)
      refine wp_pure k_115 rfl rfl ?_
      refine wp_kn k_115 rfl rfl ?_
      refine wp_br k_115 rfl rfl rfl rfl (fun z => absurd z (show ¬ (c = nI 3) from (by rw [k3]; decide))) (fun _ => ?_)
      refine wp_pure k_115 rfl rfl ?_
      refine wp_kn k_115 rfl rfl ?_
      refine wp_br k_115 rfl rfl rfl rfl (fun _ => ?_) (fun z => absurd k3 z)
      refine wp_pure k_115 rfl rfl ?_
      refine wp_pure k_115 rfl rfl ?_
      refine wp_pure k_115 rfl rfl ?_
      refine wm_iv k_115 rfl rfl M [.int (nI r)] rfl (r := [.ref m]) (Nat.le_of_ble_eq_true rfl) (Nat.le_of_ble_eq_true rfl) rfl ?_
      refine m_isLinked M V hW hrl (fun zi => ⟨rfl, ?_⟩) (fun zi => ⟨rfl, ?_⟩)
      · refine wp_br k_115 rfl rfl rfl rfl (fun _ => ?_) (fun z => absurd (show ¬ (nI 1 : Int32) = 0 by decide) z)
        refine wp_kn k_115 rfl rfl ?_
        refine wp_kn k_115 rfl rfl ?_
        refine wp_pure k_115 rfl rfl ?_
        refine wp_pure k_115 rfl rfl ?_
        refine wm_iv k_115 rfl rfl M [.int (nI 0), .int (nI 4), .int (nI i), .int (nI r)] rfl (r := []) (Nat.le_of_ble_eq_true rfl) (Nat.le_of_ble_eq_true rfl) rfl ?_
        refine m_addFault M hFL hF2 (c := (atP E.1 1 i = nI 3 ∨ atP E.1 1 i = nI 4 ∨ atP E.1 1 i = nI 5) ∧ ¬ lnkE E (rO E.1 i)) (Or.inr ⟨fun q => q.2 (by rw [ho]; exact zi), rfl⟩) (fun h1 g1 ar1 M1 p1 q1 f1 => ⟨rfl, ?_⟩)
        have pz := p1
        have qz := q1
        have fz := f1
        exact K _ _ _ M1 pz qz (by unfold flt4; rw [hr]; exact fz)
      · refine wp_br k_115 rfl rfl rfl rfl (fun z => absurd z (show ¬ (¬ (nI 0 : Int32) = 0) by decide)) (fun _ => ?_)
        refine wp_kn k_115 rfl rfl ?_
        refine wp_br k_115 rfl rfl rfl rfl (fun _ => ?_) (fun z => absurd trivial z)
        refine wp_kn k_115 rfl rfl ?_
        refine wp_pure k_115 rfl rfl ?_
        refine wp_pure k_115 rfl rfl ?_
        refine wm_iv k_115 rfl rfl M [.int (nI 1), .int (nI 4), .int (nI i), .int (nI r)] rfl (r := []) (Nat.le_of_ble_eq_true rfl) (Nat.le_of_ble_eq_true rfl) rfl ?_
        refine m_addFault M hFL hF2 (c := (atP E.1 1 i = nI 3 ∨ atP E.1 1 i = nI 4 ∨ atP E.1 1 i = nI 5) ∧ ¬ lnkE E (rO E.1 i)) (Or.inl ⟨⟨by rw [← hc]; exact kk, by rw [ho]; exact zi⟩, rfl⟩) (fun h2 g2 ar2 M2 p2 q2 f2 => ⟨rfl, ?_⟩)
        have pz := p2
        have qz := q2
        have fz := f2
        exact K _ _ _ M2 pz qz (by unfold flt4; rw [hr]; exact fz)
    · have kk : c = nI 3 ∨ c = nI 4 ∨ c = nI 5 := Or.inr (Or.inr k3)
      refine wp_pure k_115 rfl rfl ?_
      refine wp_kn k_115 rfl rfl ?_
      refine wp_br k_115 rfl rfl rfl rfl (fun z => absurd z (show ¬ (c = nI 3) from (by rw [k3]; decide))) (fun _ => ?_)
      refine wp_pure k_115 rfl rfl ?_
      refine wp_kn k_115 rfl rfl ?_
      refine wp_br k_115 rfl rfl rfl rfl (fun z => absurd z (show ¬ (c = nI 4) from (by rw [k3]; decide))) (fun _ => ?_)
      refine wp_pure k_115 rfl rfl ?_
      refine wp_kn k_115 rfl rfl ?_
      refine wp_br k_115 rfl rfl rfl rfl (fun z => absurd z (fun q => q k3)) (fun _ => ?_)
      refine wp_pure k_115 rfl rfl ?_
      refine wp_pure k_115 rfl rfl ?_
      refine wp_pure k_115 rfl rfl ?_
      refine wm_iv k_115 rfl rfl M [.int (nI r)] rfl (r := [.ref m]) (Nat.le_of_ble_eq_true rfl) (Nat.le_of_ble_eq_true rfl) rfl ?_
      refine m_isLinked M V hW hrl (fun zi => ⟨rfl, ?_⟩) (fun zi => ⟨rfl, ?_⟩)
      · refine wp_br k_115 rfl rfl rfl rfl (fun _ => ?_) (fun z => absurd (show ¬ (nI 1 : Int32) = 0 by decide) z)
        refine wp_kn k_115 rfl rfl ?_
        refine wp_kn k_115 rfl rfl ?_
        refine wp_pure k_115 rfl rfl ?_
        refine wp_pure k_115 rfl rfl ?_
        refine wm_iv k_115 rfl rfl M [.int (nI 0), .int (nI 4), .int (nI i), .int (nI r)] rfl (r := []) (Nat.le_of_ble_eq_true rfl) (Nat.le_of_ble_eq_true rfl) rfl ?_
        refine m_addFault M hFL hF2 (c := (atP E.1 1 i = nI 3 ∨ atP E.1 1 i = nI 4 ∨ atP E.1 1 i = nI 5) ∧ ¬ lnkE E (rO E.1 i)) (Or.inr ⟨fun q => q.2 (by rw [ho]; exact zi), rfl⟩) (fun h1 g1 ar1 M1 p1 q1 f1 => ⟨rfl, ?_⟩)
        have pz := p1
        have qz := q1
        have fz := f1
        exact K _ _ _ M1 pz qz (by unfold flt4; rw [hr]; exact fz)
      · refine wp_br k_115 rfl rfl rfl rfl (fun z => absurd z (show ¬ (¬ (nI 0 : Int32) = 0) by decide)) (fun _ => ?_)
        refine wp_kn k_115 rfl rfl ?_
        refine wp_br k_115 rfl rfl rfl rfl (fun _ => ?_) (fun z => absurd trivial z)
        refine wp_kn k_115 rfl rfl ?_
        refine wp_pure k_115 rfl rfl ?_
        refine wp_pure k_115 rfl rfl ?_
        refine wm_iv k_115 rfl rfl M [.int (nI 1), .int (nI 4), .int (nI i), .int (nI r)] rfl (r := []) (Nat.le_of_ble_eq_true rfl) (Nat.le_of_ble_eq_true rfl) rfl ?_
        refine m_addFault M hFL hF2 (c := (atP E.1 1 i = nI 3 ∨ atP E.1 1 i = nI 4 ∨ atP E.1 1 i = nI 5) ∧ ¬ lnkE E (rO E.1 i)) (Or.inl ⟨⟨by rw [← hc]; exact kk, by rw [ho]; exact zi⟩, rfl⟩) (fun h2 g2 ar2 M2 p2 q2 f2 => ⟨rfl, ?_⟩)
        have pz := p2
        have qz := q2
        have fz := f2
        exact K _ _ _ M2 pz qz (by unfold flt4; rw [hr]; exact fz)
  · skip
    refine wp_pure k_115 rfl rfl ?_
    refine wp_kn k_115 rfl rfl ?_
    refine wp_br k_115 rfl rfl rfl rfl (fun z => absurd z (fun q => kk (Or.inl q))) (fun _ => ?_)
    refine wp_pure k_115 rfl rfl ?_
    refine wp_kn k_115 rfl rfl ?_
    refine wp_br k_115 rfl rfl rfl rfl (fun z => absurd z (fun q => kk (Or.inr (Or.inl q)))) (fun _ => ?_)
    refine wp_pure k_115 rfl rfl ?_
    refine wp_kn k_115 rfl rfl ?_
    refine wp_br k_115 rfl rfl rfl rfl (fun _ => ?_) (fun z => absurd (fun q => kk (Or.inr (Or.inr q))) z)
    exact K _ _ _ M (fun _ _ => rfl) (fun _ _ => rfl) (by unfold flt4; rw [ift_n (fun q => kk (by rw [hc]; exact q.1)), List.append_nil]; exact hFL)
theorem m_ff5 {h0 h : sm_H} {m : Nat} {g : Nat → Int32} {ar : Nat → Nat → Int32} {Q : Nat → Option Value → sm_H → Prop} {E : Ed} {e : Nat} (M : MS h0 h m g ar) (V : MV g ar E e) (hW : EdW E) (F : FarE E (fun a b => ar 62 (60 * a + b))) {l : List Flt} (hFL : FL g ar l) (hF2 : l.length < 200) {i : Nat} (hi : i < E.1.length) {c b : Int32} (hc : c = atP E.1 1 i) (hb : b = atP E.1 7 i) (K : ∀ h' g' ar', MS h0 h' m g' ar' → (∀ k, k ≠ 66 → g' k = g k) → (∀ k, k < 63 ∨ 65 < k → ar' k = ar k) → FL g' ar' (l ++ flt5 E i) → sm_wp 115 191 [.ref m, .int (nI i), .int c, .int b] [] h' Q) : sm_wp 115 157 [.ref m, .int (nI i), .int c, .int b] [] h Q := by
  have he := V.he
  have hn := V.hn
  have hl := V.hl
  by_cases k2 : c = nI 2
  · skip
    refine wp_pure k_115 rfl rfl ?_
    refine wp_kn k_115 rfl rfl ?_
    refine wp_br k_115 rfl rfl rfl rfl (fun z => absurd z (fun q => q k2)) (fun _ => ?_)
    refine wp_pure k_115 rfl rfl ?_
    refine wp_pure k_115 rfl rfl ?_
    refine wp_pure k_115 rfl rfl ?_
    refine wm_iv k_115 rfl rfl M [.int (nI i)] rfl (r := [.ref m]) (Nat.le_of_ble_eq_true rfl) (Nat.le_of_ble_eq_true rfl) rfl ?_
    refine m_isLinked M V hW hi (fun zi => ⟨rfl, ?_⟩) (fun zi => ⟨rfl, ?_⟩)
    · refine wp_br k_115 rfl rfl rfl rfl (fun z => absurd z (show ¬ ((nI 1 : Int32) = 0) by decide)) (fun _ => ?_)
      refine wp_pure k_115 rfl rfl ?_
      refine wp_pure k_115 rfl rfl ?_
      refine wm_iv k_115 rfl rfl M [.int (nI i)] rfl (r := [.ref m]) (Nat.le_of_ble_eq_true rfl) (Nat.le_of_ble_eq_true rfl) rfl ?_
      refine m_toDock M V hW F hi ⟨rfl, ?_⟩
      refine wp_km k_115 rfl rfl ?_
      refine wp_br k_115 rfl rfl rfl rfl (fun (z177 : ¬ stdE E i = -1) => ?_) (fun (z177 : ¬ (¬ stdE E i = -1)) => ?_)
      · refine wp_kn k_115 rfl rfl ?_
        refine wp_kn k_115 rfl rfl ?_
        refine wp_pure k_115 rfl rfl ?_
        refine wp_km k_115 rfl rfl ?_
        refine wm_iv k_115 rfl rfl M [.int (nI 0), .int (nI 5), .int (nI i), .int (-1)] rfl (r := []) (Nat.le_of_ble_eq_true rfl) (Nat.le_of_ble_eq_true rfl) rfl ?_
        refine m_addFault M hFL hF2 (c := atP E.1 1 i = nI 2 ∧ lnkE E i ∧ ¬ extE E i) (Or.inr ⟨fun q => z177 ((stdE_m1 hW hn hi).mpr q.2.2), rfl⟩) (fun h1 g1 ar1 M1 p1 q1 f1 => ⟨rfl, ?_⟩)
        have pz := p1
        have qz := q1
        have fz := f1
        exact K _ _ _ M1 pz qz fz
      · refine wp_kn k_115 rfl rfl ?_
        refine wp_br k_115 rfl rfl rfl rfl (fun _ => ?_) (fun z => absurd trivial z)
        refine wp_kn k_115 rfl rfl ?_
        refine wp_pure k_115 rfl rfl ?_
        refine wp_km k_115 rfl rfl ?_
        refine wm_iv k_115 rfl rfl M [.int (nI 1), .int (nI 5), .int (nI i), .int (-1)] rfl (r := []) (Nat.le_of_ble_eq_true rfl) (Nat.le_of_ble_eq_true rfl) rfl ?_
        refine m_addFault M hFL hF2 (c := atP E.1 1 i = nI 2 ∧ lnkE E i ∧ ¬ extE E i) (Or.inl ⟨⟨hc.symm.trans k2, zi, (stdE_m1 hW hn hi).mp (Classical.not_not.mp z177)⟩, rfl⟩) (fun h2 g2 ar2 M2 p2 q2 f2 => ⟨rfl, ?_⟩)
        have pz := p2
        have qz := q2
        have fz := f2
        exact K _ _ _ M2 pz qz fz
    · refine wp_br k_115 rfl rfl rfl rfl (fun _ => ?_) (fun z => absurd (show (nI 0 : Int32) = 0 by decide) z)
      refine wp_kn k_115 rfl rfl ?_
      refine wp_kn k_115 rfl rfl ?_
      refine wp_pure k_115 rfl rfl ?_
      refine wp_km k_115 rfl rfl ?_
      refine wm_iv k_115 rfl rfl M [.int (nI 0), .int (nI 5), .int (nI i), .int (-1)] rfl (r := []) (Nat.le_of_ble_eq_true rfl) (Nat.le_of_ble_eq_true rfl) rfl ?_
      refine m_addFault M hFL hF2 (c := atP E.1 1 i = nI 2 ∧ lnkE E i ∧ ¬ extE E i) (Or.inr ⟨fun q => zi q.2.1, rfl⟩) (fun h3 g3 ar3 M3 p3 q3 f3 => ⟨rfl, ?_⟩)
      have pz := p3
      have qz := q3
      have fz := f3
      exact K _ _ _ M3 pz qz fz
  · skip
    refine wp_pure k_115 rfl rfl ?_
    refine wp_kn k_115 rfl rfl ?_
    refine wp_br k_115 rfl rfl rfl rfl (fun _ => ?_) (fun z => absurd k2 z)
    exact K _ _ _ M (fun _ _ => rfl) (fun _ _ => rfl) (by unfold flt5; rw [ift_n (fun q => k2 (hc.trans q.1)), List.append_nil]; exact hFL)
theorem FarE.same {E : Ed} {f f' : Nat → Nat → Int32} (F : FarE E f) (h : ∀ a b, f' a b = f a b) : FarE E f' := fun a b ha hb => by rw [h a b]; exact F a b ha hb
theorem m_findFaults {h0 h : sm_H} {m : Nat} {g : Nat → Int32} {ar : Nat → Nat → Int32} {Q : Nat → Option Value → sm_H → Prop} {E : Ed} {e : Nat} (M : MS h0 h m g ar) (V : MV g ar E e) (hW : EdW E) (K : ∀ h' g' ar', MS h0 h' m g' ar' → (∀ k, k ≠ 66 → g' k = g k) → (∀ k, k < 62 ∨ 65 < k → ar' k = ar k) → FL g' ar' (fltE E) → Q 0 none h') : sm_wp 115 0 [.ref m, jk, jk, jk] [] h Q := by
  have he := V.he
  have hn := V.hn
  have hl := V.hl
  refine wp_pure k_115 rfl rfl ?_
  refine wm_iv k_115 rfl rfl M [] rfl (r := []) (Nat.le_of_ble_eq_true rfl) (Nat.le_of_ble_eq_true rfl) rfl ?_
  refine m_measure M V hW (fun hA arA MA fA F => ⟨rfl, ?_⟩)
  have VA := V.same (g' := g) (ar' := arA) ⟨rfl, rfl, rfl⟩ (fun k hk => fA k (by omega))
  refine wp_pure k_115 rfl rfl ?_
  refine wp_kn k_115 rfl rfl ?_
  refine wm_pi 66 MA k_115 rfl rfl rfl rfl rfl rfl (fun hB MB => ?_)
  refine wp_kn k_115 rfl rfl ?_
  refine wp_pure k_115 rfl rfl ?_
  refine dn (n := E.1.length) (P := fun i => ∀ x2 x3 h1 g1 ar1, MS h0 h1 m g1 ar1 → (∀ k, k ≠ 66 → g1 k = g k) → (∀ k, k < 63 ∨ 65 < k → ar1 k = arA k) → FL g1 ar1 (fltN E i) → sm_wp 115 11 [.ref m, .int (nI i), x2, x3] [] h1 Q) ?_ ?_ 0 (Nat.zero_le _) jk jk hB _ _ MB (fun k hk => uF_ne hk) (fun _ _ => rfl) ⟨uF_at, fun j f hj => by cases hj⟩
  · intro x2 x3 h1 g1 ar1 M1 eG eA hl
    have V1 := VA.same (g' := g1) (ar' := ar1) ⟨eG 3 (by decide), eG 14 (by decide), eG 18 (by decide)⟩ (fun k hk => eA k (by omega))
    refine wp_pure k_115 rfl rfl ?_
    refine wp_pure k_115 rfl rfl ?_
    refine wm_iv k_115 rfl rfl M1 [] rfl (r := [.int (nI (E.1.length))]) (Nat.le_of_ble_eq_true rfl) (Nat.le_of_ble_eq_true rfl) rfl ?_
    refine wp_pure k_109 rfl rfl ?_
    refine wm_ga 4 M1 k_109 rfl rfl rfl (by decide) ?_
    refine wp_pure k_109 rfl rfl ?_
    refine wm_gi 3 M1 k_109 rfl rfl rfl rfl V1.h3 ?_
    refine wm_al 4 M1 k_109 rfl rfl (by decide) rfl (show e < 8 by omega) (v := nI E.1.length) V1.n4 ?_
    refine wp_irt k_109 rfl rfl rfl ⟨rfl, ?_⟩
    refine wp_br k_115 rfl rfl rfl rfl (fun _ => ?_) (fun z => absurd (Int32.le_refl _) z)
    exact wp_vrt k_115 rfl rfl (K _ _ _ M1 eG (fun k hk => (eA k (by omega)).trans (fA k (by omega))) hl)
  · intro i hi ih x2 x3 h1 g1 ar1 M1 eG eA hl
    have V1 := VA.same (g' := g1) (ar' := ar1) ⟨eG 3 (by decide), eG 14 (by decide), eG 18 (by decide)⟩ (fun k hk => eA k (by omega))
    have F1 : FarE E (fun a b => ar1 62 (60 * a + b)) := F.same (fun a b => by rw [eA 62 (by omega)])
    have ln := @flt_len E i
    have le1 := ift_le (atP E.1 1 i = nI 1 ∧ ¬ insE E.1 i (rO E.1 i)) (nI 1, nI i, atP E.1 7 i)
    have le2 := ift_le ((atP E.1 1 i = nI 0 ∨ atP E.1 1 i = nI 1) ∧ fmE E.1 i ≠ none) (nI 2, nI i, fO (fmE E.1 i))
    have le3 := ift_le (atP E.1 1 i = nI 1 ∧ ¬ srvE E i) (nI 3, nI i, -1)
    have le4 := ift_le ((atP E.1 1 i = nI 3 ∨ atP E.1 1 i = nI 4 ∨ atP E.1 1 i = nI 5) ∧ ¬ lnkE E (rO E.1 i)) (nI 4, nI i, atP E.1 7 i)
    have le1 : (flt1 E i).length ≤ 1 := le1
    have le2 : (flt2 E i).length ≤ 1 := le2
    have le3 : (flt3 E i).length ≤ 1 := le3
    have le4 : (flt4 E i).length ≤ 1 := le4
    refine wp_pure k_115 rfl rfl ?_
    refine wp_pure k_115 rfl rfl ?_
    refine wm_iv k_115 rfl rfl M1 [] rfl (r := [.int (nI i)]) (Nat.le_of_ble_eq_true rfl) (Nat.le_of_ble_eq_true rfl) rfl ?_
    refine wp_pure k_109 rfl rfl ?_
    refine wm_ga 4 M1 k_109 rfl rfl rfl (by decide) ?_
    refine wp_pure k_109 rfl rfl ?_
    refine wm_gi 3 M1 k_109 rfl rfl rfl rfl V1.h3 ?_
    refine wm_al 4 M1 k_109 rfl rfl (by decide) rfl (show e < 8 by omega) (v := nI E.1.length) V1.n4 ?_
    refine wp_irt k_109 rfl rfl rfl ⟨rfl, ?_⟩
    refine wp_br k_115 rfl rfl rfl rfl (fun z => absurd z (nI_ge hi (by omega))) (fun _ => ?_)
    refine wp_pure k_115 rfl rfl ?_
    refine wp_pure k_115 rfl rfl ?_
    refine wm_iv k_115 rfl rfl M1 [.int (nI i)] rfl (r := []) (Nat.le_of_ble_eq_true rfl) (Nat.le_of_ble_eq_true rfl) rfl ?_
    refine wp_pure k_112 rfl rfl ?_
    refine wm_ga 5 M1 k_112 rfl rfl rfl (by decide) ?_
    refine wp_pure k_112 rfl rfl ?_
    refine wm_iv k_112 rfl rfl M1 [] rfl (r := [.ref (m + mo 5)]) (Nat.le_of_ble_eq_true rfl) (Nat.le_of_ble_eq_true rfl) rfl ?_
    refine wp_kn k_110 rfl rfl ?_
    refine wp_pure k_110 rfl rfl ?_
    refine wm_gi 3 M1 k_110 rfl rfl rfl rfl V1.h3 ?_
    refine wp_mulN k_110 rfl ?_
    refine wp_irt k_110 rfl rfl rfl ⟨rfl, ?_⟩
    refine wp_pure k_112 rfl rfl ?_
    refine wp_addN k_112 rfl ?_
    refine wm_al 5 M1 k_112 rfl rfl (by decide) rfl (show (60 * e) + i < 480 by omega) (v := atP E.1 1 i) (V1.p5 i (by omega)) ?_
    refine wp_irt k_112 rfl rfl rfl ⟨rfl, ?_⟩
    refine wp_pure k_115 rfl rfl ?_
    refine wp_pure k_115 rfl rfl ?_
    refine wm_ga 12 M1 k_115 rfl rfl rfl (by decide) ?_
    refine wp_pure k_115 rfl rfl ?_
    refine wm_iv k_115 rfl rfl M1 [] rfl (r := [.ref (m + mo 12)]) (Nat.le_of_ble_eq_true rfl) (Nat.le_of_ble_eq_true rfl) rfl ?_
    refine wp_kn k_110 rfl rfl ?_
    refine wp_pure k_110 rfl rfl ?_
    refine wm_gi 3 M1 k_110 rfl rfl rfl rfl V1.h3 ?_
    refine wp_mulN k_110 rfl ?_
    refine wp_irt k_110 rfl rfl rfl ⟨rfl, ?_⟩
    refine wp_pure k_115 rfl rfl ?_
    refine wp_addN k_115 rfl ?_
    refine wm_al 12 M1 k_115 rfl rfl (by decide) rfl (show (60 * e) + i < 480 by omega) (v := atP E.1 7 i) (V1.p12 i (by omega)) ?_
    refine wp_pure k_115 rfl rfl ?_
    refine m_ff1 M1 V1 hW F1 hl (by omega) hi rfl rfl (fun ha ga ara Ma pa qa fa => ?_)
    have Va := V1.same (g' := ga) (ar' := ara) ⟨pa 3 (by decide), pa 14 (by decide), pa 18 (by decide)⟩ (fun k hk => qa k (by omega))
    have Fa : FarE E (fun a b => ara 62 (60 * a + b)) := F1.same (fun a b => by rw [qa 62 (by omega)])
    refine m_ff2 Ma Va hW Fa fa (by rw [List.length_append]; omega) hi rfl rfl (fun hb gb arb Mb pb qb fb => ?_)
    have Vb := Va.same (g' := gb) (ar' := arb) ⟨pb 3 (by decide), pb 14 (by decide), pb 18 (by decide)⟩ (fun k hk => qb k (by omega))
    have Fb : FarE E (fun a b => arb 62 (60 * a + b)) := Fa.same (fun a b => by rw [qb 62 (by omega)])
    refine m_ff3 Mb Vb hW Fb fb (by rw [List.length_append, List.length_append]; omega) hi rfl rfl (fun hc gc arc Mc pc qc fc => ?_)
    have Vc := Vb.same (g' := gc) (ar' := arc) ⟨pc 3 (by decide), pc 14 (by decide), pc 18 (by decide)⟩ (fun k hk => qc k (by omega))
    have Fc : FarE E (fun a b => arc 62 (60 * a + b)) := Fb.same (fun a b => by rw [qc 62 (by omega)])
    refine m_ff4 Mc Vc hW Fc fc (by rw [List.length_append, List.length_append, List.length_append]; omega) hi rfl rfl (fun hd gd ard Md pd qd fd => ?_)
    have Vd := Vc.same (g' := gd) (ar' := ard) ⟨pd 3 (by decide), pd 14 (by decide), pd 18 (by decide)⟩ (fun k hk => qd k (by omega))
    have Fd : FarE E (fun a b => ard 62 (60 * a + b)) := Fc.same (fun a b => by rw [qd 62 (by omega)])
    refine m_ff5 Md Vd hW Fd fd (by rw [List.length_append, List.length_append, List.length_append, List.length_append]; omega) hi rfl rfl (fun he ge are Me pe qe fe => ?_)
    refine wp_inc k_115 rfl rfl rfl ?_
    refine wp_br k_115 rfl rfl rfl rfl (fun _ => ?_) (fun z => absurd trivial z)
    exact ih _ _ _ _ _ Me (fun k hk => (pe k hk).trans ((pd k hk).trans ((pc k hk).trans ((pb k hk).trans ((pa k hk).trans (eG k hk)))))) (fun k hk => (qe k hk).trans ((qd k hk).trans ((qc k hk).trans ((qb k hk).trans ((qa k hk).trans (eA k hk)))))) (by show FL ge are (fltN E i ++ fltI E i); unfold fltI; rw [← List.append_assoc, ← List.append_assoc, ← List.append_assoc, ← List.append_assoc]; exact fe)
theorem m_check {h0 h : sm_H} {m : Nat} {g : Nat → Int32} {ar : Nat → Nat → Int32} {Q : Nat → Option Value → sm_H → Prop} {E : Ed} {e : Nat} (M : MS h0 h m g ar) (V : MV g ar E e) (hW : EdW E) (K : ∀ h' g' ar', MS h0 h' m g' ar' → (∀ k, k ≠ 66 → k ≠ 0 → g' k = g k) → g' 0 = nI 0 → (∀ k, k < 62 ∨ 65 < k → ar' k = ar k) → Q 0 (some (.int (nI (fltE E).length))) h') : sm_wp 114 0 [.ref m] [] h Q := by
  have he := V.he
  have hn := V.hn
  have hl := V.hl
  refine wp_pure k_114 rfl rfl ?_
  refine wp_kn k_114 rfl rfl ?_
  refine wm_pi 0 M k_114 rfl rfl rfl rfl rfl rfl (fun h1 M1 => ?_)
  have V1 := V.same (g' := uF g 0 (nI 0)) (ar' := ar) ⟨uF_ne (by decide), uF_ne (by decide), uF_ne (by decide)⟩ (fun _ _ => rfl)
  refine wp_pure k_114 rfl rfl ?_
  refine wm_iv k_114 rfl rfl M1 [] rfl (r := []) (Nat.le_of_ble_eq_true rfl) (Nat.le_of_ble_eq_true rfl) rfl ?_
  refine m_findFaults M1 V1 hW (fun h2 g2 ar2 M2 p2 q2 f2 => ⟨rfl, ?_⟩)
  have pz := p2
  have qz := q2
  have fz := f2
  refine wp_pure k_114 rfl rfl ?_
  refine wm_gi 66 M2 k_114 rfl rfl rfl rfl f2.1 ?_
  exact wp_irt k_114 rfl rfl rfl (K _ _ _ M2 (fun k h1 h2 => (pz k h1).trans (uF_ne h2)) ((pz 0 (by decide)).trans uF_at) qz)
noncomputable def ftV (E : Ed) (k w : Nat) : Int32 := match (fltE E)[k]? with
  | some f => if w = 0 then f.1 else if w = 1 then f.2.1 else f.2.2
  | none => 0
theorem m_fault {h0 h : sm_H} {m : Nat} {g : Nat → Int32} {ar : Nat → Nat → Int32} {Q : Nat → Option Value → sm_H → Prop} {E : Ed} {e : Nat} (M : MS h0 h m g ar) (V : MV g ar E e) (hW : EdW E) {i a : Int32} (K1 : ¬ (∃ k, k < (fltE E).length ∧ i = nI k) → ∀ h' g' ar', MS h0 h' m g' ar' → (∀ k, k ≠ 66 → k ≠ 0 → g' k = g k) → g' 0 = nI 1 → (∀ k, k < 62 ∨ 65 < k → ar' k = ar k) → Q 0 (some (.int (nI 0))) h') (K2 : ∀ k, k < (fltE E).length → i = nI k → ¬ (∃ w, w ≤ 2 ∧ a = nI w) → ∀ h' g' ar', MS h0 h' m g' ar' → (∀ k, k ≠ 66 → k ≠ 0 → g' k = g k) → g' 0 = nI 2 → (∀ k, k < 62 ∨ 65 < k → ar' k = ar k) → Q 0 (some (.int (nI 0))) h') (K0 : ∀ k w, k < (fltE E).length → i = nI k → w ≤ 2 → a = nI w → ∀ h' g' ar', MS h0 h' m g' ar' → (∀ k, k ≠ 66 → k ≠ 0 → g' k = g k) → g' 0 = nI 0 → (∀ k, k < 62 ∨ 65 < k → ar' k = ar k) → Q 0 (some (.int (ftV E k w))) h') : sm_wp 127 0 [.ref m, .int i, .int a] [] h Q := by
  have he := V.he
  have hn := V.hn
  have hl := V.hl
  have hfl := @flt_len E E.1.length
  have hfl : (fltE E).length ≤ 3 * E.1.length := hfl
  by_cases z1 : nI 0 ≤ i ∧ i ≤ nI (fltE E).length - nI 1
  · obtain ⟨k, hk, rfl⟩ := in_y (by omega) z1
    by_cases z2 : nI 0 ≤ a ∧ a ≤ nI 2
    · obtain ⟨w, hw, rfl⟩ := in_c (by decide) z2
      refine wp_pure k_127 rfl rfl ?_
      refine wm_iv k_127 rfl rfl M [] rfl (r := []) (Nat.le_of_ble_eq_true rfl) (Nat.le_of_ble_eq_true rfl) rfl ?_
      refine m_findFaults M V hW (fun h1 g1 ar1 M1 p1 q1 f1 => ⟨rfl, ?_⟩)
      have pz := p1
      have qz := q1
      have fz := f1
      refine wp_pure k_127 rfl rfl ?_
      refine wp_pure k_127 rfl rfl ?_
      refine wp_kn k_127 rfl rfl ?_
      refine wp_pure k_127 rfl rfl ?_
      refine wm_gi 66 M1 k_127 rfl rfl rfl rfl f1.1 ?_
      refine wp_kn k_127 rfl rfl ?_
      refine wp_isub k_127 rfl ?_
      refine wp_is k_127 rfl (by decide) [.int (nI k), .int (nI 0), .int ((nI (fltE E).length) - (nI 1))] rfl (r := [.ref m]) (Nat.le_of_ble_eq_true rfl) (Nat.le_of_ble_eq_true rfl) rfl ?_
      refine m_in (fun _ => ⟨rfl, ?_⟩) (fun z => absurd z1 z)
      refine wp_br k_127 rfl rfl rfl rfl (fun _ => ?_) (fun z => absurd (show ¬ (nI 1 : Int32) = 0 by decide) z)
      refine wp_pure k_127 rfl rfl ?_
      refine wp_kn k_127 rfl rfl ?_
      refine wp_kn k_127 rfl rfl ?_
      refine wp_is k_127 rfl (by decide) [.int (nI w), .int (nI 0), .int (nI 2)] rfl (r := [.ref m]) (Nat.le_of_ble_eq_true rfl) (Nat.le_of_ble_eq_true rfl) rfl ?_
      refine m_in (fun _ => ⟨rfl, ?_⟩) (fun z => absurd z2 z)
      refine wp_br k_127 rfl rfl rfl rfl (fun _ => ?_) (fun z => absurd (show ¬ (nI 1 : Int32) = 0 by decide) z)
      refine wp_kn k_127 rfl rfl ?_
      refine wm_pi 0 M1 k_127 rfl rfl rfl rfl rfl rfl (fun h4 M4 => ?_)
      refine wp_pure k_127 rfl rfl ?_
      refine wm_gi 0 M4 k_127 rfl rfl rfl rfl uF_at ?_
      refine wp_br k_127 rfl rfl rfl rfl (fun _ => ?_) (fun z => absurd (show (nI 0 : Int32) ≤ 0 by decide) z)
      refine wp_pure k_127 rfl rfl ?_
      refine wp_br k_127 rfl rfl rfl rfl (fun (z50 : ¬ nI w = 0) => ?_) (fun (z50 : ¬ (¬ nI w = 0)) => ?_)
      · have y50 : ¬ w = 0 := yNE (by omega) (by omega) (show ¬ nI w = nI 0 from z50)
        refine wp_pure k_127 rfl rfl ?_
        refine wp_kn k_127 rfl rfl ?_
        refine wp_br k_127 rfl rfl rfl rfl (fun (z64 : ¬ nI w = nI 1) => ?_) (fun (z64 : ¬ (¬ nI w = nI 1)) => ?_)
        · have y64 : ¬ w = 1 := yNE (by omega) (by omega) z64
          refine wp_pure k_127 rfl rfl ?_
          refine wm_ga 65 M4 k_127 rfl rfl rfl (by decide) ?_
          refine wp_pure k_127 rfl rfl ?_
          refine wm_al 65 M4 k_127 rfl rfl (by decide) rfl (show k < 200 by omega) rfl ?_
          have ek := fz.2 k _ (List.getElem?_eq_getElem hk)
          have e := K0 k 2 hk rfl (by omega) (by rw [show w = 2 by omega]) _ _ _ M4 (fun k h1 h2 => (uF_ne h2).trans (pz k h1)) uF_at qz
          unfold ftV at e
          rw [List.getElem?_eq_getElem hk] at e
          rw [ek.2.2]
          exact wp_irt k_127 rfl rfl rfl e
        · have y64 : w = 1 := yNNE (by omega) (by omega) z64
          refine wp_pure k_127 rfl rfl ?_
          refine wm_ga 64 M4 k_127 rfl rfl rfl (by decide) ?_
          refine wp_pure k_127 rfl rfl ?_
          refine wm_al 64 M4 k_127 rfl rfl (by decide) rfl (show k < 200 by omega) rfl ?_
          refine wp_br k_127 rfl rfl rfl rfl (fun _ => ?_) (fun z => absurd trivial z)
          have ek := fz.2 k _ (List.getElem?_eq_getElem hk)
          have e := K0 k 1 hk rfl (by omega) (by rw [show w = 1 by omega]) _ _ _ M4 (fun k h1 h2 => (uF_ne h2).trans (pz k h1)) uF_at qz
          unfold ftV at e
          rw [List.getElem?_eq_getElem hk] at e
          rw [ek.2.1]
          exact wp_irt k_127 rfl rfl rfl e
      · have y50 : w = 0 := yNNE (by omega) (by omega) (show ¬ (¬ nI w = nI 0) from z50)
        refine wp_pure k_127 rfl rfl ?_
        refine wm_ga 63 M4 k_127 rfl rfl rfl (by decide) ?_
        refine wp_pure k_127 rfl rfl ?_
        refine wm_al 63 M4 k_127 rfl rfl (by decide) rfl (show k < 200 by omega) rfl ?_
        refine wp_br k_127 rfl rfl rfl rfl (fun _ => ?_) (fun z => absurd trivial z)
        have ek := fz.2 k _ (List.getElem?_eq_getElem hk)
        have e := K0 k 0 hk rfl (by omega) (by rw [show w = 0 by omega]) _ _ _ M4 (fun k h1 h2 => (uF_ne h2).trans (pz k h1)) uF_at qz
        unfold ftV at e
        rw [List.getElem?_eq_getElem hk] at e
        rw [ek.1]
        exact wp_irt k_127 rfl rfl rfl e
    · skip
      refine wp_pure k_127 rfl rfl ?_
      refine wm_iv k_127 rfl rfl M [] rfl (r := []) (Nat.le_of_ble_eq_true rfl) (Nat.le_of_ble_eq_true rfl) rfl ?_
      refine m_findFaults M V hW (fun h1 g1 ar1 M1 p1 q1 f1 => ⟨rfl, ?_⟩)
      have pz := p1
      have qz := q1
      have fz := f1
      refine wp_pure k_127 rfl rfl ?_
      refine wp_pure k_127 rfl rfl ?_
      refine wp_kn k_127 rfl rfl ?_
      refine wp_pure k_127 rfl rfl ?_
      refine wm_gi 66 M1 k_127 rfl rfl rfl rfl f1.1 ?_
      refine wp_kn k_127 rfl rfl ?_
      refine wp_isub k_127 rfl ?_
      refine wp_is k_127 rfl (by decide) [.int (nI k), .int (nI 0), .int ((nI (fltE E).length) - (nI 1))] rfl (r := [.ref m]) (Nat.le_of_ble_eq_true rfl) (Nat.le_of_ble_eq_true rfl) rfl ?_
      refine m_in (fun _ => ⟨rfl, ?_⟩) (fun z => absurd z1 z)
      refine wp_br k_127 rfl rfl rfl rfl (fun _ => ?_) (fun z => absurd (show ¬ (nI 1 : Int32) = 0 by decide) z)
      refine wp_pure k_127 rfl rfl ?_
      refine wp_kn k_127 rfl rfl ?_
      refine wp_kn k_127 rfl rfl ?_
      refine wp_is k_127 rfl (by decide) [.int a, .int (nI 0), .int (nI 2)] rfl (r := [.ref m]) (Nat.le_of_ble_eq_true rfl) (Nat.le_of_ble_eq_true rfl) rfl ?_
      refine m_in (fun z => absurd z z2) (fun _ => ⟨rfl, ?_⟩)
      refine wp_br k_127 rfl rfl rfl rfl (fun z => absurd z (show ¬ (¬ (nI 0 : Int32) = 0) by decide)) (fun _ => ?_)
      refine wp_kn k_127 rfl rfl ?_
      refine wp_br k_127 rfl rfl rfl rfl (fun _ => ?_) (fun z => absurd trivial z)
      refine wm_pi 0 M1 k_127 rfl rfl rfl rfl rfl rfl (fun h4 M4 => ?_)
      refine wp_pure k_127 rfl rfl ?_
      refine wm_gi 0 M4 k_127 rfl rfl rfl rfl uF_at ?_
      refine wp_br k_127 rfl rfl rfl rfl (fun z => absurd z (show ¬ ((nI 2 : Int32) ≤ 0) by decide)) (fun _ => ?_)
      refine wp_kn k_127 rfl rfl ?_
      exact wp_irt k_127 rfl rfl rfl (K2 k hk rfl (fun ⟨w, hw, e⟩ => z2 (by rw [e]; exact in_d (by decide) hw)) _ _ _ M4 (fun k h1 h2 => (uF_ne h2).trans (pz k h1)) uF_at qz)
  · skip
    refine wp_pure k_127 rfl rfl ?_
    refine wm_iv k_127 rfl rfl M [] rfl (r := []) (Nat.le_of_ble_eq_true rfl) (Nat.le_of_ble_eq_true rfl) rfl ?_
    refine m_findFaults M V hW (fun h1 g1 ar1 M1 p1 q1 f1 => ⟨rfl, ?_⟩)
    have pz := p1
    have qz := q1
    have fz := f1
    refine wp_pure k_127 rfl rfl ?_
    refine wp_pure k_127 rfl rfl ?_
    refine wp_kn k_127 rfl rfl ?_
    refine wp_pure k_127 rfl rfl ?_
    refine wm_gi 66 M1 k_127 rfl rfl rfl rfl f1.1 ?_
    refine wp_kn k_127 rfl rfl ?_
    refine wp_isub k_127 rfl ?_
    refine wp_is k_127 rfl (by decide) [.int i, .int (nI 0), .int ((nI (fltE E).length) - (nI 1))] rfl (r := [.ref m]) (Nat.le_of_ble_eq_true rfl) (Nat.le_of_ble_eq_true rfl) rfl ?_
    refine m_in (fun z => absurd z z1) (fun _ => ⟨rfl, ?_⟩)
    refine wp_br k_127 rfl rfl rfl rfl (fun z => absurd z (show ¬ (¬ (nI 0 : Int32) = 0) by decide)) (fun _ => ?_)
    refine wp_kn k_127 rfl rfl ?_
    refine wp_br k_127 rfl rfl rfl rfl (fun _ => ?_) (fun z => absurd trivial z)
    refine wm_pi 0 M1 k_127 rfl rfl rfl rfl rfl rfl (fun h3 M3 => ?_)
    refine wp_pure k_127 rfl rfl ?_
    refine wm_gi 0 M3 k_127 rfl rfl rfl rfl uF_at ?_
    refine wp_br k_127 rfl rfl rfl rfl (fun z => absurd z (show ¬ ((nI 1 : Int32) ≤ 0) by decide)) (fun _ => ?_)
    refine wp_kn k_127 rfl rfl ?_
    exact wp_irt k_127 rfl rfl rfl (K1 (fun ⟨k, hk, e⟩ => z1 (by rw [e]; exact in_n (by omega) hk)) _ _ _ M3 (fun k h1 h2 => (uF_ne h2).trans (pz k h1)) uF_at qz)
