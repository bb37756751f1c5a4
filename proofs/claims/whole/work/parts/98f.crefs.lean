/-! THE REFERENCE's CALLS in the law -/
theorem pitD {c : Prop} {a b : Int32} (ha : ∃ d, d < 128 ∧ a = nI d) (hb : ∃ d, d < 128 ∧ b = nI d) : ∃ d, d < 128 ∧ pit c a b = nI d := by
  by_cases q : c
  · rw [pit_y q]; exact ha
  · rw [pit_n q]; exact hb
theorem SI.prn {σ : Sg} (S : SI σ) : SI (prS σ (plnE (sCur σ))) := by
  have hr : rowE (cE σ).1 ≤ 20 := rowN_le S.1 _ (Nat.le_refl _)
  have el : (plnE (sCur σ)).length = 41 * rowE (cE σ).1 := plnE_len _
  refine S.pr (by omega) (fun c hc => ?_)
  obtain ⟨j, hj⟩ := List.mem_iff_getElem?.mp hc
  obtain ⟨_, rfl⟩ := plnE_get hj
  unfold plC
  split
  · exact ⟨10, by decide, rfl⟩
  · unfold sgnE
    exact pitD ⟨68, by decide, rfl⟩ (pitD ⟨83, by decide, rfl⟩ (pitD ⟨67, by decide, rfl⟩ (pitD ⟨69, by decide, rfl⟩ (pitD ⟨43, by decide, rfl⟩ (pitD ⟨98, by decide, rfl⟩ (pitD ⟨35, by decide, rfl⟩ ⟨46, by decide, rfl⟩))))))
theorem mvN_lt {cur old : List Pl} {un : Nat → Int32} : ∀ n, ∀ k ∈ (mvN cur old un n).1, k < n
  | 0, k, hk => absurd hk List.not_mem_nil
  | n + 1, k, hk => by
    by_cases q : mvP cur old un n
    · rw [mvN_y q] at hk
      rcases List.mem_append.mp hk with z | z
      · have := mvN_lt n k z; omega
      · have := List.mem_singleton.mp z; omega
    · rw [mvN_n q] at hk
      have := mvN_lt n k hk; omega
theorem SI.dff {σ : Sg} (S : SI σ) {e : Nat} : SI (dfS σ (mvN (sCur σ) (edP σ e) (sUn σ e) (edP σ e).length).1) := by
  have h6 := S.2.2.2.2.2.2.1 e
  exact S.df (Nat.le_trans (mvN_le _) h6) (fun k hk => Nat.lt_of_lt_of_le (mvN_lt _ k hk) h6)
theorem GW.mk25 {h : sm_H} {x mr o b z L : Nat} {xs : Nat → Int32} {σ1 σ : Sg} {t : Int32} (G : GW h x mr o b z L xs σ1 σ t) : hC h mr = 25 := by
  obtain ⟨_, _, g, ar, M, _⟩ := G
  exact M.1
theorem GW.F {h : sm_H} {x mr o b z L : Nat} {xs : Nat → Int32} {σ1 σ : Sg} {t : Int32} (G : GW h x mr o b z L xs σ1 σ t) {h' : sm_H} {g' : Nat → Int32} {ar' : Nat → Nat → Int32} (M' : MS h h' mr g' ar') : hT h' = hT h ∧ hU h' = hU h ∧ hA h' o 0 = hA h o 0 := ⟨M'.2.2.2.1, M'.2.2.2.2.1, (M'.2.2.2.2.2.2 o G.2.1.2.2.2.2.2.2.2.1).2.2.2 0⟩
theorem KC.mr {c : Nat} {g g' : Nat → Int32} {ar ar' : Nat → Nat → Int32} {σ : Sg} (R : MR g ar σ) (k : KC c g g' ar ar') : MR g' ar' σ := R.same ⟨k.1 _ (by decide), k.1 _ (by decide), k.1 _ (by decide), k.1 _ (by decide), k.1 _ (by decide), k.1 _ (by decide)⟩ (fun j hj => k.2.2 j (by omega))
theorem MR.chk {g g' : Nat → Int32} {ar ar' : Nat → Nat → Int32} {σ : Sg} (R : MR g ar σ) (k : ∀ k, k ≠ 66 → k ≠ 0 → g' k = g k) (j : ∀ k, k < 62 ∨ 65 < k → ar' k = ar k) : MR g' ar' σ := R.same ⟨k _ (by decide) (by decide), k _ (by decide) (by decide), k _ (by decide) (by decide), k _ (by decide) (by decide), k _ (by decide) (by decide), k _ (by decide) (by decide)⟩ (fun i hi => j i (by omega))
theorem r_thrown {h : sm_H} {Q : Nat → Option Value → sm_H → Prop} {x mr o b z L : Nat} {xs : Nat → Int32} {σ1 σ : Sg} {t : Int32} (G : GW h x mr o b z L xs σ1 σ t) (K : Q 0 (some (.int t)) h) : sm_wp 81 0 [.ref mr] [] h Q := by
  obtain ⟨g, ar, M, R, e00⟩ := id G.2.2
  exact m_thrown M e00 K
theorem r_sign_y {h : sm_H} {Q : Nat → Option Value → sm_H → Prop} {x mr o b z L : Nat} {xs : Nat → Int32} {σ1 σ : Sg} {t : Int32} (G : GW h x mr o b z L xs σ1 σ t) {c : Int32} (hl : sLen σ < 600) (hok : okS c) (K : ∀ h', GW h' x mr o b z L xs σ1 (sgS σ c) (nI 0) → hT h' = hT h → hU h' = hU h → hA h' o 0 = hA h o 0 → Q 0 none h') : sm_wp 82 0 [.ref mr, .int c] [] h Q := by
  obtain ⟨g, ar, M, R, e00⟩ := id G.2.2
  exact m_sign M R hl (fun _ h1 g1 ar1 M1 e1 R1 => K h1 (G.ref M1 R1 e1) (G.F M1).1 (G.F M1).2.1 (G.F M1).2.2) (fun hn => absurd hok hn)
theorem r_sign_n {h : sm_H} {Q : Nat → Option Value → sm_H → Prop} {x mr o b z L : Nat} {xs : Nat → Int32} {σ1 σ : Sg} {t : Int32} (G : GW h x mr o b z L xs σ1 σ t) {c : Int32} (hl : sLen σ < 600) (hok : ¬ okS c) (K : ∀ h', GW h' x mr o b z L xs σ1 σ (nI 1) → hT h' = hT h → hU h' = hU h → hA h' o 0 = hA h o 0 → Q 0 none h') : sm_wp 82 0 [.ref mr, .int c] [] h Q := by
  obtain ⟨g, ar, M, R, e00⟩ := id G.2.2
  exact m_sign M R hl (fun hn => absurd hn hok) (fun _ h1 g1 M1 e1 R1 => K h1 (G.ref M1 R1 e1) (G.F M1).1 (G.F M1).2.1 (G.F M1).2.2)
theorem r_read_e {h : sm_H} {Q : Nat → Option Value → sm_H → Prop} {x mr o b z L : Nat} {xs : Nat → Int32} {σ1 σ : Sg} {t : Int32} (G : GW h x mr o b z L xs σ1 σ t) {q : Nat} (hm : textM (sTx σ) (sLen σ) (sLen σ) ([], [], []) 0 = .error q) (K : ∀ h', GW h' x mr o b z L xs σ1 (clS σ) (nI 0) → hT h' = hT h → hU h' = hU h → hA h' o 0 = hA h o 0 → Q 0 (some (.int (-1 - nI q))) h') : sm_wp 84 0 [.ref mr, jk, jk] [] h Q := by
  obtain ⟨g, ar, M, R, e00⟩ := id G.2.2
  exact m_read M R (fun q' he h1 g1 ar1 M1 e1 R1 => by
    have e9 := he.symm.trans hm
    cases e9
    exact K h1 (G.ref M1 R1 e1) (G.F M1).1 (G.F M1).2.1 (G.F M1).2.2) (fun E he => absurd (he.symm.trans hm) (fun z => by cases z)) (fun E he => absurd (he.symm.trans hm) (fun z => by cases z))
theorem r_read_f {h : sm_H} {Q : Nat → Option Value → sm_H → Prop} {x mr o b z L : Nat} {xs : Nat → Int32} {σ1 σ : Sg} {t : Int32} (G : GW h x mr o b z L xs σ1 σ t) {E : Ed} (hm : textM (sTx σ) (sLen σ) (sLen σ) ([], [], []) 0 = .ok E) (hb : tooB σ E) (K : ∀ h', GW h' x mr o b z L xs σ1 (clS σ) (nI 1) → hT h' = hT h → hU h' = hU h → hA h' o 0 = hA h o 0 → Q 0 (some (.int (nI 0))) h') : sm_wp 84 0 [.ref mr, jk, jk] [] h Q := by
  obtain ⟨g, ar, M, R, e00⟩ := id G.2.2
  exact m_read M R (fun q he => absurd (he.symm.trans hm) (fun z => by cases z)) (fun E' he _ h1 g1 ar1 M1 e1 R1 => K h1 (G.ref M1 R1 e1) (G.F M1).1 (G.F M1).2.1 (G.F M1).2.2) (fun E' he hb' => absurd (by have e9 := he.symm.trans hm; cases e9; exact hb) hb')
theorem r_read_t {h : sm_H} {Q : Nat → Option Value → sm_H → Prop} {x mr o b z L : Nat} {xs : Nat → Int32} {σ1 σ : Sg} {t : Int32} (G : GW h x mr o b z L xs σ1 σ t) {E : Ed} (hm : textM (sTx σ) (sLen σ) (sLen σ) ([], [], []) 0 = .ok E) (hb : ¬ tooB σ E) (K : ∀ h', GW h' x mr o b z L xs σ1 (tkS σ E) (nI 0) → hT h' = hT h → hU h' = hU h → hA h' o 0 = hA h o 0 → Q 0 (some (.int (nI E.1.length))) h') : sm_wp 84 0 [.ref mr, jk, jk] [] h Q := by
  obtain ⟨g, ar, M, R, e00⟩ := id G.2.2
  exact m_read M R (fun q he => absurd (he.symm.trans hm) (fun z => by cases z)) (fun E' he hb' => absurd hb' (by have e9 := he.symm.trans hm; cases e9; exact hb)) (fun E' he _ h1 g1 ar1 M1 e1 R1 => by
    have e9 := he.symm.trans hm
    cases e9
    exact K h1 (G.ref M1 R1 e1) (G.F M1).1 (G.F M1).2.1 (G.F M1).2.2)
theorem r_place_y {h : sm_H} {Q : Nat → Option Value → sm_H → Prop} {x mr o b z L : Nat} {xs : Nat → Int32} {σ1 σ : Sg} {t : Int32} (G : GW h x mr o b z L xs σ1 σ t) (S : SI σ) {i a : Int32} {k w : Nat} (hk : k < (cE σ).1.length) (hw : w ≤ 7) (ei : i = nI k) (ea : a = nI w) (K : ∀ h', GW h' x mr o b z L xs σ1 σ (nI 0) → hT h' = hT h → hU h' = hU h → hA h' o 0 = hA h o 0 → Q 0 (some (.int (plV (cE σ) k w))) h') : sm_wp 108 0 [.ref mr, .int i, .int a, jk] [] h Q := by
  obtain ⟨g, ar, M, R, e00⟩ := id G.2.2
  have n6 : (cE σ).1.length ≤ 60 := S.2.2.2.2.2.1
  exact m_place M R.view S.1 (fun hn => absurd ⟨k, w, hk, hw, ei, ea⟩ hn) (fun k' w' p1 p2 p3 p4 h1 M1 => by
    obtain rfl : k' = k := yE (by omega) (by omega) (p3.symm.trans ei)
    obtain rfl : w' = w := yE (by omega) (by omega) (p4.symm.trans ea)
    exact K h1 (G.ref M1 R.code uF_at) (G.F M1).1 (G.F M1).2.1 (G.F M1).2.2)
theorem r_place_n {h : sm_H} {Q : Nat → Option Value → sm_H → Prop} {x mr o b z L : Nat} {xs : Nat → Int32} {σ1 σ : Sg} {t : Int32} (G : GW h x mr o b z L xs σ1 σ t) (S : SI σ) {i a : Int32} (hn : ¬ (∃ k w, k < (cE σ).1.length ∧ w ≤ 7 ∧ i = nI k ∧ a = nI w)) (K : ∀ h', GW h' x mr o b z L xs σ1 σ (nI 1) → hT h' = hT h → hU h' = hU h → hA h' o 0 = hA h o 0 → Q 0 (some (.int (nI 0))) h') : sm_wp 108 0 [.ref mr, .int i, .int a, jk] [] h Q := by
  obtain ⟨g, ar, M, R, e00⟩ := id G.2.2
  exact m_place M R.view S.1 (fun _ h1 M1 => K h1 (G.ref M1 R.code uF_at) (G.F M1).1 (G.F M1).2.1 (G.F M1).2.2) (fun k' w' p1 p2 p3 p4 => absurd ⟨k', w', p1, p2, p3, p4⟩ hn)
theorem r_named {h : sm_H} {Q : Nat → Option Value → sm_H → Prop} {x mr o b z L : Nat} {xs : Nat → Int32} {σ1 σ : Sg} {t : Int32} (G : GW h x mr o b z L xs σ1 σ t) {c : Int32} (K : ∀ h', GW h' x mr o b z L xs σ1 σ (nI 0) → hT h' = hT h → hU h' = hU h → hA h' o 0 = hA h o 0 → Q 0 (some (.int (fIv (fI (atP (cE σ).1 0) (cE σ).1.length c)))) h') : sm_wp 113 0 [.ref mr, .int c, jk] [] h Q := by
  obtain ⟨g, ar, M, R, e00⟩ := id G.2.2
  exact m_named M R.view (fun h1 M1 => K h1 (G.ref M1 R.code uF_at) (G.F M1).1 (G.F M1).2.1 (G.F M1).2.2)
theorem r_check {h : sm_H} {Q : Nat → Option Value → sm_H → Prop} {x mr o b z L : Nat} {xs : Nat → Int32} {σ1 σ : Sg} {t : Int32} (G : GW h x mr o b z L xs σ1 σ t) (S : SI σ) (K : ∀ h', GW h' x mr o b z L xs σ1 σ (nI 0) → hT h' = hT h → hU h' = hU h → hA h' o 0 = hA h o 0 → Q 0 (some (.int (nI (fltE (cE σ)).length))) h') : sm_wp 114 0 [.ref mr] [] h Q := by
  obtain ⟨g, ar, M, R, e00⟩ := id G.2.2
  exact m_check M R.view S.1 (fun h1 g1 ar1 M1 k1 e1 j1 => K h1 (G.ref M1 (R.chk k1 j1) e1) (G.F M1).1 (G.F M1).2.1 (G.F M1).2.2)
theorem r_fault_y {h : sm_H} {Q : Nat → Option Value → sm_H → Prop} {x mr o b z L : Nat} {xs : Nat → Int32} {σ1 σ : Sg} {t : Int32} (G : GW h x mr o b z L xs σ1 σ t) (S : SI σ) {i a : Int32} {k w : Nat} (hk : k < (fltE (cE σ)).length) (ei : i = nI k) (hw : w ≤ 2) (ea : a = nI w) (K : ∀ h', GW h' x mr o b z L xs σ1 σ (nI 0) → hT h' = hT h → hU h' = hU h → hA h' o 0 = hA h o 0 → Q 0 (some (.int (ftV (cE σ) k w))) h') : sm_wp 127 0 [.ref mr, .int i, .int a] [] h Q := by
  obtain ⟨g, ar, M, R, e00⟩ := id G.2.2
  have nf : (fltE (cE σ)).length ≤ 180 := by
    have h3 : (fltE (cE σ)).length ≤ 3 * (cE σ).1.length := flt_len
    have n6 : (cE σ).1.length ≤ 60 := S.2.2.2.2.2.1
    omega
  exact m_fault M R.view S.1 (fun hn => absurd ⟨k, hk, ei⟩ hn) (fun k' p1 p2 hn => absurd ⟨w, hw, ea⟩ hn) (fun k' w' p1 p3 p2 p4 h1 g1 ar1 M1 k1 e1 j1 => by
    obtain rfl : k' = k := yE (by omega) (by omega) (p3.symm.trans ei)
    obtain rfl : w' = w := yE (by omega) (by omega) (p4.symm.trans ea)
    exact K h1 (G.ref M1 (R.chk k1 j1) e1) (G.F M1).1 (G.F M1).2.1 (G.F M1).2.2)
theorem r_fault_1 {h : sm_H} {Q : Nat → Option Value → sm_H → Prop} {x mr o b z L : Nat} {xs : Nat → Int32} {σ1 σ : Sg} {t : Int32} (G : GW h x mr o b z L xs σ1 σ t) (S : SI σ) {i a : Int32} (hn : ¬ (∃ k, k < (fltE (cE σ)).length ∧ i = nI k)) (K : ∀ h', GW h' x mr o b z L xs σ1 σ (nI 1) → hT h' = hT h → hU h' = hU h → hA h' o 0 = hA h o 0 → Q 0 (some (.int (nI 0))) h') : sm_wp 127 0 [.ref mr, .int i, .int a] [] h Q := by
  obtain ⟨g, ar, M, R, e00⟩ := id G.2.2
  exact m_fault M R.view S.1 (fun _ h1 g1 ar1 M1 k1 e1 j1 => K h1 (G.ref M1 (R.chk k1 j1) e1) (G.F M1).1 (G.F M1).2.1 (G.F M1).2.2) (fun k' p1 p2 _ => absurd ⟨k', p1, p2⟩ hn) (fun k' w' p1 p3 p2 p4 => absurd ⟨k', p1, p3⟩ hn)
theorem r_fault_2 {h : sm_H} {Q : Nat → Option Value → sm_H → Prop} {x mr o b z L : Nat} {xs : Nat → Int32} {σ1 σ : Sg} {t : Int32} (G : GW h x mr o b z L xs σ1 σ t) (S : SI σ) {i a : Int32} {k : Nat} (hk : k < (fltE (cE σ)).length) (ei : i = nI k) (hn : ¬ (∃ w, w ≤ 2 ∧ a = nI w)) (K : ∀ h', GW h' x mr o b z L xs σ1 σ (nI 2) → hT h' = hT h → hU h' = hU h → hA h' o 0 = hA h o 0 → Q 0 (some (.int (nI 0))) h') : sm_wp 127 0 [.ref mr, .int i, .int a] [] h Q := by
  obtain ⟨g, ar, M, R, e00⟩ := id G.2.2
  exact m_fault M R.view S.1 (fun hk' => absurd ⟨k, hk, ei⟩ hk') (fun k' p1 p2 _ h1 g1 ar1 M1 k1 e1 j1 => K h1 (G.ref M1 (R.chk k1 j1) e1) (G.F M1).1 (G.F M1).2.1 (G.F M1).2.2) (fun k' w' p1 p3 p2 p4 => absurd ⟨w', p2, p4⟩ hn)
theorem r_piece_y {h : sm_H} {Q : Nat → Option Value → sm_H → Prop} {x mr o b z L : Nat} {xs : Nat → Int32} {σ1 σ : Sg} {t : Int32} (G : GW h x mr o b z L xs σ1 σ t) (S : SI σ) {i a : Int32} {p w : Nat} (hp : pcX (cE σ).1 i = some p) (hw : w ≤ 4) (ea : a = nI w) (K : ∀ h', GW h' x mr o b z L xs σ1 σ (nI 0) → hT h' = hT h → hU h' = hU h → hA h' o 0 = hA h o 0 → Q 0 (some (.int (pcV (cE σ) p w))) h') : sm_wp 128 0 [.ref mr, .int i, .int a, jk, jk, jk] [] h Q := by
  obtain ⟨g, ar, M, R, e00⟩ := id G.2.2
  exact m_pieceQ M R.view S.1 (fun hn => absurd (hn.symm.trans hp) (fun z => by cases z)) (fun p' p1 hn => absurd ⟨w, hw, ea⟩ hn) (fun p' w' p1 p2 p4 h1 g1 ar1 M1 k1 => by
    obtain rfl : p' = p := by have e9 := p1.symm.trans hp; cases e9; rfl
    obtain rfl : w' = w := yE (by omega) (by omega) (p4.symm.trans ea)
    exact K h1 (G.ref M1 (KC.mr R k1) k1.2.1) (G.F M1).1 (G.F M1).2.1 (G.F M1).2.2)
theorem r_piece_1 {h : sm_H} {Q : Nat → Option Value → sm_H → Prop} {x mr o b z L : Nat} {xs : Nat → Int32} {σ1 σ : Sg} {t : Int32} (G : GW h x mr o b z L xs σ1 σ t) (S : SI σ) {i a : Int32} (hp : pcX (cE σ).1 i = none) (K : ∀ h', GW h' x mr o b z L xs σ1 σ (nI 1) → hT h' = hT h → hU h' = hU h → hA h' o 0 = hA h o 0 → Q 0 (some (.int (nI 0))) h') : sm_wp 128 0 [.ref mr, .int i, .int a, jk, jk, jk] [] h Q := by
  obtain ⟨g, ar, M, R, e00⟩ := id G.2.2
  exact m_pieceQ M R.view S.1 (fun _ h1 g1 ar1 M1 k1 => K h1 (G.ref M1 (KC.mr R k1) k1.2.1) (G.F M1).1 (G.F M1).2.1 (G.F M1).2.2) (fun p' p1 _ => absurd (p1.symm.trans hp) (fun z => by cases z)) (fun p' w' p1 p2 p4 => absurd (p1.symm.trans hp) (fun z => by cases z))
theorem r_piece_2 {h : sm_H} {Q : Nat → Option Value → sm_H → Prop} {x mr o b z L : Nat} {xs : Nat → Int32} {σ1 σ : Sg} {t : Int32} (G : GW h x mr o b z L xs σ1 σ t) (S : SI σ) {i a : Int32} {p : Nat} (hp : pcX (cE σ).1 i = some p) (hn : ¬ (∃ w, w ≤ 4 ∧ a = nI w)) (K : ∀ h', GW h' x mr o b z L xs σ1 σ (nI 2) → hT h' = hT h → hU h' = hU h → hA h' o 0 = hA h o 0 → Q 0 (some (.int (nI 0))) h') : sm_wp 128 0 [.ref mr, .int i, .int a, jk, jk, jk] [] h Q := by
  obtain ⟨g, ar, M, R, e00⟩ := id G.2.2
  exact m_pieceQ M R.view S.1 (fun hk' => absurd (hk'.symm.trans hp) (fun z => by cases z)) (fun p' p1 _ h1 g1 ar1 M1 k1 => K h1 (G.ref M1 (KC.mr R k1) k1.2.1) (G.F M1).1 (G.F M1).2.1 (G.F M1).2.2) (fun p' w' p1 p2 p4 => absurd ⟨w', p2, p4⟩ hn)
theorem r_inside_y {h : sm_H} {Q : Nat → Option Value → sm_H → Prop} {x mr o b z L : Nat} {xs : Nat → Int32} {σ1 σ : Sg} {t : Int32} (G : GW h x mr o b z L xs σ1 σ t) (S : SI σ) {i a : Int32} {k w : Nat} (hk : k < (cE σ).1.length) (hw : w < (cE σ).1.length) (ei : i = nI k) (ea : a = nI w) (h1k : atP (cE σ).1 1 k = nI 1) (h0w : atP (cE σ).1 1 w = nI 0) (K : ∀ h', GW h' x mr o b z L xs σ1 σ (nI 0) → hT h' = hT h → hU h' = hU h → hA h' o 0 = hA h o 0 → Q 0 (some (.int (pit (insE (cE σ).1 k w) (nI 1) (nI 0)))) h') : sm_wp 130 0 [.ref mr, .int i, .int a, jk] [] h Q := by
  obtain ⟨g, ar, M, R, e00⟩ := id G.2.2
  have n6 : (cE σ).1.length ≤ 60 := S.2.2.2.2.2.1
  exact m_inside M R.view (fun k' w' p1 p2 p3 p4 _ _ h1 g1 M1 k1 => by
    obtain rfl : k' = k := yE (by omega) (by omega) (p3.symm.trans ei)
    obtain rfl : w' = w := yE (by omega) (by omega) (p4.symm.trans ea)
    exact K h1 (G.ref M1 (KC.mr R k1) k1.2.1) (G.F M1).1 (G.F M1).2.1 (G.F M1).2.2) (fun hn => absurd ⟨k, w, hk, hw, ei, ea, h1k, h0w⟩ hn)
theorem r_inside_n {h : sm_H} {Q : Nat → Option Value → sm_H → Prop} {x mr o b z L : Nat} {xs : Nat → Int32} {σ1 σ : Sg} {t : Int32} (G : GW h x mr o b z L xs σ1 σ t) {i a : Int32} (hn : ¬ (∃ k w, k < (cE σ).1.length ∧ w < (cE σ).1.length ∧ i = nI k ∧ a = nI w ∧ atP (cE σ).1 1 k = nI 1 ∧ atP (cE σ).1 1 w = nI 0)) (K : ∀ h', GW h' x mr o b z L xs σ1 σ (nI 1) → hT h' = hT h → hU h' = hU h → hA h' o 0 = hA h o 0 → Q 0 (some (.int (nI 0))) h') : sm_wp 130 0 [.ref mr, .int i, .int a, jk] [] h Q := by
  obtain ⟨g, ar, M, R, e00⟩ := id G.2.2
  exact m_inside M R.view (fun k' w' p1 p2 p3 p4 p5 p6 => absurd ⟨k', w', p1, p2, p3, p4, p5, p6⟩ hn) (fun _ h1 g1 M1 k1 => K h1 (G.ref M1 (KC.mr R k1) k1.2.1) (G.F M1).1 (G.F M1).2.1 (G.F M1).2.2)
theorem r_fill_y {h : sm_H} {Q : Nat → Option Value → sm_H → Prop} {x mr o b z L : Nat} {xs : Nat → Int32} {σ1 σ : Sg} {t : Int32} (G : GW h x mr o b z L xs σ1 σ t) (S : SI σ) {i a c : Int32} {e k u : Nat} (he : e ≤ sE σ) (hk : k < (edP σ e).length) (hu : u ≤ 99) (ei : i = nI e) (ea : a = nI k) (ec : c = nI u) (h1k : atP (edP σ e) 1 k = nI 1) (K : ∀ h', GW h' x mr o b z L xs σ1 (flS σ e k (nI u)) (nI 0) → hT h' = hT h → hU h' = hU h → hA h' o 0 = hA h o 0 → Q 0 none h') : sm_wp 131 0 [.ref mr, .int i, .int a, .int c, jk] [] h Q := by
  obtain ⟨g, ar, M, R, e00⟩ := id G.2.2
  have q8 := S.2.2.2.2.1
  have qE : sE σ ≤ 8 := by unfold sE; omega
  have q6 := S.2.2.2.2.2.2.1
  exact m_fill M R (fun e' k' u' p1 p2 p3 p4 p5 p6 _ h1 g1 ar1 M1 e1 R1 => by
    obtain rfl : e' = e := yE (by omega) (by omega) (p4.symm.trans ei)
    obtain rfl : k' = k := yE (by have := q6 e'; omega) (by have := q6 e'; omega) (p5.symm.trans ea)
    obtain rfl : u' = u := yE (by omega) (by omega) (p6.symm.trans ec)
    exact K h1 (G.ref M1 R1 e1) (G.F M1).1 (G.F M1).2.1 (G.F M1).2.2) (fun hn => absurd ⟨e, k, u, he, hk, hu, ei, ea, ec, h1k⟩ hn)
theorem r_fill_n {h : sm_H} {Q : Nat → Option Value → sm_H → Prop} {x mr o b z L : Nat} {xs : Nat → Int32} {σ1 σ : Sg} {t : Int32} (G : GW h x mr o b z L xs σ1 σ t) {i a c : Int32} (hn : ¬ (∃ e k u, e ≤ sE σ ∧ k < (edP σ e).length ∧ u ≤ 99 ∧ i = nI e ∧ a = nI k ∧ c = nI u ∧ atP (edP σ e) 1 k = nI 1)) (K : ∀ h', GW h' x mr o b z L xs σ1 σ (nI 1) → hT h' = hT h → hU h' = hU h → hA h' o 0 = hA h o 0 → Q 0 none h') : sm_wp 131 0 [.ref mr, .int i, .int a, .int c, jk] [] h Q := by
  obtain ⟨g, ar, M, R, e00⟩ := id G.2.2
  exact m_fill M R (fun e' k' u' p1 p2 p3 p4 p5 p6 p7 => absurd ⟨e', k', u', p1, p2, p3, p4, p5, p6, p7⟩ hn) (fun _ h1 g1 M1 e1 R1 => K h1 (G.ref M1 R1 e1) (G.F M1).1 (G.F M1).2.1 (G.F M1).2.2)
theorem r_differ_y {h : sm_H} {Q : Nat → Option Value → sm_H → Prop} {x mr o b z L : Nat} {xs : Nat → Int32} {σ1 σ : Sg} {t : Int32} (G : GW h x mr o b z L xs σ1 σ t) (S : SI σ) {a : Int32} {e : Nat} (he : e ≤ sE σ) (ea : a = nI e) (K : ∀ h', GW h' x mr o b z L xs σ1 (dfS σ (mvN (sCur σ) (edP σ e) (sUn σ e) (edP σ e).length).1) (nI 0) → hT h' = hT h → hU h' = hU h → hA h' o 0 = hA h o 0 → Q 0 (some (.int (mvN (sCur σ) (edP σ e) (sUn σ e) (edP σ e).length).2)) h') : sm_wp 133 0 [.ref mr, .int a, jk, jk, jk] [] h Q := by
  obtain ⟨g, ar, M, R, e00⟩ := id G.2.2
  have q8 := S.2.2.2.2.1
  have qE : sE σ ≤ 8 := by unfold sE; omega
  exact m_differ M R S (fun e' p1 p4 h1 g1 ar1 M1 e1 R1 => by
    obtain rfl : e' = e := yE (by omega) (by omega) (p4.symm.trans ea)
    exact K h1 (G.ref M1 R1 e1) (G.F M1).1 (G.F M1).2.1 (G.F M1).2.2) (fun hn => absurd ⟨e, he, ea⟩ hn)
theorem r_differ_n {h : sm_H} {Q : Nat → Option Value → sm_H → Prop} {x mr o b z L : Nat} {xs : Nat → Int32} {σ1 σ : Sg} {t : Int32} (G : GW h x mr o b z L xs σ1 σ t) (S : SI σ) {a : Int32} (hn : ¬ (∃ e, e ≤ sE σ ∧ a = nI e)) (K : ∀ h', GW h' x mr o b z L xs σ1 σ (nI 1) → hT h' = hT h → hU h' = hU h → hA h' o 0 = hA h o 0 → Q 0 (some (.int (nI 0))) h') : sm_wp 133 0 [.ref mr, .int a, jk, jk, jk] [] h Q := by
  obtain ⟨g, ar, M, R, e00⟩ := id G.2.2
  exact m_differ M R S (fun e' p1 p4 => absurd ⟨e', p1, p4⟩ hn) (fun _ h1 g1 M1 e1 R1 => K h1 (G.ref M1 R1 e1) (G.F M1).1 (G.F M1).2.1 (G.F M1).2.2)
theorem r_moved_y {h : sm_H} {Q : Nat → Option Value → sm_H → Prop} {x mr o b z L : Nat} {xs : Nat → Int32} {σ1 σ : Sg} {t : Int32} (G : GW h x mr o b z L xs σ1 σ t) (S : SI σ) {a : Int32} {k : Nat} {y : Nat} (hk : (sMv σ)[k]? = some y) (ea : a = nI k) (K : ∀ h', GW h' x mr o b z L xs σ1 σ (nI 0) → hT h' = hT h → hU h' = hU h → hA h' o 0 = hA h o 0 → Q 0 (some (.int (nI y))) h') : sm_wp 135 0 [.ref mr, .int a] [] h Q := by
  obtain ⟨g, ar, M, R, e00⟩ := id G.2.2
  have q6 := S.2.2.2.2.2.2.2.2.1
  have kl := (List.getElem?_eq_some_iff.mp hk).1
  exact m_moved M R (fun k' y' p1 p4 h1 g1 M1 e1 R1 => by
    have kl' := (List.getElem?_eq_some_iff.mp p1).1
    obtain rfl : k' = k := yE (by omega) (by omega) (p4.symm.trans ea)
    obtain rfl : y' = y := by have e9 := p1.symm.trans hk; cases e9; rfl
    exact K h1 (G.ref M1 R1 e1) (G.F M1).1 (G.F M1).2.1 (G.F M1).2.2) (fun hn => absurd ⟨k, kl, ea⟩ hn)
theorem r_moved_n {h : sm_H} {Q : Nat → Option Value → sm_H → Prop} {x mr o b z L : Nat} {xs : Nat → Int32} {σ1 σ : Sg} {t : Int32} (G : GW h x mr o b z L xs σ1 σ t) {a : Int32} (hn : ¬ (∃ k, k < (sMv σ).length ∧ a = nI k)) (K : ∀ h', GW h' x mr o b z L xs σ1 σ (nI 1) → hT h' = hT h → hU h' = hU h → hA h' o 0 = hA h o 0 → Q 0 (some (.int (nI 0))) h') : sm_wp 135 0 [.ref mr, .int a] [] h Q := by
  obtain ⟨g, ar, M, R, e00⟩ := id G.2.2
  exact m_moved M R (fun k' y' p1 p4 => absurd ⟨k', (List.getElem?_eq_some_iff.mp p1).1, p4⟩ hn) (fun _ h1 g1 M1 e1 R1 => K h1 (G.ref M1 R1 e1) (G.F M1).1 (G.F M1).2.1 (G.F M1).2.2)
theorem r_at_y {h : sm_H} {Q : Nat → Option Value → sm_H → Prop} {x mr o b z L : Nat} {xs : Nat → Int32} {σ1 σ : Sg} {t : Int32} (G : GW h x mr o b z L xs σ1 σ t) (S : SI σ) {a : Int32} {k : Nat} {y : Int32} (hk : (sPn σ)[k]? = some y) (ea : a = nI k) (K : ∀ h', GW h' x mr o b z L xs σ1 σ (nI 0) → hT h' = hT h → hU h' = hU h → hA h' o 0 = hA h o 0 → Q 0 (some (.int (y))) h') : sm_wp 142 0 [.ref mr, .int a] [] h Q := by
  obtain ⟨g, ar, M, R, e00⟩ := id G.2.2
  have q6 := S.2.2.2.2.2.2.2.2.2.2.1
  have kl := (List.getElem?_eq_some_iff.mp hk).1
  exact m_at M R (fun k' y' p1 p4 h1 g1 M1 e1 R1 => by
    have kl' := (List.getElem?_eq_some_iff.mp p1).1
    obtain rfl : k' = k := yE (by omega) (by omega) (p4.symm.trans ea)
    obtain rfl : y' = y := by have e9 := p1.symm.trans hk; cases e9; rfl
    exact K h1 (G.ref M1 R1 e1) (G.F M1).1 (G.F M1).2.1 (G.F M1).2.2) (fun hn => absurd ⟨k, kl, ea⟩ hn)
theorem r_at_n {h : sm_H} {Q : Nat → Option Value → sm_H → Prop} {x mr o b z L : Nat} {xs : Nat → Int32} {σ1 σ : Sg} {t : Int32} (G : GW h x mr o b z L xs σ1 σ t) {a : Int32} (hn : ¬ (∃ k, k < (sPn σ).length ∧ a = nI k)) (K : ∀ h', GW h' x mr o b z L xs σ1 σ (nI 1) → hT h' = hT h → hU h' = hU h → hA h' o 0 = hA h o 0 → Q 0 (some (.int (nI 0))) h') : sm_wp 142 0 [.ref mr, .int a] [] h Q := by
  obtain ⟨g, ar, M, R, e00⟩ := id G.2.2
  exact m_at M R (fun k' y' p1 p4 => absurd ⟨k', (List.getElem?_eq_some_iff.mp p1).1, p4⟩ hn) (fun _ h1 g1 M1 e1 R1 => K h1 (G.ref M1 R1 e1) (G.F M1).1 (G.F M1).2.1 (G.F M1).2.2)
theorem r_print {h : sm_H} {Q : Nat → Option Value → sm_H → Prop} {x mr o b z L : Nat} {xs : Nat → Int32} {σ1 σ : Sg} {t : Int32} (G : GW h x mr o b z L xs σ1 σ t) (S : SI σ) (K : ∀ h', GW h' x mr o b z L xs σ1 (prS σ (plnE (sCur σ))) (nI 0) → hT h' = hT h → hU h' = hU h → hA h' o 0 = hA h o 0 → Q 0 (some (.int (nI (plnE (sCur σ)).length))) h') : sm_wp 136 0 [.ref mr, jk, jk, jk] [] h Q := by
  obtain ⟨g, ar, M, R, e00⟩ := id G.2.2
  exact m_print M R S (fun h1 g1 ar1 M1 e1 R1 => K h1 (G.ref M1 R1 e1) (G.F M1).1 (G.F M1).2.1 (G.F M1).2.2)
theorem r_count {h : sm_H} {Q : Nat → Option Value → sm_H → Prop} {x mr o b z L : Nat} {xs : Nat → Int32} {σ1 σ : Sg} {t : Int32} (G : GW h x mr o b z L xs σ1 σ t) {a : Int32} (K : ∀ h', GW h' x mr o b z L xs σ1 σ (nI 0) → hT h' = hT h → hU h' = hU h → hA h' o 0 = hA h o 0 → Q 0 (some (.int (cntV σ a))) h') : sm_wp 143 0 [.ref mr, .int a] [] h Q := by
  obtain ⟨g, ar, M, R, e00⟩ := id G.2.2
  exact m_count M R (fun h1 g1 M1 e1 R1 => K h1 (G.ref M1 R1 e1) (G.F M1).1 (G.F M1).2.1 (G.F M1).2.2)
