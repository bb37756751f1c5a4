/-! THE LAW's RUN -/
theorem and15 (v : Int32) : ∃ w, w ≤ 15 ∧ v &&& nI 15 = nI w := by
  have e : (v &&& nI 15).toBitVec.toNat ≤ 15 := by
    rw [Int32.toBitVec_and, BitVec.toNat_and]
    exact Nat.and_le_right
  refine ⟨(v &&& nI 15).toBitVec.toNat, e, ?_⟩
  apply Int32.toBitVec_inj.mp
  show (v &&& nI 15).toBitVec = BitVec.ofNat 32 ((v &&& nI 15).toBitVec.toNat)
  rw [BitVec.ofNat_toNat, BitVec.setWidth_eq]
theorem lt4 {L i : Nat} (hL : L ≤ 2048) (hi : i ≤ 2048) : (nI L - nI 4 < nI i) ↔ L < i + 4 := by
  by_cases q : 4 ≤ L
  · rw [nI_sub q, nI_ltI (by omega) (by omega)]
    omega
  · have h1 : nI L - nI 4 < 0 := by
      have hs : L = 0 ∨ L = 1 ∨ L = 2 ∨ L = 3 := by omega
      rcases hs with rfl | rfl | rfl | rfl <;> decide
    refine ⟨fun _ => by omega, fun _ => Int32.lt_of_lt_of_le h1 (Int32.not_lt.mp (nI_pos (by omega)))⟩
theorem CR.ext {h h' : sm_H} {x : Nat} {σ : Sg} {P P' : Nat → Prop} (c : CR h x σ P) (s : ∀ a, a < hT h → samA h h' a) (hz : hZ h' = hZ h) (ht : hT h ≤ hT h') (hPP : ∀ a, P' a → P a ∨ hT h ≤ a) (hlt : ∀ a, P' a → a < hT h') (hPz : P' (hZ h)) : CR h' x σ P' := by
  obtain ⟨sg, eds, ee, go, ins, lf, ef, pl, pls, fnd, efd, ea, fa, fda, lo, hi, dk, rc, ex, C⟩ := c
  have Lo := CA.lo C
  obtain ⟨c1, c2, c3, c4, c5, c6, c7, c8, c9⟩ := C.fresh s hz ht
  have n : ∀ a, a < hT h → ¬ P a → ¬ P' a := fun a ha hn z => (hPP a z).elim hn (fun q => by omega)
  refine ⟨sg, eds, ee, go, ins, lf, ef, pl, pls, fnd, efd, ea, fa, fda, lo, hi, dk, rc, ex, c1, c2, c3, c4, c5, c6, c7, ⟨fun a ha => ⟨(c8.1 a ha).1, n a (Lo.1 a ha) (c8.1 a ha).2⟩, c8.2.1, c8.2.2.1.imp id (n _ Lo.2.1), c8.2.2.2.1.imp id (n _ Lo.2.2.1), c8.2.2.2.2.1.imp id (n _ Lo.2.2.2.1), c8.2.2.2.2.2.1, fun i hi => n _ (Lo.2.2.2.2.1 i hi) (c8.2.2.2.2.2.2.1 i hi), fun e he a ha => ?_, c8.2.2.2.2.2.2.2.2⟩, c9.1, c9.2.1, by rw [hz]; exact hPz, hlt⟩
  have z := c8.2.2.2.2.2.2.2.1 e he a ha
  exact ⟨n a (by have := Lo.2.2.2.2.2.1 e he; have := ha.2; omega) z.1, z.2⟩
def isz (v : Value) : Bool := match v with
  | .int x => decide (x = 0)
  | _ => false
theorem isz_y {v : Value} (h : isz v = true) : v = .int (nI 0) := by
  cases v with
  | int x => exact congrArg Value.int (of_decide_eq_true h)
  | _ => cases h
theorem mdef : ∀ k, k < 67 → mo k = 0 → isz (defaultValue (xty 9 k)) = true := by decide +kernel
set_option maxRecDepth 8000 in
theorem law_L {Q : Nat → Option Value → sm_H → Prop} {x mr o b z L T0 U0 : Nat} {xs : Nat → Int32} (hL : L ≤ 2048) (K : ∀ h', hT h' ≤ T0 + 40000 → hU h' ≤ U0 + 5000000 → Q 0 (some (.int (nI 1))) h') : ∀ (f i : Nat) (h : sm_H) (σ : Sg) (t : Int32) (y5 y6 : Value), GW h x mr o b z L xs σ σ t → SI σ → 4 * sLen σ ≤ i → i ≤ 2048 → L + 4 ≤ i + 4 * f → hT h + 2 * sLen σ ≤ T0 + 16 * i + 400 * (sEd σ).length → hU h + 1200 * sLen σ ≤ U0 + 2100 * i + 82000 * (sEd σ).length → sm_wp 169 23 [.ref b, .ref x, .ref mr, .ref o, .int (nI i), y5, y6] [] h Q := by
  intro f
  induction f with
  | zero =>
    intro i h σ t y5 y6 G S hs hi hf p1 p2
    have q8 := S.2.2.2.2.1
    have hx : L < i + 4 := by omega
    refine wp_pure k_169 rfl rfl ?_
    refine wp_pure k_169 rfl rfl ?_
    refine wp_len k_169 rfl (by rw [G.2.1.1]; rfl) G.2.1.2.1 ?_
    refine wp_kn k_169 rfl rfl ?_
    refine wp_isub k_169 rfl ?_
    refine wp_br k_169 rfl rfl rfl rfl (fun _ => ?_) (fun z => absurd ((lt4 hL hi).mpr hx) z)
    refine wp_kn k_169 rfl rfl ?_
    exact wp_irt k_169 rfl rfl rfl (K h (by omega) (by omega))
  | succ f ih =>
    intro i h σ t y5 y6 G S hs hi hf p1 p2
    have q8 := S.2.2.2.2.1
    by_cases hx : L < i + 4
    · skip
      refine wp_pure k_169 rfl rfl ?_
      refine wp_pure k_169 rfl rfl ?_
      refine wp_len k_169 rfl (by rw [G.2.1.1]; rfl) G.2.1.2.1 ?_
      refine wp_kn k_169 rfl rfl ?_
      refine wp_isub k_169 rfl ?_
      refine wp_br k_169 rfl rfl rfl rfl (fun _ => ?_) (fun z => absurd ((lt4 hL hi).mpr hx) z)
      refine wp_kn k_169 rfl rfl ?_
      exact wp_irt k_169 rfl rfl rfl (K h (by omega) (by omega))
    · have hi4 : i + 4 ≤ L := by omega
      have hl : sLen σ < 600 := by omega
      have T : ∀ h' σ' t' z5 z6, GW h' x mr o b z L xs σ' σ' t' → SI σ' → RMk h h' σ σ' → sm_wp 169 771 [.ref b, .ref x, .ref mr, .ref o, .int (nI i), z5, z6] [] h' Q := by
        intro h' σ' t' z5 z6 G' S' R'
        obtain ⟨r1, r2, r3⟩ := R'
        refine wp_inc k_169 rfl rfl rfl ?_
        refine wp_br k_169 rfl rfl rfl rfl (fun _ => ?_) (fun z => absurd trivial z)
        exact ih (i + 4) h' σ' t' z5 z6 G' S' (by omega) (by omega) (by omega) (by omega) (by omega)
      refine wp_pure k_169 rfl rfl ?_
      refine wp_pure k_169 rfl rfl ?_
      refine wp_len k_169 rfl (by rw [G.2.1.1]; rfl) G.2.1.2.1 ?_
      refine wp_kn k_169 rfl rfl ?_
      refine wp_isub k_169 rfl ?_
      refine wp_br k_169 rfl rfl rfl rfl (fun z => absurd z (fun z => hx ((lt4 hL hi).mp z))) (fun _ => ?_)
      refine wp_pure k_169 rfl rfl ?_
      refine wp_pure k_169 rfl rfl ?_
      refine wp_iald k_169 rfl (cTy G.2.1.1 rfl) (nLt G.2.1.2.1 (show i < L by omega)) (nLb G.2.1.2.1 (by omega)) (G.2.1.2.2.1 i (by omega)) ?_
      refine wp_kn k_169 rfl rfl ?_
      refine wp_iand k_169 rfl ?_
      obtain ⟨w, hw, ew⟩ := and15 (xs i)
      rw [ew]
      have hc : w = 0 ∨ w = 1 ∨ w = 2 ∨ w = 3 ∨ w = 4 ∨ w = 5 ∨ w = 6 ∨ w = 7 ∨ w = 8 ∨ w = 9 ∨ w = 10 ∨ w = 11 ∨ w = 12 ∨ w = 13 ∨ w = 14 ∨ w = 15 := by omega
      rcases hc with rfl | rfl | rfl | rfl | rfl | rfl | rfl | rfl | rfl | rfl | rfl | rfl | rfl | rfl | rfl | rfl
      · refine wp_sw k_169 rfl rfl rfl rfl rfl ?_
        exact law_sign G S hl hi4 hL T
      · refine wp_sw k_169 rfl rfl rfl rfl rfl ?_
        exact law_read G S hl hi4 hL T
      · refine wp_sw k_169 rfl rfl rfl rfl rfl ?_
        exact law_place G S hl hi4 hL T
      · refine wp_sw k_169 rfl rfl rfl rfl rfl ?_
        exact law_named G S hl hi4 hL T
      · refine wp_sw k_169 rfl rfl rfl rfl rfl ?_
        exact law_check G S hl hi4 hL T
      · refine wp_sw k_169 rfl rfl rfl rfl rfl ?_
        exact law_fault G S hl hi4 hL T
      · refine wp_sw k_169 rfl rfl rfl rfl rfl ?_
        exact law_piece G S hl hi4 hL T
      · refine wp_sw k_169 rfl rfl rfl rfl rfl ?_
        exact law_inside G S hl hi4 hL T
      · refine wp_sw k_169 rfl rfl rfl rfl rfl ?_
        exact law_fill G S hl hi4 hL T
      · refine wp_sw k_169 rfl rfl rfl rfl rfl ?_
        exact law_differ G S hl hi4 hL T
      · refine wp_sw k_169 rfl rfl rfl rfl rfl ?_
        exact law_moved G S hl hi4 hL T
      · refine wp_sw k_169 rfl rfl rfl rfl rfl ?_
        exact law_print G S hl hi4 hL T
      · refine wp_sw k_169 rfl rfl rfl rfl rfl ?_
        exact law_at G S hl hi4 hL T
      · refine wp_sw k_169 rfl rfl rfl rfl rfl ?_
        exact law_count G S hl hi4 hL T
      · refine wp_sw k_169 rfl rfl rfl rfl rfl ?_
        exact T h σ t y5 y6 G S (RMk.z (by omega) (by omega) rfl rfl)
      · refine wp_sw k_169 rfl rfl rfl rfl rfl ?_
        exact T h σ t y5 y6 G S (RMk.z (by omega) (by omega) rfl rfl)
set_option maxRecDepth 8000 in
theorem law_run {Q : Nat → Option Value → sm_H → Prop} {L : Nat} {xs : Nat → Int32} {h : sm_H} {b : Nat} (hLe : L ≤ 2048) (hb1 : hC h b = 15) (hb2 : hL h b = L) (hb3 : ∀ i, i < L → hA h b i = .int (xs i)) (hz1 : hC h (hZ h) = 14) (hz2 : nI (hL h (hZ h)) = 0) (hb : b < hT h) (hz : hZ h < hT h) (K : ∀ h', hT h' ≤ hT h + 601024 → hU h' ≤ hU h + 7293034 → Q 0 (some (.int (nI 1))) h') : sm_wp 169 0 [.ref b, jk, jk, jk, jk, jk, jk] [] h Q := by
  have hbz : b ≠ hZ h := fun q => by rw [q, hz1] at hb1; cases hb1
  refine wp_new k_169 rfl rfl ?_
  show sm_wp 169 3 [.ref b, jk, jk, jk, jk, jk, jk] [.ref (hT h)] _ Q
  refine wp_pure k_169 rfl rfl ?_
  refine wp_ic k_169 rfl (by decide) [] rfl (r := [.ref (hT h)]) (Nat.le_of_ble_eq_true rfl) (Nat.le_of_ble_eq_true rfl) rfl ?_
  refine c_0 (P := fun a => a = b ∨ a = hZ h) ⟨hz1, hz2, hz⟩ (fun a ha => ha.elim (fun q => by rw [q]; exact hb) (fun q => by rw [q]; exact hz)) (Or.inr rfl) (fun h1 R1 t1 => ⟨rfl, ?_⟩)
  refine wp_pure k_169 rfl rfl ?_
  refine wp_new k_169 rfl rfl ?_
  show sm_wp 169 11 [.ref b, .ref (hT h), jk, jk, jk, jk, jk] [.ref (hT h1)] _ Q
  refine wp_pure k_169 rfl rfl ?_
  refine wp_ic k_169 rfl (by decide) [] rfl (r := [.ref (hT h1)]) (Nat.le_of_ble_eq_true rfl) (Nat.le_of_ble_eq_true rfl) rfl ?_
  have n9 := @newO_t h1 9 67 (fun g => defaultValue (xty 9 (g - 128 * 9)))
  have CI0 : CI (newO h1 9 67 (fun g => defaultValue (xty 9 (g - 128 * 9)))) (newO h1 9 67 (fun g => defaultValue (xty 9 (g - 128 * 9)))) (hT h1) 0 := ⟨n9.2.2.2.1, n9.1, rfl, fun a _ => samA.refl _ a, fun k hk ho => by
    rw [n9.2.2.2.2.1]
    have ek : 1152 + k - 128 * 9 = k := by omega
    show defaultValue (xty 9 (1152 + k - 128 * 9)) = _
    rw [ek]
    exact isz_y (mdef k hk ho), fun k hk ho hj => absurd (Nat.le_zero.mp hj) ho⟩
  generalize newO h1 9 67 (fun g => defaultValue (xty 9 (g - 128 * 9))) = g1 at *
  refine m_init CI0 (fun h2 M2 t2 u2 z2 s2 => ⟨rfl, ?_⟩)
  refine wp_pure k_169 rfl rfl ?_
  refine wp_kn k_169 rfl rfl ?_
  refine wp_newa k_169 rfl (by decide) (by decide) ?_
  show sm_wp 169 19 [.ref b, .ref (hT h), .ref (hT h1), jk, jk, jk, jk] [.ref (hT h2)] (newA h2 2 1 (.long (lN 0))) Q
  obtain ⟨n1, n2, n3, n4, n5, n6, n7⟩ := @newA_t h2 2 1 (.long (lN 0))
  generalize newA h2 2 1 (.long (lN 0)) = h3 at *
  refine wp_pure k_169 rfl rfl ?_
  refine wp_kn k_169 rfl rfl ?_
  refine wp_pure k_169 rfl rfl ?_
  obtain ⟨C1, s1, v1, v2, v3, v4, v5⟩ := R1
  have g1 := n9.1
  have g2 := n9.2.1
  have g6 := n9.2.2.2.2.2
  have q1 : ∀ a, a < hT h1 → samA h1 h2 a := fun a ha => (g6 a (by omega)).trans (s2 a (by omega))
  have q2 : ∀ a, a < hT h1 → samA h1 h3 a := fun a ha => (q1 a ha).trans (n7 a (by omega))
  have sb : samA h h3 b := (s1 b (Or.inl rfl)).trans (q2 b (by omega))
  have z3 : hZ h3 = hZ h := by rw [n3, z2, n9.2.2.1, v5]
  have nM : ∀ a, a < hT h1 → ¬ isM (hT h1) a := fun a ha q => by have := q.1; omega
  have noM : ¬ isM (hT h1) (hT h2) := fun q => by have := q.2; omega
  have M3 := M2.mv (h' := h3) (fun a ha => n7 a (by have := ha.2; omega))
  have G : GW h3 (hT h) (hT h1) (hT h2) b (hZ h) L xs s0 s0 (nI 0) := by
    refine ⟨C1.ext q2 (by rw [z3, v5]) (by omega) (fun a ha => ?_) (fun a ha => ?_) (by rw [v5]; exact Or.inr (Or.inr (Or.inl rfl))), ⟨sb.1.trans hb1, sb.2.1.trans hb2, fun i hi => (sb.2.2.2 i).trans (hb3 i hi), n4, n5, z3, nM b (by omega), noM, nM _ (by omega), by omega⟩, _, _, M3, MR_0, rfl⟩
    · rcases ha with q | q | q | q
      · exact Or.inl (Or.inl q)
      · right; omega
      · exact Or.inl (Or.inr q)
      · right; exact q.1
    · rcases ha with q | q | q | q
      · omega
      · omega
      · omega
      · have := q.2; omega
  have e8 : (sEd s0).length = 1 := rfl
  have e0 : sLen s0 = 0 := rfl
  refine law_L (T0 := hT h3) (U0 := hU h3) hLe (fun h9 w1 w2 => K h9 (by omega) (by omega)) (L + 1) 0 h3 s0 (nI 0) jk jk G SI.s0 (by rw [e0]; omega) (by omega) (by omega) (by rw [e0, e8]; omega) (by rw [e0, e8]; omega)
theorem law_done : law_ok := fun L xs h b hL hb1 hb2 hb3 hz1 hz2 _ hb hz => law_run hL hb1 hb2 hb3 hz1 hz2 hb hz (fun h' a c => ⟨rfl, rfl, a, c⟩)
