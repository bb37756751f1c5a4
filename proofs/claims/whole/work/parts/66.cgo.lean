/-! THE CLASS GOES: sets of places -/
theorem lg_0 {a b : Nat} (ha : a < 2 ^ 64) (hb : b < 2 ^ 64) : lg_cmp (lN a) (lN b) = 0 ↔ a = b := by
  have hl : lN a = lN b ↔ a = b := ⟨fun q => by
    have := congrArg (fun x : Int64 => x.toBitVec.toNat) q
    rw [wb_tn ha, wb_tn hb] at this
    exact this, fun q => by rw [q]⟩
  rw [← hl]
  exact lg_cmp_eq _ _
theorem wp_lushrN {j pc : Nat} {L r : List Value} {h : sm_H} {Q : Nat → Option Value → sm_H → Prop} {t : Nat → Option (Instr × Nat × Nat)} {ci kz k n : Nat} (hx : sm_tab j t) (hi : t pc = some (.lushr, ci, kz)) (hn : n < 2 ^ 64) (hk : k < 64) (kk : sm_wp j (pc + 1) L (.long (lN (n / 2 ^ k)) :: r) h Q) : sm_wp j pc L (.int (nI k) :: .long (lN n) :: r) h Q := by
  refine wp_pure hx hi rfl ?_
  show sm_wp j (pc + 1) L (.long (((lN n).toUInt64 >>> ((nI k).toInt64.toUInt64 &&& Int64.toUInt64 63)).toInt64) :: r) h Q
  rw [wb_shr hn hk]
  exact kk
theorem wp_lshl1 {j pc : Nat} {L r : List Value} {h : sm_H} {Q : Nat → Option Value → sm_H → Prop} {t : Nat → Option (Instr × Nat × Nat)} {ci kz k : Nat} (hx : sm_tab j t) (hi : t pc = some (.lshl, ci, kz)) (hk : k < 64) (kk : sm_wp j (pc + 1) L (.long (lN (2 ^ k)) :: r) h Q) : sm_wp j pc L (.int (nI k) :: .long (lN 1) :: r) h Q := by
  refine wp_pure hx hi rfl ?_
  show sm_wp j (pc + 1) L (.long (lN 1 <<< ((nI k).toInt64 &&& 63)) :: r) h Q
  rw [wb_shl 1 hk, Nat.one_mul]
  exact kk
theorem wp_landN {j pc : Nat} {L r : List Value} {h : sm_H} {Q : Nat → Option Value → sm_H → Prop} {t : Nat → Option (Instr × Nat × Nat)} {ci kz a b : Nat} (hx : sm_tab j t) (hi : t pc = some (.land, ci, kz)) (ha : a < 2 ^ 64) (hb : b < 2 ^ 64) (kk : sm_wp j (pc + 1) L (.long (lN (a &&& b)) :: r) h Q) : sm_wp j pc L (.long (lN b) :: .long (lN a) :: r) h Q := by
  refine wp_land hx hi ?_
  rw [wb_and ha hb]
  exact kk
theorem wp_lorN {j pc : Nat} {L r : List Value} {h : sm_H} {Q : Nat → Option Value → sm_H → Prop} {t : Nat → Option (Instr × Nat × Nat)} {ci kz a b : Nat} (hx : sm_tab j t) (hi : t pc = some (.lor, ci, kz)) (ha : a < 2 ^ 64) (hb : b < 2 ^ 64) (kk : sm_wp j (pc + 1) L (.long (lN (a ||| b)) :: r) h Q) : sm_wp j pc L (.long (lN b) :: .long (lN a) :: r) h Q := by
  refine wp_lor hx hi ?_
  rw [wb_or ha hb]
  exact kk
theorem wp_laddN {j pc : Nat} {L r : List Value} {h : sm_H} {Q : Nat → Option Value → sm_H → Prop} {t : Nat → Option (Instr × Nat × Nat)} {ci kz a b : Nat} (hx : sm_tab j t) (hi : t pc = some (.ladd, ci, kz)) (kk : sm_wp j (pc + 1) L (.long (lN (a + b)) :: r) h Q) : sm_wp j pc L (.long (lN b) :: .long (lN a) :: r) h Q := by
  refine wp_ladd hx hi ?_
  rw [lN_add]
  exact kk
theorem wp_lsubN {j pc : Nat} {L r : List Value} {h : sm_H} {Q : Nat → Option Value → sm_H → Prop} {t : Nat → Option (Instr × Nat × Nat)} {ci kz a b : Nat} (hx : sm_tab j t) (hi : t pc = some (.lsub, ci, kz)) (hb : b ≤ a) (kk : sm_wp j (pc + 1) L (.long (lN (a - b)) :: r) h Q) : sm_wp j pc L (.long (lN b) :: .long (lN a) :: r) h Q := by
  refine wp_lsub hx hi ?_
  rw [lN_sub hb]
  exact kk
theorem tb_1 {s i : Nat} : s / 2 ^ i &&& 1 = 1 ↔ s.testBit i = true := by
  rw [Nat.and_one_is_mod, Nat.testBit_eq_decide_div_mod_eq]
  simp
theorem tb_lt {s i : Nat} : s / 2 ^ i &&& 1 < 2 ^ 64 := Nat.lt_of_le_of_lt Nat.and_le_right (by decide)
/-- Long.bitCount -/
theorem x3_lt (k n : Nat) (hn : n < 2 ^ 64) : x1 8 n < 2 ^ 64 ∧ x2 8 n < 2 ^ 64 ∧ x2 8 n + x2 8 n / 2 ^ 4 < 2 ^ 64 := by
  have h1 : x1 8 n < 2 ^ 64 := by unfold x1; omega
  have r51 : rpt 51 8 = 3689348814741910323 := by decide
  have h2 : x2 8 n ≤ 3689348814741910323 + 3689348814741910323 := by
    unfold x2
    rw [r51]
    exact Nat.add_le_add Nat.and_le_right Nat.and_le_right
  exact ⟨h1, by omega, by omega⟩
theorem c_bitCount {h : sm_H} {Q : Nat → Option Value → sm_H → Prop} {n : Nat} (hn : n < 2 ^ 64) (K : Q 0 (some (.int (nI (cntP 64 (fun i => n.testBit i = true))))) h) : sm_wp 158 0 [.long (lN n), jk] [] h Q := by
  have r85 : rpt 85 8 = 6148914691236517205 := by decide
  have r51 : rpt 51 8 = 3689348814741910323 := by decide
  have r15 : rpt 15 8 = 1085102592571150095 := by decide
  obtain ⟨b1, b2, b3⟩ := x3_lt 8 n hn
  have b0 : (n / 2 ^ 1 &&& 6148914691236517205) ≤ n := by rw [← r85]; exact (bc_1 8 n).1
  have hp := bc_3 8 n
  have hpl : pbs 8 n < 2 ^ 61 := by rw [← hp]; unfold x3; rw [r15]; exact Nat.lt_of_le_of_lt Nat.and_le_right (by decide)
  refine wp_pure k_158 rfl rfl ?_
  refine wp_pure k_158 rfl rfl ?_
  refine wp_kn k_158 rfl rfl ?_
  refine wp_lushrN k_158 rfl hn (by decide) ?_
  refine wp_ldc2 k_158 rfl ?_
  refine wp_landN k_158 rfl (by omega) (by decide) ?_
  refine wp_lsubN k_158 rfl b0 ?_
  have e1 : n - (n / 2 ^ 1 &&& 6148914691236517205) = x1 8 n := by unfold x1; rw [r85]
  rw [e1]
  refine wp_pure k_158 rfl rfl ?_
  refine wp_pure k_158 rfl rfl ?_
  refine wp_ldc2 k_158 rfl ?_
  refine wp_landN k_158 rfl b1 (by decide) ?_
  refine wp_pure k_158 rfl rfl ?_
  refine wp_kn k_158 rfl rfl ?_
  refine wp_lushrN k_158 rfl b1 (by decide) ?_
  refine wp_ldc2 k_158 rfl ?_
  refine wp_landN k_158 rfl (by omega) (by decide) ?_
  refine wp_laddN k_158 rfl ?_
  have e2 : (x1 8 n &&& 3689348814741910323) + (x1 8 n / 2 ^ 2 &&& 3689348814741910323) = x2 8 n := by unfold x2; rw [r51]
  rw [e2]
  refine wp_pure k_158 rfl rfl ?_
  refine wp_pure k_158 rfl rfl ?_
  refine wp_pure k_158 rfl rfl ?_
  refine wp_kn k_158 rfl rfl ?_
  refine wp_lushrN k_158 rfl b2 (by decide) ?_
  refine wp_laddN k_158 rfl ?_
  refine wp_ldc2 k_158 rfl ?_
  refine wp_landN k_158 rfl b3 (by decide) ?_
  have e3 : (x2 8 n + x2 8 n / 2 ^ 4) &&& 1085102592571150095 = pbs 8 n := by rw [← hp]; unfold x3; rw [r15]
  rw [e3]
  refine wp_pure k_158 rfl rfl ?_
  generalize hx : pbs 8 n = x at *
  refine wp_pure k_158 rfl rfl ?_
  refine wp_pure k_158 rfl rfl ?_
  refine wp_kn k_158 rfl rfl ?_
  refine wp_lushrN k_158 rfl (by omega) (by decide) ?_
  refine wp_laddN k_158 rfl ?_
  refine wp_pure k_158 rfl rfl ?_
  generalize hy : x + x / 2 ^ 8 = y
  refine wp_pure k_158 rfl rfl ?_
  refine wp_pure k_158 rfl rfl ?_
  refine wp_kn k_158 rfl rfl ?_
  refine wp_lushrN k_158 rfl (by omega) (by decide) ?_
  refine wp_laddN k_158 rfl ?_
  refine wp_pure k_158 rfl rfl ?_
  generalize hz : y + y / 2 ^ 16 = z
  refine wp_pure k_158 rfl rfl ?_
  refine wp_pure k_158 rfl rfl ?_
  refine wp_kn k_158 rfl rfl ?_
  refine wp_lushrN k_158 rfl (by omega) (by decide) ?_
  refine wp_laddN k_158 rfl ?_
  refine wp_pure k_158 rfl rfl ?_
  generalize hw : z + z / 2 ^ 32 = w
  refine wp_pure k_158 rfl rfl ?_
  refine wp_l2i k_158 rfl ?_
  refine wp_kn k_158 rfl rfl ?_
  refine wp_iand k_158 rfl ?_
  have ew : (lN w).toInt32 &&& nI 127 = nI (w % 128) := by
    rw [lN_i]
    apply Int32.toBitVec_inj.mp
    show BitVec.ofNat 32 w &&& BitVec.ofNat 32 127 = BitVec.ofNat 32 (w % 128)
    apply BitVec.eq_of_toNat_eq
    rw [BitVec.toNat_and, BitVec.toNat_ofNat, BitVec.toNat_ofNat, BitVec.toNat_ofNat, show (127 : Nat) % 2 ^ 32 = 2 ^ 7 - 1 from rfl, Nat.and_two_pow_sub_one_eq_mod]
    omega
  rw [ew, bc_sum (n := n) (x := x) (y := y) (z := z) (w := w) hx.symm (by omega) (by omega) (by omega), ← cnt64]
  exact wp_irt k_158 rfl rfl rfl K
/-- where one can go, as the class keeps it -/
def GoR (h : sm_H) (go ed : Nat) (E : Ed) (dk rc ex : Nat) : Prop :=
  (hC h go = 19 ∧ hF h 384 go = .ref ed ∧ hF h 385 go = .long (lN dk) ∧ hF h 386 go = .long (lN rc) ∧ hF h 387 go = .long (lN ex)) ∧
  (∀ d, dk.testBit d = true ↔ dkE E d) ∧ (∀ p, rc.testBit p = true ↔ rchE E p) ∧ (∀ p, ex.testBit p = true ↔ extE E p)
theorem rch_lt {E : Ed} (hW : EdW E) {p : Nat} (h : rchE E p) : p < E.1.length := by
  obtain ⟨d, l, ⟨k, _, _, _, hd⟩, w⟩ := h
  cases l with
  | zero => have e : d = p := w; omega
  | succ l => obtain ⟨y, _, w2⟩ := wk_snoc l d p w; exact (egE_lt hW w2).2
theorem ext_lt {E : Ed} (hW : EdW E) {p : Nat} (h : extE E p) : p < E.1.length := by
  obtain ⟨d, l, ⟨k, _, _, _, hd⟩, w⟩ := h
  cases l with
  | zero => have e : p = d := w; omega
  | succ l => obtain ⟨x, w1, _⟩ := w; exact (egE_lt hW w1).1
theorem BtW.bd {E : Ed} {bt : Nat → Nat → Nat} (B : BtW E bt) (hW : EdW E) (hn : E.1.length ≤ 60) : (∀ x y, (bt 0 x).testBit y = true ↔ onB E x y) ∧ (∀ x y, (bt 1 x).testBit y = true ↔ onB E y x) ∧ (∀ x y, (bt 2 x).testBit y = true ↔ (x, y) ∈ E.2.2) ∧ (∀ i, bt 0 i < 2 ^ 60) ∧ (∀ i, bt 1 i < 2 ^ 60) ∧ ∀ i, bt 2 i < 2 ^ 60 := by
  obtain ⟨g1, g2, g3⟩ := B.2 (by omega)
  refine ⟨g1, g2, g3, fun i => lt_pow (fun y q => ?_), fun i => lt_pow (fun y q => ?_), fun i => lt_pow (fun y q => ?_)⟩
  · have := (onB_lt hW ((g1 i y).mp q)).2; omega
  · have := (onB_lt hW ((g2 i y).mp q)).1; omega
  · have := hW.2.2.2 _ _ ((g3 i y).mp q); omega
theorem GoR.bd {h : sm_H} {go ed : Nat} {E : Ed} {dk rc ex : Nat} (G : GoR h go ed E dk rc ex) (hW : EdW E) (hn : E.1.length ≤ 60) : rc < 2 ^ 60 ∧ ex < 2 ^ 60 ∧ dk < 2 ^ 60 := by
  obtain ⟨_, g3, g4, g5⟩ := G
  refine ⟨lt_pow (fun y q => ?_), lt_pow (fun y q => ?_), lt_pow (fun y q => ?_)⟩
  · have := rch_lt hW ((g4 y).mp q); omega
  · have := ext_lt hW ((g5 y).mp q); omega
  · obtain ⟨k, _, _, _, z⟩ := (g3 y).mp q; omega
theorem and_lt {a b n : Nat} (h : b < 2 ^ n) : a &&& b < 2 ^ n := Nat.lt_of_le_of_lt Nat.and_le_right h
theorem c_widen {h : sm_H} {Q : Nat → Option Value → sm_H → Prop} {ed lp ep : Nat} {pa : Nat → Nat} {bt : Nat → Nat → Nat} {E : Ed} {un : Nat → Int32} (X : EdF h ed lp ep pa bt E un) {go s b : Nat} (h1 : hC h go = 19) (h2 : hF h 384 go = .ref ed) (hn : E.1.length ≤ 60) (hb : b = 0 ∨ b = 1) (hs : s < 2 ^ 60) (ht : ∀ i, bt b i < 2 ^ 60) (K : Q 0 (some (.long (lN (wdN (bt b) s E.1.length)))) h) : sm_wp 34 0 [.ref go, .long (lN s), jk, .int (nI b), jk, jk, jk, jk] [] h Q := by
  obtain ⟨⟨e0, e1, e2, e3⟩, l1, hP, hBt⟩ := id X
  have n1 := l1.2.2.2.2.1
  rcases hb with rfl | rfl
  · skip
    refine wp_pure k_34 rfl rfl ?_
    refine wp_pure k_34 rfl rfl ?_
    refine wp_kn k_34 rfl rfl ?_
    refine wp_pure k_34 rfl rfl ?_
    refine dn (n := E.1.length) (P := fun i => ∀ (x7 : Value), sm_wp 34 6 [.ref go, .long (lN s), jk, .int (nI 0), .long (lN (wdN (bt 0) s i)), jk, .int (nI i), x7] [] h Q) ?_ ?_ 0 (Nat.zero_le _) (jk)
    · intro x7
      
      refine wp_pure k_34 rfl rfl ?_
      refine wp_pure k_34 rfl rfl ?_
      refine wp_get k_34 rfl h1 h2 ?_
      refine wp_get k_34 rfl e0 e1 ?_
      refine wp_iv k_34 rfl [] rfl l1.1 (r := [.int (nI (E.1.length))]) (Nat.le_of_ble_eq_true rfl) (Nat.le_of_ble_eq_true rfl) rfl ?_
      refine c_size l1 ⟨rfl, ?_⟩
      refine wp_br k_34 rfl rfl rfl rfl (fun _ => ?_) (fun z => absurd (Int32.le_refl _) z)
      refine wp_pure k_34 rfl rfl ?_
      exact wp_rt k_34 rfl rfl rfl rfl rfl rfl rfl K
    · intro i hi ih x7
      have w6 := wdN_lt hs ht i
      have p6 : 2 ^ i < 2 ^ 60 := pow_lt (by omega)
      have a6 : s &&& 2 ^ i < 2 ^ 60 := and_lt p6
      refine wp_pure k_34 rfl rfl ?_
      refine wp_pure k_34 rfl rfl ?_
      refine wp_get k_34 rfl h1 h2 ?_
      refine wp_get k_34 rfl e0 e1 ?_
      refine wp_iv k_34 rfl [] rfl l1.1 (r := [.int (nI i)]) (Nat.le_of_ble_eq_true rfl) (Nat.le_of_ble_eq_true rfl) rfl ?_
      refine c_size l1 ⟨rfl, ?_⟩
      refine wp_br k_34 rfl rfl rfl rfl (fun z => absurd z (nI_ge hi (by omega))) (fun _ => ?_)
      refine wp_pure k_34 rfl rfl ?_
      refine wp_get k_34 rfl h1 h2 ?_
      refine wp_get k_34 rfl e0 e1 ?_
      refine wp_pure k_34 rfl rfl ?_
      refine wp_iv k_34 rfl [.int (nI i)] rfl l1.1 (r := []) (Nat.le_of_ble_eq_true rfl) (Nat.le_of_ble_eq_true rfl) rfl ?_
      refine c_get l1 (by omega) ⟨rfl, ?_⟩
      refine wp_cc k_34 rfl (hP i (by omega)).1 ?_
      refine wp_pure k_34 rfl rfl ?_
      refine wp_pure k_34 rfl rfl ?_
      refine wp_pure k_34 rfl rfl ?_
      refine wp_iv k_34 rfl [] rfl (hP i (by omega)).1 (r := [.long (lN s)]) (Nat.le_of_ble_eq_true rfl) (Nat.le_of_ble_eq_true rfl) rfl ?_
      refine c_bit2 (hP i (by omega)).1 (hP i (by omega)).2.2.2.2.2.2.1 (by omega) ⟨rfl, ?_⟩
      refine wp_landN k_34 rfl (by omega) (by omega) ?_
      refine wp_pure k_34 rfl rfl ?_
      refine wp_lcmp k_34 rfl ?_
      refine wp_br k_34 rfl rfl rfl rfl (fun (z47 : lg_cmp (lN (s &&& (2 ^ i))) (lN 0) = 0) => ?_) (fun (z47 : ¬ (lg_cmp (lN (s &&& (2 ^ i))) (lN 0) = 0)) => ?_)
      · refine wp_inc k_34 rfl rfl rfl ?_
        refine wp_br k_34 rfl rfl rfl rfl (fun _ => ?_) (fun z => absurd trivial z)
        rw [show wdN (bt 0) s (i + 1) = wdN (bt 0) s i from if_neg (tb_and.mp ((lg_0 (by omega) (by decide)).mp z47))] at ih
        exact ih (.ref (pa i))
      · refine wp_pure k_34 rfl rfl ?_
        refine wp_pure k_34 rfl rfl ?_
        refine wp_br k_34 rfl rfl rfl rfl (fun _ => ?_) (fun z => absurd (show (nI 0 : Int32) = 0 by decide) z)
        refine wp_pure k_34 rfl rfl ?_
        refine wp_get k_34 rfl (hP i (by omega)).1 (hP i (by omega)).2.2.2.2.2.2.2.1 ?_
        refine wp_lorN k_34 rfl (by omega) (by have := ht i; omega) ?_
        refine wp_pure k_34 rfl rfl ?_
        refine wp_inc k_34 rfl rfl rfl ?_
        refine wp_br k_34 rfl rfl rfl rfl (fun _ => ?_) (fun z => absurd trivial z)
        rw [show wdN (bt 0) s (i + 1) = wdN (bt 0) s i ||| bt 0 i from if_pos (Classical.not_not.mp (fun q => z47 ((lg_0 (by omega) (by decide)).mpr (tb_and.mpr q))))] at ih
        exact ih (.ref (pa i))
  · skip
    refine wp_pure k_34 rfl rfl ?_
    refine wp_pure k_34 rfl rfl ?_
    refine wp_kn k_34 rfl rfl ?_
    refine wp_pure k_34 rfl rfl ?_
    refine dn (n := E.1.length) (P := fun i => ∀ (x7 : Value), sm_wp 34 6 [.ref go, .long (lN s), jk, .int (nI 1), .long (lN (wdN (bt 1) s i)), jk, .int (nI i), x7] [] h Q) ?_ ?_ 0 (Nat.zero_le _) (jk)
    · intro x7
      
      refine wp_pure k_34 rfl rfl ?_
      refine wp_pure k_34 rfl rfl ?_
      refine wp_get k_34 rfl h1 h2 ?_
      refine wp_get k_34 rfl e0 e1 ?_
      refine wp_iv k_34 rfl [] rfl l1.1 (r := [.int (nI (E.1.length))]) (Nat.le_of_ble_eq_true rfl) (Nat.le_of_ble_eq_true rfl) rfl ?_
      refine c_size l1 ⟨rfl, ?_⟩
      refine wp_br k_34 rfl rfl rfl rfl (fun _ => ?_) (fun z => absurd (Int32.le_refl _) z)
      refine wp_pure k_34 rfl rfl ?_
      exact wp_rt k_34 rfl rfl rfl rfl rfl rfl rfl K
    · intro i hi ih x7
      have w6 := wdN_lt hs ht i
      have p6 : 2 ^ i < 2 ^ 60 := pow_lt (by omega)
      have a6 : s &&& 2 ^ i < 2 ^ 60 := and_lt p6
      refine wp_pure k_34 rfl rfl ?_
      refine wp_pure k_34 rfl rfl ?_
      refine wp_get k_34 rfl h1 h2 ?_
      refine wp_get k_34 rfl e0 e1 ?_
      refine wp_iv k_34 rfl [] rfl l1.1 (r := [.int (nI i)]) (Nat.le_of_ble_eq_true rfl) (Nat.le_of_ble_eq_true rfl) rfl ?_
      refine c_size l1 ⟨rfl, ?_⟩
      refine wp_br k_34 rfl rfl rfl rfl (fun z => absurd z (nI_ge hi (by omega))) (fun _ => ?_)
      refine wp_pure k_34 rfl rfl ?_
      refine wp_get k_34 rfl h1 h2 ?_
      refine wp_get k_34 rfl e0 e1 ?_
      refine wp_pure k_34 rfl rfl ?_
      refine wp_iv k_34 rfl [.int (nI i)] rfl l1.1 (r := []) (Nat.le_of_ble_eq_true rfl) (Nat.le_of_ble_eq_true rfl) rfl ?_
      refine c_get l1 (by omega) ⟨rfl, ?_⟩
      refine wp_cc k_34 rfl (hP i (by omega)).1 ?_
      refine wp_pure k_34 rfl rfl ?_
      refine wp_pure k_34 rfl rfl ?_
      refine wp_pure k_34 rfl rfl ?_
      refine wp_iv k_34 rfl [] rfl (hP i (by omega)).1 (r := [.long (lN s)]) (Nat.le_of_ble_eq_true rfl) (Nat.le_of_ble_eq_true rfl) rfl ?_
      refine c_bit2 (hP i (by omega)).1 (hP i (by omega)).2.2.2.2.2.2.1 (by omega) ⟨rfl, ?_⟩
      refine wp_landN k_34 rfl (by omega) (by omega) ?_
      refine wp_pure k_34 rfl rfl ?_
      refine wp_lcmp k_34 rfl ?_
      refine wp_br k_34 rfl rfl rfl rfl (fun (z47 : lg_cmp (lN (s &&& (2 ^ i))) (lN 0) = 0) => ?_) (fun (z47 : ¬ (lg_cmp (lN (s &&& (2 ^ i))) (lN 0) = 0)) => ?_)
      · refine wp_inc k_34 rfl rfl rfl ?_
        refine wp_br k_34 rfl rfl rfl rfl (fun _ => ?_) (fun z => absurd trivial z)
        rw [show wdN (bt 1) s (i + 1) = wdN (bt 1) s i from if_neg (tb_and.mp ((lg_0 (by omega) (by decide)).mp z47))] at ih
        exact ih (.ref (pa i))
      · refine wp_pure k_34 rfl rfl ?_
        refine wp_pure k_34 rfl rfl ?_
        refine wp_br k_34 rfl rfl rfl rfl (fun z => absurd z (show ¬ ((nI 1 : Int32) = 0) by decide)) (fun _ => ?_)
        refine wp_pure k_34 rfl rfl ?_
        refine wp_get k_34 rfl (hP i (by omega)).1 (hP i (by omega)).2.2.2.2.2.2.2.2.1 ?_
        refine wp_br k_34 rfl rfl rfl rfl (fun _ => ?_) (fun z => absurd trivial z)
        refine wp_lorN k_34 rfl (by omega) (by have := ht i; omega) ?_
        refine wp_pure k_34 rfl rfl ?_
        refine wp_inc k_34 rfl rfl rfl ?_
        refine wp_br k_34 rfl rfl rfl rfl (fun _ => ?_) (fun z => absurd trivial z)
        rw [show wdN (bt 1) s (i + 1) = wdN (bt 1) s i ||| bt 1 i from if_pos (Classical.not_not.mp (fun q => z47 ((lg_0 (by omega) (by decide)).mpr (tb_and.mpr q))))] at ih
        exact ih (.ref (pa i))
theorem c_spread {h : sm_H} {Q : Nat → Option Value → sm_H → Prop} {ed lp ep : Nat} {pa : Nat → Nat} {bt : Nat → Nat → Nat} {E : Ed} {un : Nat → Int32} (X : EdF h ed lp ep pa bt E un) {go s b : Nat} (h1 : hC h go = 19) (h2 : hF h 384 go = .ref ed) (hn : E.1.length ≤ 60) (hb : b = 0 ∨ b = 1) (hs : s < 2 ^ 60) (ht : ∀ i, bt b i < 2 ^ 60) (K : ∀ k, (k = 60 ∨ wdN (bt b) (blN (bt b) E.1.length s k) E.1.length = blN (bt b) E.1.length s k) → Q 0 (some (.long (lN (blN (bt b) E.1.length s k)))) h) : sm_wp 33 0 [.ref go, .long (lN s), jk, .int (nI b), jk, jk, jk, jk, jk] [] h Q := by
  obtain ⟨⟨e0, e1, e2, e3⟩, l1, hP, hBt⟩ := id X
  have n1 := l1.2.2.2.2.1
  refine wp_pure k_33 rfl rfl ?_
  refine wp_pure k_33 rfl rfl ?_
  refine wp_kn k_33 rfl rfl ?_
  refine wp_pure k_33 rfl rfl ?_
  refine dn (n := 60) (P := fun i => ∀ (x7 : Value), ∀ (x8 : Value), sm_wp 33 6 [.ref go, .long (lN s), jk, .int (nI b), .long (lN (blN (bt b) E.1.length s i)), jk, .int (nI i), x7, x8] [] h Q) ?_ ?_ 0 (Nat.zero_le _) (jk) (jk)
  · intro x7 x8
    
    refine wp_pure k_33 rfl rfl ?_
    refine wp_kn k_33 rfl rfl ?_
    refine wp_br k_33 rfl rfl rfl rfl (fun _ => ?_) (fun z => absurd (Int32.le_refl _) z)
    refine wp_pure k_33 rfl rfl ?_
    exact wp_rt k_33 rfl rfl rfl rfl rfl rfl rfl (K 60 (Or.inl rfl))
  · intro i hi ih x7 x8
    have b1 := blN_lt (n := E.1.length) hs ht i
    have b2 := blN_lt (n := E.1.length) hs ht (i + 1)
    have b3 : wdN (bt b) (blN (bt b) E.1.length s i) E.1.length < 2 ^ 60 := b2
    refine wp_pure k_33 rfl rfl ?_
    refine wp_kn k_33 rfl rfl ?_
    refine wp_br k_33 rfl rfl rfl rfl (fun z => absurd z (nI_ge hi (by omega))) (fun _ => ?_)
    refine wp_pure k_33 rfl rfl ?_
    refine wp_pure k_33 rfl rfl ?_
    refine wp_pure k_33 rfl rfl ?_
    refine wp_iv k_33 rfl [.long (lN (blN (bt b) E.1.length s i)), .int (nI b)] rfl h1 (r := []) (Nat.le_of_ble_eq_true rfl) (Nat.le_of_ble_eq_true rfl) rfl ?_
    refine c_widen X h1 h2 hn hb (blN_lt hs ht i) ht ⟨rfl, ?_⟩
    refine wp_pure k_33 rfl rfl ?_
    refine wp_pure k_33 rfl rfl ?_
    refine wp_pure k_33 rfl rfl ?_
    refine wp_lcmp k_33 rfl ?_
    refine wp_br k_33 rfl rfl rfl rfl (fun (z27 : ¬ lg_cmp (lN (wdN (bt b) (blN (bt b) E.1.length s i) E.1.length)) (lN (blN (bt b) E.1.length s i)) = 0) => ?_) (fun (z27 : ¬ (¬ lg_cmp (lN (wdN (bt b) (blN (bt b) E.1.length s i) E.1.length)) (lN (blN (bt b) E.1.length s i)) = 0)) => ?_)
    · refine wp_pure k_33 rfl rfl ?_
      refine wp_pure k_33 rfl rfl ?_
      refine wp_inc k_33 rfl rfl rfl ?_
      refine wp_br k_33 rfl rfl rfl rfl (fun _ => ?_) (fun z => absurd trivial z)
      exact ih (.long (lN (wdN (bt b) (blN (bt b) E.1.length s i) E.1.length))) (jk)
    · refine wp_br k_33 rfl rfl rfl rfl (fun _ => ?_) (fun z => absurd trivial z)
      refine wp_pure k_33 rfl rfl ?_
      exact wp_rt k_33 rfl rfl rfl rfl rfl rfl rfl (K i (Or.inr ((lg_0 (by omega) (by omega)).mp (Classical.not_not.mp z27))))
theorem c_isReached {h : sm_H} {Q : Nat → Option Value → sm_H → Prop} {ed lp ep : Nat} {pa : Nat → Nat} {bt : Nat → Nat → Nat} {E : Ed} {un : Nat → Int32} (X : EdF h ed lp ep pa bt E un) {go dk rc ex : Nat} (G : GoR h go ed E dk rc ex) (hW : EdW E) (hn : E.1.length ≤ 60) {p : Nat} (hp : p < E.1.length) (K1 : rchE E p → Q 0 (some (.int (nI 1))) h) (K0 : ¬ rchE E p → Q 0 (some (.int (nI 0))) h) : sm_wp 35 0 [.ref go, .ref (pa p)] [] h Q := by
  obtain ⟨⟨e0, e1, e2, e3⟩, l1, hP, hBt⟩ := id X
  have n1 := l1.2.2.2.2.1
  obtain ⟨b1, b2, b3⟩ := GoR.bd G hW hn
  obtain ⟨g1, g2, gv, b4, b5, b6⟩ := BtW.bd hBt hW hn
  obtain ⟨⟨c0, c1, c2, c3, c4⟩, g3, g4, g5⟩ := G
  have hp2 : 2 ^ p < 2 ^ 60 := pow_lt (by omega)
  have a6 : rc &&& 2 ^ p < 2 ^ 60 := and_lt hp2
  refine wp_pure k_35 rfl rfl ?_
  refine wp_get k_35 rfl c0 c3 ?_
  refine wp_pure k_35 rfl rfl ?_
  refine wp_iv k_35 rfl [] rfl (hP p (by omega)).1 (r := [.long (lN rc)]) (Nat.le_of_ble_eq_true rfl) (Nat.le_of_ble_eq_true rfl) rfl ?_
  refine c_bit2 (hP p (by omega)).1 (hP p (by omega)).2.2.2.2.2.2.1 (by omega) ⟨rfl, ?_⟩
  refine wp_landN k_35 rfl (by omega) (by omega) ?_
  refine wp_pure k_35 rfl rfl ?_
  refine wp_lcmp k_35 rfl ?_
  refine wp_br k_35 rfl rfl rfl rfl (fun (z11 : lg_cmp (lN (rc &&& (2 ^ p))) (lN 0) = 0) => ?_) (fun (z11 : ¬ (lg_cmp (lN (rc &&& (2 ^ p))) (lN 0) = 0)) => ?_)
  · refine wp_kn k_35 rfl rfl ?_
    exact wp_irt k_35 rfl rfl rfl (K0 (fun q => tb_and.mp ((lg_0 (by omega) (by decide)).mp z11) ((g4 p).mpr q)))
  · refine wp_kn k_35 rfl rfl ?_
    refine wp_br k_35 rfl rfl rfl rfl (fun _ => ?_) (fun z => absurd trivial z)
    exact wp_irt k_35 rfl rfl rfl (K1 ((g4 p).mp (Classical.not_not.mp (fun q => z11 ((lg_0 (by omega) (by decide)).mpr (tb_and.mpr q))))))
theorem c_isExiting {h : sm_H} {Q : Nat → Option Value → sm_H → Prop} {ed lp ep : Nat} {pa : Nat → Nat} {bt : Nat → Nat → Nat} {E : Ed} {un : Nat → Int32} (X : EdF h ed lp ep pa bt E un) {go dk rc ex : Nat} (G : GoR h go ed E dk rc ex) (hW : EdW E) (hn : E.1.length ≤ 60) {p : Nat} (hp : p < E.1.length) (K1 : extE E p → Q 0 (some (.int (nI 1))) h) (K0 : ¬ extE E p → Q 0 (some (.int (nI 0))) h) : sm_wp 36 0 [.ref go, .ref (pa p)] [] h Q := by
  obtain ⟨⟨e0, e1, e2, e3⟩, l1, hP, hBt⟩ := id X
  have n1 := l1.2.2.2.2.1
  obtain ⟨b1, b2, b3⟩ := GoR.bd G hW hn
  obtain ⟨g1, g2, gv, b4, b5, b6⟩ := BtW.bd hBt hW hn
  obtain ⟨⟨c0, c1, c2, c3, c4⟩, g3, g4, g5⟩ := G
  have hp2 : 2 ^ p < 2 ^ 60 := pow_lt (by omega)
  have a6 : ex &&& 2 ^ p < 2 ^ 60 := and_lt hp2
  refine wp_pure k_36 rfl rfl ?_
  refine wp_get k_36 rfl c0 c4 ?_
  refine wp_pure k_36 rfl rfl ?_
  refine wp_iv k_36 rfl [] rfl (hP p (by omega)).1 (r := [.long (lN ex)]) (Nat.le_of_ble_eq_true rfl) (Nat.le_of_ble_eq_true rfl) rfl ?_
  refine c_bit2 (hP p (by omega)).1 (hP p (by omega)).2.2.2.2.2.2.1 (by omega) ⟨rfl, ?_⟩
  refine wp_landN k_36 rfl (by omega) (by omega) ?_
  refine wp_pure k_36 rfl rfl ?_
  refine wp_lcmp k_36 rfl ?_
  refine wp_br k_36 rfl rfl rfl rfl (fun (z11 : lg_cmp (lN (ex &&& (2 ^ p))) (lN 0) = 0) => ?_) (fun (z11 : ¬ (lg_cmp (lN (ex &&& (2 ^ p))) (lN 0) = 0)) => ?_)
  · refine wp_kn k_36 rfl rfl ?_
    exact wp_irt k_36 rfl rfl rfl (K0 (fun q => tb_and.mp ((lg_0 (by omega) (by decide)).mp z11) ((g5 p).mpr q)))
  · refine wp_kn k_36 rfl rfl ?_
    refine wp_br k_36 rfl rfl rfl rfl (fun _ => ?_) (fun z => absurd trivial z)
    exact wp_irt k_36 rfl rfl rfl (K1 ((g5 p).mp (Classical.not_not.mp (fun q => z11 ((lg_0 (by omega) (by decide)).mpr (tb_and.mpr q))))))
theorem c_isServed {h : sm_H} {Q : Nat → Option Value → sm_H → Prop} {ed lp ep : Nat} {pa : Nat → Nat} {bt : Nat → Nat → Nat} {E : Ed} {un : Nat → Int32} (X : EdF h ed lp ep pa bt E un) {go dk rc ex : Nat} (G : GoR h go ed E dk rc ex) (hW : EdW E) (hn : E.1.length ≤ 60) {p : Nat} (hp : p < E.1.length) (K1 : srvE E p → Q 0 (some (.int (nI 1))) h) (K0 : ¬ srvE E p → Q 0 (some (.int (nI 0))) h) : sm_wp 29 0 [.ref go, .ref (pa p)] [] h Q := by
  obtain ⟨⟨e0, e1, e2, e3⟩, l1, hP, hBt⟩ := id X
  have n1 := l1.2.2.2.2.1
  obtain ⟨b1, b2, b3⟩ := GoR.bd G hW hn
  obtain ⟨g1, g2, gv, b4, b5, b6⟩ := BtW.bd hBt hW hn
  obtain ⟨⟨c0, c1, c2, c3, c4⟩, g3, g4, g5⟩ := G
  have a6 : rc &&& bt 2 p < 2 ^ 60 := and_lt (b6 p)
  have hsv : rc &&& bt 2 p = 0 ↔ ¬ srvE E p := by
    rw [and_0]
    constructor
    · rintro q ⟨k, k1, k2, k3⟩
      exact q (vB E.2.2 k) ⟨(g4 _).mpr k3, (gv _ _).mpr (by rw [← k2]; exact v_mem k1)⟩
    · rintro q y ⟨y1, y2⟩
      obtain ⟨k, k1, k2, k3⟩ := v_ex ((gv _ _).mp y2)
      exact q ⟨k, k1, k2, by rw [k3]; exact (g4 _).mp y1⟩
  have b6p := b6 p
  refine wp_pure k_29 rfl rfl ?_
  refine wp_get k_29 rfl c0 c3 ?_
  refine wp_pure k_29 rfl rfl ?_
  refine wp_get k_29 rfl (hP p (by omega)).1 (hP p (by omega)).2.2.2.2.2.2.2.2.2.1 ?_
  refine wp_landN k_29 rfl (by omega) (by omega) ?_
  refine wp_pure k_29 rfl rfl ?_
  refine wp_lcmp k_29 rfl ?_
  refine wp_br k_29 rfl rfl rfl rfl (fun (z11 : lg_cmp (lN (rc &&& (bt 2 p))) (lN 0) = 0) => ?_) (fun (z11 : ¬ (lg_cmp (lN (rc &&& (bt 2 p))) (lN 0) = 0)) => ?_)
  · refine wp_kn k_29 rfl rfl ?_
    exact wp_irt k_29 rfl rfl rfl (K0 (hsv.mp ((lg_0 (by omega) (by decide)).mp z11)))
  · refine wp_kn k_29 rfl rfl ?_
    refine wp_br k_29 rfl rfl rfl rfl (fun _ => ?_) (fun z => absurd trivial z)
    exact wp_irt k_29 rfl rfl rfl (K1 (Classical.not_not.mp (fun q => z11 ((lg_0 (by omega) (by decide)).mpr (hsv.mpr q)))))
theorem c_countOnward {h : sm_H} {Q : Nat → Option Value → sm_H → Prop} {ed lp ep : Nat} {pa : Nat → Nat} {bt : Nat → Nat → Nat} {E : Ed} {un : Nat → Int32} (X : EdF h ed lp ep pa bt E un) {go dk rc ex : Nat} (G : GoR h go ed E dk rc ex) (hW : EdW E) (hn : E.1.length ≤ 60) {p : Nat} (hp : p < E.1.length) (K : Q 0 (some (.int (nI (onwE E p)))) h) : sm_wp 37 0 [.ref go, .ref (pa p)] [] h Q := by
  obtain ⟨⟨e0, e1, e2, e3⟩, l1, hP, hBt⟩ := id X
  have n1 := l1.2.2.2.2.1
  obtain ⟨b1, b2, b3⟩ := GoR.bd G hW hn
  obtain ⟨g1, g2, gv, b4, b5, b6⟩ := BtW.bd hBt hW hn
  obtain ⟨⟨c0, c1, c2, c3, c4⟩, g3, g4, g5⟩ := G
  have hp2 : 2 ^ p < 2 ^ 60 := pow_lt (by omega)
  refine wp_pure k_37 rfl rfl ?_
  refine wp_pure k_37 rfl rfl ?_
  refine wp_iv k_37 rfl [] rfl (hP p (by omega)).1 (r := [.ref go]) (Nat.le_of_ble_eq_true rfl) (Nat.le_of_ble_eq_true rfl) rfl ?_
  refine c_bit2 (hP p (by omega)).1 (hP p (by omega)).2.2.2.2.2.2.1 (by omega) ⟨rfl, ?_⟩
  refine wp_kn k_37 rfl rfl ?_
  refine wp_iv k_37 rfl [.long (lN (2 ^ p)), .int (nI 0)] rfl c0 (r := []) (Nat.le_of_ble_eq_true rfl) (Nat.le_of_ble_eq_true rfl) rfl ?_
  refine c_spread X c0 c1 hn (Or.inl rfl) hp2 b4 (fun k hk => ⟨rfl, ?_⟩)
  have bb := blN_lt (n := E.1.length) hp2 b4 k
  refine wp_is k_37 rfl (by decide) [.long (lN (blN (bt 0) E.1.length (2 ^ p) k))] rfl (r := []) (Nat.le_of_ble_eq_true rfl) (Nat.le_of_ble_eq_true rfl) rfl ?_
  refine c_bitCount (by omega) ?_
  rw [onw_bits hW hn hp g1 hk]
  refine ⟨rfl, ?_⟩
  refine wp_kn k_37 rfl rfl ?_
  refine wp_subN k_37 rfl (by omega) ?_
  exact wp_irt k_37 rfl rfl rfl K
theorem c_stepsToDock {h : sm_H} {Q : Nat → Option Value → sm_H → Prop} {ed lp ep : Nat} {pa : Nat → Nat} {bt : Nat → Nat → Nat} {E : Ed} {un : Nat → Int32} (X : EdF h ed lp ep pa bt E un) {go dk rc ex : Nat} (G : GoR h go ed E dk rc ex) (hW : EdW E) (hn : E.1.length ≤ 60) {p : Nat} (hp : p < E.1.length) (K : Q 0 (some (.int (stdE E p))) h) : sm_wp 38 0 [.ref go, .ref (pa p), jk, jk, jk] [] h Q := by
  obtain ⟨⟨e0, e1, e2, e3⟩, l1, hP, hBt⟩ := id X
  have n1 := l1.2.2.2.2.1
  obtain ⟨b1, b2, b3⟩ := GoR.bd G hW hn
  obtain ⟨g1, g2, gv, b4, b5, b6⟩ := BtW.bd hBt hW hn
  obtain ⟨⟨c0, c1, c2, c3, c4⟩, g3, g4, g5⟩ := G
  have hp2 : 2 ^ p < 2 ^ 60 := pow_lt (by omega)
  obtain ⟨sd1, sd2⟩ := std_bits hW hn hp g1 g3
  refine wp_pure k_38 rfl rfl ?_
  refine wp_iv k_38 rfl [] rfl (hP p (by omega)).1 (r := []) (Nat.le_of_ble_eq_true rfl) (Nat.le_of_ble_eq_true rfl) rfl ?_
  refine c_bit2 (hP p (by omega)).1 (hP p (by omega)).2.2.2.2.2.2.1 (by omega) ⟨rfl, ?_⟩
  refine wp_pure k_38 rfl rfl ?_
  refine wp_kn k_38 rfl rfl ?_
  refine wp_pure k_38 rfl rfl ?_
  refine dn (n := 60) (P := fun i => (∀ j, j < i → blN (bt 0) E.1.length (2 ^ p) j &&& dk = 0) → sm_wp 38 8 [.ref go, .ref (pa p), .long (lN (blN (bt 0) E.1.length (2 ^ p) i)), jk, .int (nI i)] [] h Q) ?_ ?_ 0 (Nat.zero_le _) (fun j hj => absurd hj (Nat.not_lt_zero j))
  · intro hI
    
    refine wp_pure k_38 rfl rfl ?_
    refine wp_kn k_38 rfl rfl ?_
    refine wp_br k_38 rfl rfl rfl rfl (fun _ => ?_) (fun z => absurd (Int32.le_refl _) z)
    refine wp_km k_38 rfl rfl ?_
    rw [sd2 hI] at K
    exact wp_irt k_38 rfl rfl rfl K
  · intro i hi ih hI
    have bb := blN_lt (n := E.1.length) hp2 b4 i
    have ba : blN (bt 0) E.1.length (2 ^ p) i &&& dk < 2 ^ 64 := Nat.lt_of_le_of_lt Nat.and_le_right (by omega)
    refine wp_pure k_38 rfl rfl ?_
    refine wp_kn k_38 rfl rfl ?_
    refine wp_br k_38 rfl rfl rfl rfl (fun z => absurd z (nI_ge hi (by omega))) (fun _ => ?_)
    refine wp_pure k_38 rfl rfl ?_
    refine wp_pure k_38 rfl rfl ?_
    refine wp_get k_38 rfl c0 c2 ?_
    refine wp_landN k_38 rfl (by omega) (by omega) ?_
    refine wp_pure k_38 rfl rfl ?_
    refine wp_lcmp k_38 rfl ?_
    refine wp_br k_38 rfl rfl rfl rfl (fun (z23 : lg_cmp (lN ((blN (bt 0) E.1.length (2 ^ p) i) &&& dk)) (lN 0) = 0) => ?_) (fun (z23 : ¬ (lg_cmp (lN ((blN (bt 0) E.1.length (2 ^ p) i) &&& dk)) (lN 0) = 0)) => ?_)
    · refine wp_pure k_38 rfl rfl ?_
      refine wp_pure k_38 rfl rfl ?_
      refine wp_kn k_38 rfl rfl ?_
      refine wp_iv k_38 rfl [.long (lN (blN (bt 0) E.1.length (2 ^ p) i)), .int (nI 0)] rfl c0 (r := []) (Nat.le_of_ble_eq_true rfl) (Nat.le_of_ble_eq_true rfl) rfl ?_
      refine c_widen X c0 c1 hn (Or.inl rfl) bb b4 ⟨rfl, ?_⟩
      refine wp_pure k_38 rfl rfl ?_
      refine wp_inc k_38 rfl rfl rfl ?_
      refine wp_br k_38 rfl rfl rfl rfl (fun _ => ?_) (fun z => absurd trivial z)
      exact ih (fun j hj => by
        by_cases q : j = i
        · rw [q]; exact (lg_0 ba (by decide)).mp z23
        · exact hI j (by omega))
    · refine wp_pure k_38 rfl rfl ?_
      rw [sd1 i hi hI (fun q => z23 ((lg_0 ba (by decide)).mpr q))] at K
      exact wp_irt k_38 rfl rfl rfl K
