/-! THE CLASS's read -/
/-- after a call: the object in its new state, what it may not touch untouched, what it has made -/
def RdO (h h' : sm_H) (x : Nat) (σ : Sg) (P : Nat → Prop) (a b : Nat) : Prop := CR h' x σ P ∧ (∀ c, P c → samA h h' c) ∧ hT h ≤ hT h' ∧ hT h' ≤ hT h + a ∧ hU h ≤ hU h' ∧ hU h' ≤ hU h + b ∧ hZ h' = hZ h
theorem rd_add {a b c n m k : Nat} (h1 : b ≤ a + n) (h2 : c ≤ b + m) (h3 : n + m ≤ k) : c ≤ a + k := by omega
theorem rd_RS {h h1 h2 : sm_H} {sg len : Nat} {tx : Nat → Int32} {pa fn : Nat → Nat} {bt : Nat → Nat → Nat} (hl : len ≤ 600) (cs : cS h sg len tx) (hsg : sg < hT h) (zz : hC h (hZ h) = 14 ∧ hZ h < hT h) (t1 : hT h1 = hT h + 2) (u1 : hU h1 = hU h + 6) (z1 : hZ h1 = hZ h) (s1 : ∀ a, a < hT h → samA h h1 a) (X1 : EdF h1 (hT h) (hT h + 1) (hZ h1) pa bt ([], [], []) (fun _ => nI 0)) (t2 : hT h2 = hT h1 + 2) (u2 : hU h2 = hU h1 + 9) (z2 : hZ h2 = hZ h1) (s2 : ∀ a, a < hT h1 → samA h1 h2 a) (rf : hC h2 (hT h1) = 24 ∧ hF h2 1024 (hT h1) = .ref sg ∧ hF h2 1025 (hT h1) = .int (nI len) ∧ hF h2 1026 (hT h1) = .ref (hT h) ∧ hF h2 1027 (hT h1) = .ref (hT h1 + 1) ∧ hF h2 1028 (hT h1) = .int (nI 0) ∧ hF h2 1029 (hT h1) = .int (-1)) (rs : Lst h2 (hT h1 + 1) (hZ h2) 0 fn) : RS h h2 (hT h1) sg (hT h1 + 1) (hT h) len tx ([], [], []) (0, -1) 4 15 := by
  have s : ∀ a, a < hT h → samA h h2 a := fun a ha => (s1 a ha).trans (s2 a (by omega))
  have ssg := s sg hsg
  have k14 : hC h1 (hZ h1) = 14 := by rw [z1]; exact (s1 _ zz.2).1.trans zz.1
  have O1 : EdO h1 (inI (hT h) (hT h1)) (hT h) (hT h + 1) (hZ h1) pa ([], [], []) := ⟨⟨⟨by omega, by omega⟩, ⟨by omega, by omega⟩⟩, Or.inl k14, fun k hk => absurd hk (Nat.not_lt_zero k), fun i j hi => absurd hi (Nat.not_lt_zero i)⟩
  obtain ⟨X2, O2⟩ := EdFO.same X1 O1 (fun b hb => s2 b hb.2) (s2 _ (by omega)) z2 (by omega)
  refine ⟨⟨rf.1, rf.2.1, rf.2.2.1, rf.2.2.2.1, rf.2.2.2.2.1, ssg.1.trans cs.1, ssg.2.1.trans cs.2.1, fun i hi => (ssg.2.2.2 i).trans (cs.2.2 i hi), rs.1, trivial, hl⟩, ⟨rfl, rfl, rfl, fun a _ => samA.refl h2 a, rf.1, fun _ _ _ => rfl, rf.2.2.2.2.2.1, rf.2.2.2.2.2.2, Nat.zero_le _⟩, ⟨by omega, by omega, by omega, by omega, z2.trans z1, fun a ha _ => s a ha⟩, ⟨by omega, by omega, by omega, by omega, hsg⟩, zz, hZ h2, 0, fn, hT h + 1, hZ h1, pa, bt, ⟨rs, Or.inl rfl⟩, X2, O2.mono (fun a ha => ?_)⟩
  have h1' := ha.1
  have h2' := ha.2
  exact ⟨h1', by omega, by omega, by omega, by omega⟩
theorem c_read {h : sm_H} {Q : Nat → Option Value → sm_H → Prop} {x : Nat} {σ : Sg} {P : Nat → Prop} (C : CR h x σ P) (S : SI σ) (hl : sLen σ ≤ 600) (Ke : ∀ q, textM (sTx σ) (sLen σ) (sLen σ) ([], [], []) 0 = .error q → ∀ h', RdO h h' x (clS σ) P (2 * sLen σ + 20) (1200 * sLen σ + 6100) → Q 0 (some (.int (-1 - nI q))) h') (Kf : ∀ E, textM (sTx σ) (sLen σ) (sLen σ) ([], [], []) 0 = .ok E → tooB σ E → ∀ h', RdO h h' x (clS σ) P (2 * sLen σ + 20) (1200 * sLen σ + 6100) → Q 13 (some (.ref (hT h'))) (thH h' 12)) (Kt : ∀ E, textM (sTx σ) (sLen σ) (sLen σ) ([], [], []) 0 = .ok E → ¬ tooB σ E → EdW E → ∀ h', RdO h h' x (tkS σ E) P (2 * sLen σ + 390) (1200 * sLen σ + 82000) → Q 0 (some (.int (nI E.1.length))) h') : sm_wp 6 0 [.ref x, jk, jk, jk] [] h Q := by
  obtain ⟨sg, eds, ee, go, ins, lf, ef, pl, pls, fnd, efd, ea, fa, fda, lo, hi, dk, rc, ex, CC⟩ := id C
  obtain ⟨c1, c2, c3, c4, c5, c6, c7, c8, c9⟩ := id CC
  obtain ⟨x0, x1, x2, x3, x4, x5, x6, x7, x8⟩ := id c1
  have Lo := CA.lo CC
  have hS := S.2.2.2.1
  have hS8 := S.2.2.2.2.1
  have bx := Lo.1 x (by simp)
  have bsg := Lo.1 sg (by simp)
  have zz : hC h (hZ h) = 14 ∧ nI (hL h (hZ h)) = 0 ∧ hZ h < hT h := ⟨c9.1, c9.2.1, Lo.2.2.2.2.2.2 _ c9.2.2.1⟩
  have hz0 := zz.2.2
  refine wp_new k_6 rfl rfl ?_
  show sm_wp 6 3 [.ref x, jk, jk, jk] [.ref (hT h)] _ Q
  refine wp_pure k_6 rfl rfl ?_
  refine wp_ic k_6 rfl (by decide) [] rfl (r := [.ref (hT h)]) (Nat.le_of_ble_eq_true rfl) (Nat.le_of_ble_eq_true rfl) rfl ?_
  refine c_17 zz (fun h1 pa bt t1 u1 z1 s1 X1 => ⟨rfl, ?_⟩)
  refine wp_pure k_6 rfl rfl ?_
  refine wp_new k_6 rfl rfl ?_
  show sm_wp 6 11 [.ref x, .ref (hT h), jk, jk] [.ref (hT h1)] _ Q
  refine wp_pure k_6 rfl rfl ?_
  refine wp_pure k_6 rfl rfl ?_
  refine wp_get k_6 rfl ((if_neg (show x ≠ hT h1 by omega)).trans ((s1 x bx).1.trans x0)) ((if_neg (show x ≠ hT h1 by omega)).trans (((s1 x bx).2.2.1 _).trans x1)) ?_
  refine wp_pure k_6 rfl rfl ?_
  refine wp_get k_6 rfl ((if_neg (show x ≠ hT h1 by omega)).trans ((s1 x bx).1.trans x0)) ((if_neg (show x ≠ hT h1 by omega)).trans (((s1 x bx).2.2.1 _).trans x2)) ?_
  refine wp_pure k_6 rfl rfl ?_
  refine wp_ic k_6 rfl (by decide) [.ref sg, .int (nI (sLen σ)), .ref (hT h)] rfl (r := [.ref (hT h1)]) (Nat.le_of_ble_eq_true rfl) (Nat.le_of_ble_eq_true rfl) rfl ?_
  refine c_58 ⟨by rw [z1]; exact (s1 _ zz.2.2).1.trans zz.1, by rw [z1, (s1 _ zz.2.2).2.1]; exact zz.2.1, by omega⟩ ((s1 sg bsg).1.trans c2.1) ((s1 sg bsg).2.1.trans c2.2.1) (by omega) hl (fun h2 fn t2 u2 z2 s2 rf rs => ⟨rfl, ?_⟩)
  refine wp_pure k_6 rfl rfl ?_
  have R := rd_RS hl c2 bsg ⟨zz.1, zz.2.2⟩ t1 u1 z1 s1 X1 t2 u2 z2 s2 rf rs
  clear rs s1 s2 z1 z2 u1 u2 X1
  obtain ⟨r, hr⟩ : ∃ r, hT h1 = r := ⟨_, rfl⟩
  rw [hr] at R rf ⊢
  clear t2 hr t1
  have key : ∀ E' h3 s' j, RS h h3 r sg (r + 1) (hT h) (sLen σ) (sTx σ) E' s' (4 + 10 * j) (15 + 6000 * j) → CA (putF h3 1 x (.int (nI 0))) x sg eds ee go ins lf ef pl pls fnd efd ea fa fda lo hi dk rc ex (clS σ) P ∧ hC h3 x = 16 ∧ (∀ c, P c → samA h (putF h3 1 x (.int (nI 0))) c) ∧ hT h ≤ hT h3 ∧ hT h3 ≤ hT h + (4 + 10 * j) ∧ hU h ≤ hU h3 ∧ hU h3 ≤ hU h + (15 + 6000 * j) ∧ hZ h3 = hZ h := by
    intro E' h3 s' j R3
    have f3 := R3.2.2.1
    have s3 : ∀ a, a < hT h → samA h h3 a := fun a ha => f3.2.2.2.2.2 a ha id
    refine ⟨(CC.fresh s3 f3.2.2.2.2.1 f3.1).clear, (s3 x bx).1.trans x0, fun c hc => (s3 c (Lo.2.2.2.2.2.2 c hc)).trans (samA.putF (fun z => (c8.1 x (by simp)).2 (by rw [← z]; exact hc))), f3.1, f3.2.1, f3.2.2.1, f3.2.2.2.1, f3.2.2.2.2.1⟩
  refine wp_pure k_6 rfl rfl ?_
  refine wp_iv k_6 rfl [] rfl rf.1 (r := []) (Nat.le_of_ble_eq_true rfl) (Nat.le_of_ble_eq_true rfl) rfl ?_
  refine c_lines R (fun E h3 p' j hm hWd R3 hj j5 => ⟨rfl, ?_⟩) (fun q E' h3 s' j hm hq R3 j5 => ⟨rfl, ?_⟩)
  · obtain ⟨C4, kx, sP, k1, k2, k3, k4, k5⟩ := key _ _ _ _ R3
    refine wp_pure k_6 rfl rfl ?_
    refine wp_pure k_6 rfl rfl ?_
    refine wp_kn k_6 rfl rfl ?_
    refine wp_put k_6 rfl kx rfl rfl ?_
    refine wp_pure k_6 rfl rfl ?_
    refine wp_km k_6 rfl rfl ?_
    refine wp_br k_6 rfl rfl rfl rfl (fun _ => ?_) (fun z => absurd (rfl) z)
    obtain ⟨B3, w3, f3, ⟨r13, r23, r33, r43, r53⟩, ⟨z13, z23⟩, esp3, sn3, sf3, lp3, ep3, pa3, bt3, SL3, X3, O3⟩ := id R3
    have m34 : ∀ a, dR h h3 r (r + 1) esp3 a → samA h3 (putF h3 1 x (.int (nI 0))) a := fun a ha => samA.putF (fun z => by have := ha.1; omega)
    have sz34 : samA h3 (putF h3 1 x (.int (nI 0))) (hZ h3) := samA.putF (by rw [k5]; exact kne c9.1 x0 (by decide))
    obtain ⟨X4, O4⟩ := EdFO.same X3 O3 m34 sz34 hZ_putF (Nat.le_of_eq hT_putF.symm)
    have O4 := O4.mono (D' := inI (hT h) (hT (putF h3 1 x (.int (nI 0))))) (fun a ha => ⟨ha.1, ha.2.1⟩)
    have tt : hT (putF h3 1 x (.int (nI 0))) = hT h3 ∧ hU (putF h3 1 x (.int (nI 0))) = hU h3 ∧ hZ (putF h3 1 x (.int (nI 0))) = hZ h3 := ⟨hT_putF, hU_putF, hZ_putF⟩
    generalize putF h3 1 x (.int (nI 0)) = h4 at *
    clear m34 sz34 X3 O3 R3 B3 w3 f3
    have RO : RdO h h4 x (clS σ) P (2 * sLen σ + 20) (1200 * sLen σ + 6100) := ⟨⟨_, _, _, _, _, _, _, _, _, _, _, _, _, _, _, _, _, _, _, C4⟩, sP, by omega, by omega, by omega, by omega, tt.2.2.trans k5⟩
    have ye := C4.1
    have l4 : Lst h4 eds ee (sEd σ).length ea := C4.2.2.2.2.2.2.1.1
    refine wp_pure k_6 rfl rfl ?_
    refine wp_iv k_6 rfl [] rfl X4.1.1 (r := []) (Nat.le_of_ble_eq_true rfl) (Nat.le_of_ble_eq_true rfl) rfl ?_
    refine c_tooL X4 (by omega) (fun big => ⟨rfl, ?_⟩) (fun big => ⟨rfl, ?_⟩)
    · refine wp_br k_6 rfl rfl rfl rfl (fun _ => ?_) (fun z => absurd (show ¬ (nI 1 : Int32) = 0 by decide) z)
      exact wp_th k_6 rfl (Kf E hm (big.elim (fun z => Or.inl z) (fun z => Or.inr (Or.inl z))) h4 RO)
    · refine wp_br k_6 rfl rfl rfl rfl (fun z => absurd z (show ¬ (¬ (nI 0 : Int32) = 0) by decide)) (fun _ => ?_)
      refine wp_pure k_6 rfl rfl ?_
      refine wp_get k_6 rfl ye.1 ye.2.2.2.1 ?_
      refine wp_iv k_6 rfl [] rfl C4.2.2.2.2.2.2.1.1.1 (r := []) (Nat.le_of_ble_eq_true rfl) (Nat.le_of_ble_eq_true rfl) rfl ?_
      refine c_size l4 ⟨rfl, ?_⟩
      refine wp_kn k_6 rfl rfl ?_
      refine wp_br k_6 rfl rfl rfl rfl (fun (z60 : nI ((sEd σ).length) ≤ nI 7) => ?_) (fun (z60 : ¬ (nI ((sEd σ).length) ≤ nI 7)) => ?_)
      · have y60 : (sEd σ).length ≤ 7 := yLe (by omega) (by omega) z60
        have n7 : (sEd σ).length ≤ 7 := (nI_leI (by omega) (by decide)).mp z60
        refine wp_pure k_6 rfl rfl ?_
        refine wp_pure k_6 rfl rfl ?_
        refine wp_iv k_6 rfl [.ref (hT h)] rfl ye.1 (r := []) (Nat.le_of_ble_eq_true rfl) (Nat.le_of_ble_eq_true rfl) rfl ?_
        refine c_take C4 S.cl rfl (b := hT h) Lo (by omega) X4 O4 hWd (by omega) (fun h5 C5 sP5 y1 y2 y3 y4 y5 m5 => ⟨rfl, ?_⟩)
        have X5 := (EdFO.same X4 O4 m5 (sP5 _ (by rw [tt.2.2, k5]; exact c9.2.2.1)) y5 y1).1
        have RO5 : RdO h h5 x (tkS σ E) P (2 * sLen σ + 390) (1200 * sLen σ + 82000) := by
          refine ⟨C5, fun c hc => (sP c hc).trans (sP5 c hc), Nat.le_trans RO.2.2.1 y1, rd_add RO.2.2.2.1 y2 (by rw [Nat.add_assoc]; exact Nat.add_le_add_left (by decide) _), Nat.le_trans RO.2.2.2.2.1 y3, rd_add RO.2.2.2.2.2.1 y4 (by rw [Nat.add_assoc]; exact Nat.add_le_add_left (by decide) _), by rw [y5, tt.2.2, k5]⟩
        refine wp_pure k_6 rfl rfl ?_
        refine wp_get k_6 rfl X5.1.1 X5.1.2.1 ?_
        refine wp_iv k_6 rfl [] rfl X5.2.1.1 (r := []) (Nat.le_of_ble_eq_true rfl) (Nat.le_of_ble_eq_true rfl) rfl ?_
        refine c_size X5.2.1 ⟨rfl, ?_⟩
        exact wp_irt k_6 rfl rfl rfl (Kt E hm (fun z => z.elim (fun z => big (Or.inl z)) (fun z => z.elim (fun z => big (Or.inr z)) (fun z => by omega))) hWd h5 RO5)
      · have y60 : 7 < (sEd σ).length := yNLe (by omega) (by omega) z60
        exact wp_th k_6 rfl (Kf E hm (Or.inr (Or.inr (by have : ¬ (sEd σ).length ≤ 7 := fun z => z60 ((nI_leI (by omega) (by decide)).mpr z); omega))) h4 RO)
  · obtain ⟨C4, kx, sP, k1, k2, k3, k4, k5⟩ := key _ _ _ _ R3
    refine wp_pure k_6 rfl rfl ?_
    refine wp_pure k_6 rfl rfl ?_
    refine wp_kn k_6 rfl rfl ?_
    refine wp_put k_6 rfl kx rfl rfl ?_
    refine wp_pure k_6 rfl rfl ?_
    refine wp_km k_6 rfl rfl ?_
    refine wp_br k_6 rfl rfl rfl rfl (fun z => absurd z (nI_nm1 (by omega))) (fun _ => ?_)
    refine wp_km k_6 rfl rfl ?_
    refine wp_pure k_6 rfl rfl ?_
    refine wp_isub k_6 rfl ?_
    exact wp_irt k_6 rfl rfl rfl (Ke q hm _ ⟨⟨_, _, _, _, _, _, _, _, _, _, _, _, _, _, _, _, _, _, _, C4⟩, sP, k1, by show hT h3 ≤ _; omega, k3, by show hU h3 ≤ _; omega, k5⟩)
