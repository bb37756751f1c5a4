theorem pit_c {p q : Prop} {a b : Int32} (h : p ↔ q) : pit p a b = pit q a b := by
  by_cases w : p
  · rw [pit_y w, pit_y (h.mp w)]
  · rw [pit_n w, pit_n (fun z => w (h.mpr z))]
/-! the class prints -/
theorem wp_remN {j pc : Nat} {L r : List Value} {h : sm_H} {Q : Nat → Option Value → sm_H → Prop} {t : Nat → Option (Instr × Nat × Nat)} {ci kz a d : Nat} (hx : sm_tab j t) (hi : t pc = some (.irem, ci, kz)) (ha : a < 2 ^ 31) (h0 : 0 < d) (hd : d < 2 ^ 31) (kk : sm_wp j (pc + 1) L (.int (nI (a % d)) :: r) h Q) : sm_wp j pc L (.int (nI d) :: .int (nI a) :: r) h Q := by
  have hne : ¬ nI d = 0 := fun q => by
    have := (nI_eq (a := d) (b := 0) hd (by decide)).mp q
    omega
  refine wp_pure hx hi (L' := L) (S' := .int (nI a - nI a / nI d * nI d) :: r) (if_neg hne) ?_
  rw [pk_rem ha h0 hd]
  exact kk
def PLW (h h1 : sm_H) (pl pls len : Nat) (c : Nat → Int32) : Prop := hT h1 = hT h ∧ hU h1 = hU h ∧ hZ h1 = hZ h ∧ (∀ a, a ≠ pl → a ≠ pls → samA h h1 a) ∧ hC h1 pl = 23 ∧ hF h1 896 pl = .ref pls ∧ hF h1 897 pl = .int (nI len) ∧ hC h1 pls = 3 ∧ hL h1 pls = 820 ∧ ∀ j, j < len → hA h1 pls j = .int (c j)
theorem PLW.put {h h1 : sm_H} {pl pls len j0 : Nat} {c : Nat → Int32} {v : Int32} (p : PLW h h1 pl pls len c) : PLW h (putA h1 pls j0 (.int v)) pl pls len (fun j => if j = j0 then v else c j) := by
  obtain ⟨p1, p2, p3, p4, p5, p6, p7, p8, p9, p10⟩ := p
  refine ⟨p1, p2, p3, fun a h1 h2 => (p4 a h1 h2).trans (samA.putA h2), p5, p6, p7, p8, p9, fun j hj => ?_⟩
  dsimp only
  by_cases q : j = j0
  · rw [if_pos q, q]; exact hA_putA
  · rw [if_neg q]; exact (hA_putA_i q).trans (p10 j hj)
theorem PLW.eq {h h1 : sm_H} {pl pls len : Nat} {c d : Nat → Int32} (p : PLW h h1 pl pls len c) (e : ∀ j, j < len → c j = d j) : PLW h h1 pl pls len d := ⟨p.1, p.2.1, p.2.2.1, p.2.2.2.1, p.2.2.2.2.1, p.2.2.2.2.2.1, p.2.2.2.2.2.2.1, p.2.2.2.2.2.2.2.1, p.2.2.2.2.2.2.2.2.1, fun j hj => by rw [← e j hj]; exact p.2.2.2.2.2.2.2.2.2 j hj⟩
theorem c_paintPt {h h1 : sm_H} {Q : Nat → Option Value → sm_H → Prop} {pl pls len j0 d : Nat} {c : Nat → Int32} (w : PLW h h1 pl pls len c) (hj : j0 < 2 ^ 31) (hlen : len ≤ 820) (hd : d < 128) (K : ∀ h2, PLW h h2 pl pls len (fun j => if j = j0 then nI d else c j) → Q 0 none h2) : sm_wp 43 0 [.ref pl, .int (nI j0), .int (nI d)] [] h1 Q := by
  by_cases q : j0 < len
  · skip
    refine wp_pure k_43 rfl rfl ?_
    refine wp_br k_43 rfl rfl rfl rfl (fun z => absurd z (nI_pos hj)) (fun _ => ?_)
    refine wp_pure k_43 rfl rfl ?_
    refine wp_pure k_43 rfl rfl ?_
    refine wp_get k_43 rfl w.2.2.2.2.1 w.2.2.2.2.2.2.1 ?_
    refine wp_br k_43 rfl rfl rfl rfl (fun z => absurd z (nI_ge q (by omega))) (fun _ => ?_)
    refine wp_pure k_43 rfl rfl ?_
    refine wp_get k_43 rfl w.2.2.2.2.1 w.2.2.2.2.2.1 ?_
    refine wp_pure k_43 rfl rfl ?_
    refine wp_pure k_43 rfl rfl ?_
    refine wp_cast1 k_43 rfl w.2.2.2.2.2.2.2.1 (nLt w.2.2.2.2.2.2.2.2.1 (show j0 < 820 by omega)) (nLb w.2.2.2.2.2.2.2.2.1 (by omega)) (nar_c ⟨d, hd, rfl⟩) ?_
    exact wp_vrt k_43 rfl rfl (K _ w.put)
  · skip
    refine wp_pure k_43 rfl rfl ?_
    refine wp_br k_43 rfl rfl rfl rfl (fun z => absurd z (nI_pos hj)) (fun _ => ?_)
    refine wp_pure k_43 rfl rfl ?_
    refine wp_pure k_43 rfl rfl ?_
    refine wp_get k_43 rfl w.2.2.2.2.1 w.2.2.2.2.2.2.1 ?_
    refine wp_br k_43 rfl rfl rfl rfl (fun _ => ?_) (fun z => absurd ((nI_leI (by omega) hj).mpr (by omega)) z)
    exact wp_vrt k_43 rfl rfl (K _ (w.eq (fun j hj => (if_neg (by omega)).symm)))
/-- a place is painted -/
theorem c_paint1 {h h1 : sm_H} {Q : Nat → Option Value → sm_H → Prop} {pl pls len p X Y W H d : Nat} {c : Nat → Int32} (w : PLW h h1 pl pls len c) (hlen : len ≤ 820) (kp : hC h p = 22) (fx : hF h 770 p = .int (nI X)) (fy : hF h 771 p = .int (nI Y)) (fw : hF h 772 p = .int (nI W)) (fh : hF h 773 p = .int (nI H)) (hp1 : p ≠ pl) (hp2 : p ≠ pls) (b1 : X + W ≤ 40) (b2 : Y + H ≤ 20) (hd : d < 128) (K : ∀ h2, PLW h h2 pl pls len (fun j => pit (X ≤ j % 41 ∧ j % 41 < X + W ∧ Y ≤ j / 41 ∧ j / 41 < Y + H) (nI d) (c j)) → Q 0 none h2) : sm_wp 56 0 [.ref pl, .ref p, .int (nI d), jk, jk] [] h1 Q := by
  refine wp_pure k_56 rfl rfl ?_
  refine wp_get k_56 rfl ((w.2.2.2.1 p hp1 hp2).1.trans kp) (((w.2.2.2.1 p hp1 hp2).2.2.1 _).trans fy) ?_
  refine wp_pure k_56 rfl rfl ?_
  refine dn (n := H) (P := fun i => ∀ (x4 : Value) (h2 : sm_H), PLW h h2 pl pls len (fun j => pit (X ≤ j % 41 ∧ j % 41 < X + W ∧ Y ≤ j / 41 ∧ j / 41 < Y + i) (nI d) (c j)) → sm_wp 56 5 [.ref pl, .ref p, .int (nI d), .int (nI (Y + i)), x4] [] h2 Q) ?_ ?_ 0 (Nat.zero_le _) jk h1 (w.eq (fun j _ => (pit_n (fun q => by omega)).symm))
  · intro x4 h2 w2
    refine wp_pure k_56 rfl rfl ?_
    refine wp_pure k_56 rfl rfl ?_
    refine wp_get k_56 rfl ((w2.2.2.2.1 p hp1 hp2).1.trans kp) (((w2.2.2.2.1 p hp1 hp2).2.2.1 _).trans fy) ?_
    refine wp_pure k_56 rfl rfl ?_
    refine wp_get k_56 rfl ((w2.2.2.2.1 p hp1 hp2).1.trans kp) (((w2.2.2.2.1 p hp1 hp2).2.2.1 _).trans fh) ?_
    refine wp_addN k_56 rfl ?_
    refine wp_br k_56 rfl rfl rfl rfl (fun _ => ?_) (fun z => absurd (Int32.le_refl _) z)
    exact wp_vrt k_56 rfl rfl (K h2 w2)
  · intro i hi ih x4 h2 w2
    refine wp_pure k_56 rfl rfl ?_
    refine wp_pure k_56 rfl rfl ?_
    refine wp_get k_56 rfl ((w2.2.2.2.1 p hp1 hp2).1.trans kp) (((w2.2.2.2.1 p hp1 hp2).2.2.1 _).trans fy) ?_
    refine wp_pure k_56 rfl rfl ?_
    refine wp_get k_56 rfl ((w2.2.2.2.1 p hp1 hp2).1.trans kp) (((w2.2.2.2.1 p hp1 hp2).2.2.1 _).trans fh) ?_
    refine wp_addN k_56 rfl ?_
    refine wp_br k_56 rfl rfl rfl rfl (fun z => absurd z (nI_ge (show Y + i < Y + H by omega) (by omega))) (fun _ => ?_)
    refine wp_pure k_56 rfl rfl ?_
    refine wp_get k_56 rfl ((w2.2.2.2.1 p hp1 hp2).1.trans kp) (((w2.2.2.2.1 p hp1 hp2).2.2.1 _).trans fx) ?_
    refine wp_pure k_56 rfl rfl ?_
    refine dn (n := W) (P := fun k => ∀ (h3 : sm_H), PLW h h3 pl pls len (fun j => pit ((X ≤ j % 41 ∧ j % 41 < X + W ∧ Y ≤ j / 41 ∧ j / 41 < Y + i) ∨ (j / 41 = Y + i ∧ X ≤ j % 41 ∧ j % 41 < X + k)) (nI d) (c j)) → sm_wp 56 24 [.ref pl, .ref p, .int (nI d), .int (nI (Y + i)), .int (nI (X + k))] [] h3 Q) ?_ ?_ 0 (Nat.zero_le _) h2 (w2.eq (fun j _ => pit_c ⟨fun q => Or.inl q, fun q => by omega⟩))
    · intro h3 w3
      refine wp_pure k_56 rfl rfl ?_
      refine wp_pure k_56 rfl rfl ?_
      refine wp_get k_56 rfl ((w3.2.2.2.1 p hp1 hp2).1.trans kp) (((w3.2.2.2.1 p hp1 hp2).2.2.1 _).trans fx) ?_
      refine wp_pure k_56 rfl rfl ?_
      refine wp_get k_56 rfl ((w3.2.2.2.1 p hp1 hp2).1.trans kp) (((w3.2.2.2.1 p hp1 hp2).2.2.1 _).trans fw) ?_
      refine wp_addN k_56 rfl ?_
      refine wp_br k_56 rfl rfl rfl rfl (fun _ => ?_) (fun z => absurd (Int32.le_refl _) z)
      refine wp_inc k_56 rfl rfl rfl ?_
      refine wp_br k_56 rfl rfl rfl rfl (fun _ => ?_) (fun z => absurd trivial z)
      exact ih _ h3 (w3.eq (fun j _ => pit_c ⟨fun q => by omega, fun q => by omega⟩))
    · intro k hk ih2 h3 w3
      refine wp_pure k_56 rfl rfl ?_
      refine wp_pure k_56 rfl rfl ?_
      refine wp_get k_56 rfl ((w3.2.2.2.1 p hp1 hp2).1.trans kp) (((w3.2.2.2.1 p hp1 hp2).2.2.1 _).trans fx) ?_
      refine wp_pure k_56 rfl rfl ?_
      refine wp_get k_56 rfl ((w3.2.2.2.1 p hp1 hp2).1.trans kp) (((w3.2.2.2.1 p hp1 hp2).2.2.1 _).trans fw) ?_
      refine wp_addN k_56 rfl ?_
      refine wp_br k_56 rfl rfl rfl rfl (fun z => absurd z (nI_ge (show X + k < X + W by omega) (by omega))) (fun _ => ?_)
      refine wp_pure k_56 rfl rfl ?_
      refine wp_pure k_56 rfl rfl ?_
      refine wp_kn k_56 rfl rfl ?_
      refine wp_mulN k_56 rfl ?_
      refine wp_pure k_56 rfl rfl ?_
      refine wp_addN k_56 rfl ?_
      refine wp_pure k_56 rfl rfl ?_
      refine wp_iv k_56 rfl [.int (nI (((Y + i) * 41) + (X + k))), .int (nI d)] rfl w3.2.2.2.2.1 (r := []) (Nat.le_of_ble_eq_true rfl) (Nat.le_of_ble_eq_true rfl) rfl ?_
      refine c_paintPt w3 (by omega) hlen hd (fun h4 w4 => ⟨rfl, ?_⟩)
      refine wp_inc k_56 rfl rfl rfl ?_
      refine wp_br k_56 rfl rfl rfl rfl (fun _ => ?_) (fun z => absurd trivial z)
      refine ih2 _ (w4.eq (fun j _ => ?_))
      by_cases q : j = (Y + i) * 41 + (X + k)
      · rw [if_pos q, pit_y (by omega)]
      · rw [if_neg q]
        exact pit_c ⟨fun w => by omega, fun w => by omega⟩
