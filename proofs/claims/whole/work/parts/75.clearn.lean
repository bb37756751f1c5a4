/-! the class learns where one can go -/
def LGW (h h1 : sm_H) (go on bk sl n dk : Nat) (onf bkf slf : Nat → Nat) : Prop :=
  (hT h1 = hT h ∧ hU h1 = hU h ∧ hZ h1 = hZ h ∧ ∀ a, a ≠ go → a ≠ on → a ≠ bk → a ≠ sl → samA h h1 a) ∧
  (hC h1 go = 19 ∧ hF h1 384 go = .ref on ∧ hF h1 385 go = .ref bk ∧ hF h1 386 go = .ref sl ∧ hF h1 387 go = .int (nI n) ∧ hF h1 388 go = .long (lN dk)) ∧
  (hC h1 on = 2 ∧ hL h1 on = 60 ∧ ∀ i, i < 60 → hA h1 on i = .long (lN (onf i))) ∧ (hC h1 bk = 2 ∧ hL h1 bk = 60 ∧ ∀ i, i < 60 → hA h1 bk i = .long (lN (bkf i))) ∧ (hC h1 sl = 2 ∧ hL h1 sl = 60 ∧ ∀ i, i < 60 → hA h1 sl i = .long (lN (slf i))) ∧
  (∀ i, onf i < 2 ^ 60) ∧ (∀ i, bkf i < 2 ^ 60) ∧ (∀ i, slf i < 2 ^ 60) ∧ dk < 2 ^ 60
def uN (f : Nat → Nat) (x v : Nat) : Nat → Nat := fun i => if i = x then v else f i
theorem uN_lt {f : Nat → Nat} {x v : Nat} (hf : ∀ i, f i < 2 ^ 60) (hv : v < 2 ^ 60) : ∀ i, uN f x v i < 2 ^ 60 := fun i => by
  unfold uN
  split
  · exact hv
  · exact hf i
section LGWs
variable {h h1 : sm_H} {go on bk sl n dk x v : Nat} {onf bkf slf : Nat → Nat}
theorem LGW.pon (w : LGW h h1 go on bk sl n dk onf bkf slf) (d1 : on ≠ bk) (d2 : on ≠ sl) (hv : v < 2 ^ 60) : LGW h (putA h1 on x (.long (lN v))) go on bk sl n dk (uN onf x v) bkf slf := by
  obtain ⟨⟨a1, a2, a3, a4⟩, b, ⟨c1, c2, c3⟩, ⟨d3, d4, d5⟩, ⟨e1, e2, e3⟩, f1, f2, f3, f4⟩ := w
  refine ⟨⟨a1, a2, a3, fun a q1 q2 q3 q4 => (a4 a q1 q2 q3 q4).trans (samA.putA q2)⟩, b, ⟨c1, c2, fun i hi => ?_⟩, ⟨d3, d4, fun i hi => (hA_putA_a (Ne.symm d1)).trans (d5 i hi)⟩, ⟨e1, e2, fun i hi => (hA_putA_a (Ne.symm d2)).trans (e3 i hi)⟩, uN_lt f1 hv, f2, f3, f4⟩
  unfold uN
  by_cases q : i = x
  · rw [if_pos q, q]; exact hA_putA
  · rw [if_neg q]; exact (hA_putA_i q).trans (c3 i hi)
theorem LGW.pbk (w : LGW h h1 go on bk sl n dk onf bkf slf) (d1 : on ≠ bk) (d2 : bk ≠ sl) (hv : v < 2 ^ 60) : LGW h (putA h1 bk x (.long (lN v))) go on bk sl n dk onf (uN bkf x v) slf := by
  obtain ⟨⟨a1, a2, a3, a4⟩, b, ⟨c1, c2, c3⟩, ⟨d3, d4, d5⟩, ⟨e1, e2, e3⟩, f1, f2, f3, f4⟩ := w
  refine ⟨⟨a1, a2, a3, fun a q1 q2 q3 q4 => (a4 a q1 q2 q3 q4).trans (samA.putA q3)⟩, b, ⟨c1, c2, fun i hi => (hA_putA_a d1).trans (c3 i hi)⟩, ⟨d3, d4, fun i hi => ?_⟩, ⟨e1, e2, fun i hi => (hA_putA_a (Ne.symm d2)).trans (e3 i hi)⟩, f1, uN_lt f2 hv, f3, f4⟩
  unfold uN
  by_cases q : i = x
  · rw [if_pos q, q]; exact hA_putA
  · rw [if_neg q]; exact (hA_putA_i q).trans (d5 i hi)
theorem LGW.psl (w : LGW h h1 go on bk sl n dk onf bkf slf) (d1 : on ≠ sl) (d2 : bk ≠ sl) (hv : v < 2 ^ 60) : LGW h (putA h1 sl x (.long (lN v))) go on bk sl n dk onf bkf (uN slf x v) := by
  obtain ⟨⟨a1, a2, a3, a4⟩, b, ⟨c1, c2, c3⟩, ⟨d3, d4, d5⟩, ⟨e1, e2, e3⟩, f1, f2, f3, f4⟩ := w
  refine ⟨⟨a1, a2, a3, fun a q1 q2 q3 q4 => (a4 a q1 q2 q3 q4).trans (samA.putA q4)⟩, b, ⟨c1, c2, fun i hi => (hA_putA_a d1).trans (c3 i hi)⟩, ⟨d3, d4, fun i hi => (hA_putA_a d2).trans (d5 i hi)⟩, ⟨e1, e2, fun i hi => ?_⟩, f1, f2, uN_lt f3 hv, f4⟩
  unfold uN
  by_cases q : i = x
  · rw [if_pos q, q]; exact hA_putA
  · rw [if_neg q]; exact (hA_putA_i q).trans (e3 i hi)
theorem LGW.psz (w : LGW h h1 go on bk sl n dk onf bkf slf) : LGW h (putF h1 387 go (.int (nI v))) go on bk sl v dk onf bkf slf := by
  obtain ⟨⟨a1, a2, a3, a4⟩, ⟨b0, b1, b2, b3, b4, b5⟩, c⟩ := w
  exact ⟨⟨a1, a2, a3, fun a q1 q2 q3 q4 => (a4 a q1 q2 q3 q4).trans (samA.putF q1)⟩, ⟨b0, (hF_putF_f (by decide)).trans b1, (hF_putF_f (by decide)).trans b2, (hF_putF_f (by decide)).trans b3, hF_putF, (hF_putF_f (by decide)).trans b5⟩, c⟩
theorem LGW.pdk (w : LGW h h1 go on bk sl n dk onf bkf slf) (hv : v < 2 ^ 60) : LGW h (putF h1 388 go (.long (lN v))) go on bk sl n v onf bkf slf := by
  obtain ⟨⟨a1, a2, a3, a4⟩, ⟨b0, b1, b2, b3, b4, b5⟩, c1, c2, c3, c4, c5, c6, c7⟩ := w
  exact ⟨⟨a1, a2, a3, fun a q1 q2 q3 q4 => (a4 a q1 q2 q3 q4).trans (samA.putF q1)⟩, ⟨b0, (hF_putF_f (by decide)).trans b1, (hF_putF_f (by decide)).trans b2, (hF_putF_f (by decide)).trans b3, (hF_putF_f (by decide)).trans b4, hF_putF⟩, c1, c2, c3, c4, c5, c6, hv⟩
end LGWs
theorem c_forget {h : sm_H} {Q : Nat → Option Value → sm_H → Prop} {go on bk sl n : Nat} (d1 : on ≠ bk) (d2 : on ≠ sl) (d3 : bk ≠ sl) (g0 : hC h go = 19) (g1 : hF h 384 go = .ref on) (g2 : hF h 385 go = .ref bk) (g3 : hF h 386 go = .ref sl) (g4 : hF h 387 go = .int (nI n)) (o1 : hC h on = 2) (o2 : hL h on = 60) (p1 : hC h bk = 2) (p2 : hL h bk = 60) (r1 : hC h sl = 2) (r2 : hL h sl = 60) (K : ∀ h', LGW h h' go on bk sl n 0 (fun _ => 0) (fun _ => 0) (fun _ => 0) → Q 0 none h') : sm_wp 29 0 [.ref go, jk] [] h Q := by
  refine wp_kn k_29 rfl rfl ?_
  refine wp_pure k_29 rfl rfl ?_
  refine dn (n := 60) (P := fun i => ∀ h1, hT h1 = hT h → hU h1 = hU h → hZ h1 = hZ h → (∀ a, hC h1 a = hC h a) → (∀ a, hL h1 a = hL h a) → (∀ f a, hF h1 f a = hF h f a) → (∀ a, a ≠ on → a ≠ bk → a ≠ sl → samA h h1 a) → (∀ j, j < i → hA h1 on j = .long (lN 0) ∧ hA h1 bk j = .long (lN 0) ∧ hA h1 sl j = .long (lN 0)) → sm_wp 29 2 [.ref go, .int (nI i)] [] h1 Q) ?_ ?_ 0 (Nat.zero_le _) h rfl rfl rfl (fun _ => rfl) (fun _ => rfl) (fun _ _ => rfl) (fun a _ _ _ => samA.refl h a) (fun j hj => absurd hj (Nat.not_lt_zero j))
  · intro h1 t1 t2 t3 fC fL fF nW hz
    refine wp_pure k_29 rfl rfl ?_
    refine wp_kn k_29 rfl rfl ?_
    refine wp_br k_29 rfl rfl rfl rfl (fun _ => ?_) (fun z => absurd (Int32.le_refl _) z)
    refine wp_pure k_29 rfl rfl ?_
    refine wp_pure k_29 rfl rfl ?_
    refine wp_put k_29 rfl ((fC _).trans g0) rfl rfl ?_
    refine wp_vrt k_29 rfl rfl (K _ ⟨⟨t1, t2, t3, fun a q1 q2 q3 q4 => (nW a q2 q3 q4).trans (samA.putF q1)⟩, ⟨(fC _).trans g0, (hF_putF_f (by decide)).trans ((fF _ _).trans g1), (hF_putF_f (by decide)).trans ((fF _ _).trans g2), (hF_putF_f (by decide)).trans ((fF _ _).trans g3), (hF_putF_f (by decide)).trans ((fF _ _).trans g4), hF_putF⟩, ⟨(fC _).trans o1, (fL _).trans o2, fun i hi => (hz i hi).1⟩, ⟨(fC _).trans p1, (fL _).trans p2, fun i hi => (hz i hi).2.1⟩, ⟨(fC _).trans r1, (fL _).trans r2, fun i hi => (hz i hi).2.2⟩, fun _ => Nat.pow_pos (by decide), fun _ => Nat.pow_pos (by decide), fun _ => Nat.pow_pos (by decide), by decide⟩)
  · intro i hi ih h1 t1 t2 t3 fC fL fF nW hz
    refine wp_pure k_29 rfl rfl ?_
    refine wp_kn k_29 rfl rfl ?_
    refine wp_br k_29 rfl rfl rfl rfl (fun z => absurd z (show ¬ (nI 60 ≤ nI i) from (nI_ge hi (by decide)))) (fun _ => ?_)
    refine wp_pure k_29 rfl rfl ?_
    refine wp_get k_29 rfl ((fC _).trans g0) ((fF _ _).trans g1) ?_
    refine wp_pure k_29 rfl rfl ?_
    refine wp_pure k_29 rfl rfl ?_
    refine wp_last k_29 rfl ((fC _).trans o1) (nLt ((fL _).trans o2) (show i < 60 by omega)) (nLb ((fL _).trans o2) (by omega)) ?_
    refine wp_pure k_29 rfl rfl ?_
    refine wp_get k_29 rfl ((fC _).trans g0) ((fF _ _).trans g2) ?_
    refine wp_pure k_29 rfl rfl ?_
    refine wp_pure k_29 rfl rfl ?_
    refine wp_last (h := putA h1 on i (.long (lN 0))) k_29 rfl ((fC _).trans p1) (nLt ((fL _).trans p2) (show i < 60 by omega)) (nLb ((fL _).trans p2) (by omega)) ?_
    refine wp_pure k_29 rfl rfl ?_
    refine wp_get k_29 rfl ((fC _).trans g0) ((fF _ _).trans g3) ?_
    refine wp_pure k_29 rfl rfl ?_
    refine wp_pure k_29 rfl rfl ?_
    refine wp_last (h := putA (putA h1 on i (.long (lN 0))) bk i (.long (lN 0))) k_29 rfl ((fC _).trans r1) (nLt ((fL _).trans r2) (show i < 60 by omega)) (nLb ((fL _).trans r2) (by omega)) ?_
    refine wp_inc k_29 rfl rfl rfl ?_
    refine wp_br k_29 rfl rfl rfl rfl (fun _ => ?_) (fun z => absurd trivial z)
    refine ih _ t1 t2 t3 fC fL fF (fun a q1 q2 q3 => (nW a q1 q2 q3).trans ((samA.putA q1).trans ((samA.putA q2).trans (samA.putA q3)))) (fun j hj => ?_)
    by_cases q : j = i
    · rw [q]
      exact ⟨(hA_putA_a d2).trans ((hA_putA_a d1).trans hA_putA), (hA_putA_a d3).trans hA_putA, hA_putA⟩
    · obtain ⟨y1, y2, y3⟩ := hz j (by omega)
      exact ⟨(hA_putA_i q).trans ((hA_putA_i q).trans ((hA_putA_i q).trans y1)), (hA_putA_i q).trans ((hA_putA_i q).trans ((hA_putA_i q).trans y2)), (hA_putA_i q).trans ((hA_putA_i q).trans ((hA_putA_i q).trans y3))⟩
theorem c_lstep {h h1 : sm_H} {Q : Nat → Option Value → sm_H → Prop} {go on bk sl n dk : Nat} {onf bkf slf : Nat → Nat} (d1 : on ≠ bk) (d2 : on ≠ sl) (d3 : bk ≠ sl) (w : LGW h h1 go on bk sl n dk onf bkf slf) {a b : Nat} (ha : a < 60) (hb : b < 60) (K : ∀ h2, LGW h h2 go on bk sl n dk (uN onf a (onf a ||| 2 ^ b)) (uN bkf b (bkf b ||| 2 ^ a)) slf → Q 0 none h2) : sm_wp 31 0 [.ref go, .int (nI a), .int (nI b)] [] h1 Q := by
  have pa : 2 ^ a < 2 ^ 60 := pow_lt ha
  have pb : 2 ^ b < 2 ^ 60 := pow_lt hb
  have l1 := w.2.2.2.2.2.1 a
  have l2 := w.2.2.2.2.2.2.1 b
  refine wp_pure k_31 rfl rfl ?_
  refine wp_get k_31 rfl w.2.1.1 w.2.1.2.1 ?_
  refine wp_pure k_31 rfl rfl ?_
  refine wp_pure k_31 rfl rfl ?_
  refine wp_lald k_31 rfl (cTy w.2.2.1.1 rfl) (nLt w.2.2.1.2.1 (show a < 60 by omega)) (nLb w.2.2.1.2.1 (by omega)) (w.2.2.1.2.2 a (by omega)) ?_
  refine wp_pure k_31 rfl rfl ?_
  refine wp_pure k_31 rfl rfl ?_
  refine wp_lshl1 k_31 rfl (by omega) ?_
  refine wp_lorN k_31 rfl (by omega) (by omega) ?_
  refine wp_last k_31 rfl w.2.2.1.1 (nLt w.2.2.1.2.1 (show a < 60 by omega)) (nLb w.2.2.1.2.1 (by omega)) ?_
  refine wp_pure k_31 rfl rfl ?_
  refine wp_get k_31 rfl w.2.1.1 w.2.1.2.2.1 ?_
  refine wp_pure k_31 rfl rfl ?_
  refine wp_pure k_31 rfl rfl ?_
  refine wp_lald (h := putA h1 on a (.long (lN ((onf a) ||| (2 ^ b))))) k_31 rfl (cTy w.2.2.2.1.1 rfl) (nLt w.2.2.2.1.2.1 (show b < 60 by omega)) (nLb w.2.2.2.1.2.1 (by omega)) ((hA_putA_a (Ne.symm d1)).trans (w.2.2.2.1.2.2 b (by omega))) ?_
  refine wp_pure k_31 rfl rfl ?_
  refine wp_pure k_31 rfl rfl ?_
  refine wp_lshl1 k_31 rfl (by omega) ?_
  refine wp_lorN k_31 rfl (by omega) (by omega) ?_
  refine wp_last (h := putA h1 on a (.long (lN ((onf a) ||| (2 ^ b))))) k_31 rfl w.2.2.2.1.1 (nLt w.2.2.2.1.2.1 (show b < 60 by omega)) (nLb w.2.2.2.1.2.1 (by omega)) ?_
  exact wp_vrt k_31 rfl rfl (K _ ((w.pon d1 d2 (Nat.or_lt_two_pow l1 pb)).pbk d1 d3 (Nat.or_lt_two_pow l2 pa)))
theorem uN_bit {f : Nat → Nat} {a b x y : Nat} : (uN f a (f a ||| 2 ^ b) x).testBit y = true ↔ (f x).testBit y = true ∨ (x = a ∧ y = b) := by
  unfold uN
  by_cases q : x = a
  · rw [if_pos q, Nat.testBit_or, Bool.or_eq_true, bit1, q]
    exact ⟨fun z => z.imp id (fun z => ⟨rfl, z⟩), fun z => z.imp id (fun z => z.2)⟩
  · rw [if_neg q]
    exact ⟨Or.inl, fun z => z.elim id (fun z => absurd z.1 q)⟩
theorem c_lways {h h1 : sm_H} {Q : Nat → Option Value → sm_H → Prop} {go on bk sl n dk : Nat} {onf bkf slf : Nat → Nat} (d1 : on ≠ bk) (d2 : on ≠ sl) (d3 : bk ≠ sl) (w : LGW h h1 go on bk sl n dk onf bkf slf) {lo hi ed lp lw lv ls ep ew ev es : Nat} {pa wa va sa : Nat → Nat} {E : Ed} {un : Nat → Int32} (X : EdF h ed lp lw lv ls ep ew ev es pa wa va sa E un) (O : EdO h (inI lo hi) ed lp lw lv ls ep ew ev es pa wa va sa E) (hWd : EdW E) (hn : E.1.length ≤ 60) (hgo : ∀ a, inI lo hi a → a ≠ go ∧ a ≠ on ∧ a ≠ bk ∧ a ≠ sl) (hzg : hZ h ≠ go ∧ hZ h ≠ on ∧ hZ h ≠ bk ∧ hZ h ≠ sl) (s1 : ∀ x y, (onf x).testBit y = true ↔ False) (s2 : ∀ x y, (bkf x).testBit y = true ↔ False) (K : ∀ h2 onf' bkf', LGW h h2 go on bk sl n dk onf' bkf' slf → (∀ x y, (onf' x).testBit y = true ↔ wsX E.2.1 E.2.1.length x y) → (∀ x y, (bkf' x).testBit y = true ↔ wsX E.2.1 E.2.1.length y x) → Q 0 none h2) : sm_wp 30 0 [.ref go, .ref ed, jk, jk] [] h1 Q := by
  have nw := X.2.1.2.1.2.2.2.2.1
  refine wp_kn k_30 rfl rfl ?_
  refine wp_pure k_30 rfl rfl ?_
  refine dn (n := E.2.1.length) (P := fun i => ∀ (x3 : Value) (h2 : sm_H) (onf bkf : Nat → Nat), LGW h h2 go on bk sl n dk onf bkf slf → (∀ x y, (onf x).testBit y = true ↔ wsX E.2.1 i x y) → (∀ x y, (bkf x).testBit y = true ↔ wsX E.2.1 i y x) → sm_wp 30 2 [.ref go, .ref ed, .int (nI i), x3] [] h2 Q) ?_ ?_ 0 (Nat.zero_le _) jk h1 onf bkf w (fun x y => (s1 x y).trans ⟨False.elim, fun ⟨j, hj, _⟩ => absurd hj (Nat.not_lt_zero j)⟩) (fun x y => (s2 x y).trans ⟨False.elim, fun ⟨j, hj, _⟩ => absurd hj (Nat.not_lt_zero j)⟩)
  · intro x3 h2 onf bkf w2 q1 q2
    have sz : samA h h2 (hZ h) := w2.1.2.2.2 _ hzg.1 hzg.2.1 hzg.2.2.1 hzg.2.2.2
    have X2 := (EdFO.same X O (fun b hb => w2.1.2.2.2 b (hgo b hb).1 (hgo b hb).2.1 (hgo b hb).2.2.1 (hgo b hb).2.2.2) sz w2.1.2.2.1 (by rw [w2.1.1]; exact Nat.le_refl _)).1
    obtain ⟨⟨e0, e1, e2, e3, e4⟩, ⟨l1, l2, l3, l4⟩, hP, hW, hV, hS⟩ := id X2
    refine wp_pure k_30 rfl rfl ?_
    refine wp_pure k_30 rfl rfl ?_
    refine wp_get k_30 rfl e0 e2 ?_
    refine wp_iv k_30 rfl [] rfl l2.1 (r := [.int (nI (E.2.1.length))]) (Nat.le_of_ble_eq_true rfl) (Nat.le_of_ble_eq_true rfl) rfl ?_
    refine c_size l2 ⟨rfl, ?_⟩
    refine wp_br k_30 rfl rfl rfl rfl (fun _ => ?_) (fun z => absurd (Int32.le_refl _) z)
    exact wp_vrt k_30 rfl rfl (K h2 onf bkf w2 q1 q2)
  · intro i hi9 ih x3 h2 onf bkf w2 q1 q2
    have sz : samA h h2 (hZ h) := w2.1.2.2.2 _ hzg.1 hzg.2.1 hzg.2.2.1 hzg.2.2.2
    have X2 := (EdFO.same X O (fun b hb => w2.1.2.2.2 b (hgo b hb).1 (hgo b hb).2.1 (hgo b hb).2.2.1 (hgo b hb).2.2.2) sz w2.1.2.2.1 (by rw [w2.1.1]; exact Nat.le_refl _)).1
    obtain ⟨⟨e0, e1, e2, e3, e4⟩, ⟨l1, l2, l3, l4⟩, hP, hW, hV, hS⟩ := id X2
    obtain ⟨bw1, bw2, bw3, _⟩ := hWd.2.2.1 _ _ _ (w_mem hi9)
    have bT := Bool.toNat_le (wT E.2.1 i)
    refine wp_pure k_30 rfl rfl ?_
    refine wp_pure k_30 rfl rfl ?_
    refine wp_get k_30 rfl e0 e2 ?_
    refine wp_iv k_30 rfl [] rfl l2.1 (r := [.int (nI i)]) (Nat.le_of_ble_eq_true rfl) (Nat.le_of_ble_eq_true rfl) rfl ?_
    refine c_size l2 ⟨rfl, ?_⟩
    refine wp_br k_30 rfl rfl rfl rfl (fun z => absurd z (nI_ge hi9 (by omega))) (fun _ => ?_)
    refine wp_pure k_30 rfl rfl ?_
    refine wp_get k_30 rfl e0 e2 ?_
    refine wp_pure k_30 rfl rfl ?_
    refine wp_iv k_30 rfl [.int (nI i)] rfl l2.1 (r := []) (Nat.le_of_ble_eq_true rfl) (Nat.le_of_ble_eq_true rfl) rfl ?_
    refine c_get l2 (by omega) ⟨rfl, ?_⟩
    refine wp_cc k_30 rfl (hW i (by omega)).1 ?_
    refine wp_pure k_30 rfl rfl ?_
    refine wp_pure k_30 rfl rfl ?_
    refine wp_pure k_30 rfl rfl ?_
    refine wp_get k_30 rfl (hW i (by omega)).1 (hW i (by omega)).2.1 ?_
    refine wp_pure k_30 rfl rfl ?_
    refine wp_get k_30 rfl (hW i (by omega)).1 (hW i (by omega)).2.2.1 ?_
    refine wp_iv k_30 rfl [.int (nI (wA E.2.1 i)), .int (nI (wB E.2.1 i))] rfl w2.2.1.1 (r := []) (Nat.le_of_ble_eq_true rfl) (Nat.le_of_ble_eq_true rfl) rfl ?_
    refine c_lstep d1 d2 d3 w2 (by omega) (by omega) (fun h3 w3 => ⟨rfl, ?_⟩)
    have o3 : ∀ x y, (uN onf (wA E.2.1 i) (onf (wA E.2.1 i) ||| 2 ^ (wB E.2.1 i)) x).testBit y = true ↔ _ := fun x y => uN_bit
    have p3 : ∀ x y, (uN bkf (wB E.2.1 i) (bkf (wB E.2.1 i) ||| 2 ^ (wA E.2.1 i)) x).testBit y = true ↔ _ := fun x y => uN_bit
    generalize uN onf (wA E.2.1 i) (onf (wA E.2.1 i) ||| 2 ^ (wB E.2.1 i)) = fo3 at *
    generalize uN bkf (wB E.2.1 i) (bkf (wB E.2.1 i) ||| 2 ^ (wA E.2.1 i)) = fb3 at *
    have sz : samA h h3 (hZ h) := w3.1.2.2.2 _ hzg.1 hzg.2.1 hzg.2.2.1 hzg.2.2.2
    have X2 := (EdFO.same X O (fun b hb => w3.1.2.2.2 b (hgo b hb).1 (hgo b hb).2.1 (hgo b hb).2.2.1 (hgo b hb).2.2.2) sz w3.1.2.2.1 (by rw [w3.1.1]; exact Nat.le_refl _)).1
    obtain ⟨⟨e0, e1, e2, e3, e4⟩, ⟨l1, l2, l3, l4⟩, hP, hW, hV, hS⟩ := id X2
    refine wp_pure k_30 rfl rfl ?_
    refine wp_get k_30 rfl (hW i (by omega)).1 (hW i (by omega)).2.2.2 ?_
    refine wp_br k_30 rfl rfl rfl rfl (fun (z41 : nI ((wT E.2.1 i).toNat) = 0) => ?_) (fun (z41 : ¬ (nI ((wT E.2.1 i).toNat) = 0)) => ?_)
    · have y41 : (wT E.2.1 i).toNat = 0 := yE (by omega) (by omega) (show nI ((wT E.2.1 i).toNat) = nI 0 from z41)
      refine wp_inc k_30 rfl rfl rfl ?_
      refine wp_br k_30 rfl rfl rfl rfl (fun _ => ?_) (fun z => absurd trivial z)
      refine ih _ h3 fo3 fb3 w3 (fun x y => ?_) (fun x y => ?_)
      · rw [o3, q1, wsX_succ]
        have bf : ¬ wT E.2.1 i = true := fun q => by rw [q] at y41; exact absurd y41 (by decide)
        exact ⟨fun z => z.elim Or.inl (fun z => Or.inr (Or.inl z)), fun z => z.elim Or.inl (fun z => z.elim Or.inr (fun z => absurd z.1 bf))⟩
      · rw [p3, q2, wsX_succ]
        have bf : ¬ wT E.2.1 i = true := fun q => by rw [q] at y41; exact absurd y41 (by decide)
        exact ⟨fun z => z.elim Or.inl (fun z => Or.inr (Or.inl ⟨z.2, z.1⟩)), fun z => z.elim Or.inl (fun z => z.elim (fun z => Or.inr ⟨z.2, z.1⟩) (fun z => absurd z.1 bf))⟩
    · have y41 : ¬ (wT E.2.1 i).toNat = 0 := yNE (by omega) (by omega) (show ¬ (nI ((wT E.2.1 i).toNat) = nI 0) from z41)
      refine wp_pure k_30 rfl rfl ?_
      refine wp_pure k_30 rfl rfl ?_
      refine wp_get k_30 rfl (hW i (by omega)).1 (hW i (by omega)).2.2.1 ?_
      refine wp_pure k_30 rfl rfl ?_
      refine wp_get k_30 rfl (hW i (by omega)).1 (hW i (by omega)).2.1 ?_
      refine wp_iv k_30 rfl [.int (nI (wB E.2.1 i)), .int (nI (wA E.2.1 i))] rfl w3.2.1.1 (r := []) (Nat.le_of_ble_eq_true rfl) (Nat.le_of_ble_eq_true rfl) rfl ?_
      refine c_lstep d1 d2 d3 w3 (by omega) (by omega) (fun h4 w4 => ⟨rfl, ?_⟩)
      have o4 : ∀ x y, (uN fo3 (wB E.2.1 i) (fo3 (wB E.2.1 i) ||| 2 ^ (wA E.2.1 i)) x).testBit y = true ↔ _ := fun x y => uN_bit
      have p4 : ∀ x y, (uN fb3 (wA E.2.1 i) (fb3 (wA E.2.1 i) ||| 2 ^ (wB E.2.1 i)) x).testBit y = true ↔ _ := fun x y => uN_bit
      generalize uN fo3 (wB E.2.1 i) (fo3 (wB E.2.1 i) ||| 2 ^ (wA E.2.1 i)) = fo4 at *
      generalize uN fb3 (wA E.2.1 i) (fb3 (wA E.2.1 i) ||| 2 ^ (wB E.2.1 i)) = fb4 at *
      have sz : samA h h4 (hZ h) := w4.1.2.2.2 _ hzg.1 hzg.2.1 hzg.2.2.1 hzg.2.2.2
      have X2 := (EdFO.same X O (fun b hb => w4.1.2.2.2 b (hgo b hb).1 (hgo b hb).2.1 (hgo b hb).2.2.1 (hgo b hb).2.2.2) sz w4.1.2.2.1 (by rw [w4.1.1]; exact Nat.le_refl _)).1
      obtain ⟨⟨e0, e1, e2, e3, e4⟩, ⟨l1, l2, l3, l4⟩, hP, hW, hV, hS⟩ := id X2
      refine wp_inc k_30 rfl rfl rfl ?_
      refine wp_br k_30 rfl rfl rfl rfl (fun _ => ?_) (fun z => absurd trivial z)
      have bt : wT E.2.1 i = true := by
        cases q : wT E.2.1 i with
        | true => rfl
        | false => rw [q] at y41; exact absurd rfl y41
      refine ih _ h4 fo4 fb4 w4 (fun x y => ?_) (fun x y => ?_)
      · rw [o4, o3, q1, wsX_succ]
        exact ⟨fun z => z.elim (fun z => z.elim Or.inl (fun z => Or.inr (Or.inl z))) (fun z => Or.inr (Or.inr ⟨bt, z⟩)), fun z => z.elim (fun z => Or.inl (Or.inl z)) (fun z => z.elim (fun z => Or.inl (Or.inr z)) (fun z => Or.inr z.2))⟩
      · rw [p4, p3, q2, wsX_succ]
        exact ⟨fun z => z.elim (fun z => z.elim Or.inl (fun z => Or.inr (Or.inl ⟨z.2, z.1⟩))) (fun z => Or.inr (Or.inr ⟨bt, z.2, z.1⟩)), fun z => z.elim (fun z => Or.inl (Or.inl z)) (fun z => z.elim (fun z => Or.inl (Or.inr ⟨z.2, z.1⟩)) (fun z => Or.inr ⟨z.2.2, z.2.1⟩))⟩
