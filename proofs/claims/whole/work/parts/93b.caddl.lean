theorem AdC.cg {h h' : sm_H} {ed lp ep : Nat} {pa : Nat → Nat} {ps : List Pl} {nw ns : Nat} {ln : Nat → Nat} {lk st lk' st' : Nat → Prop} {bt : Nat → Nat → Nat} (x : AdC h h' ed lp ep pa ps nw ns ln lk st bt) (h1 : ∀ k, lk k ↔ lk' k) (h2 : ∀ k, st k ↔ st' k) : AdC h h' ed lp ep pa ps nw ns ln lk' st' bt := by
  obtain ⟨x1, x5, x6, x7⟩ := x
  refine ⟨x1, x5, fun k hk => ?_, x7⟩
  obtain ⟨y0, y1, y2, y3, y4, y5, y6, y7, y8, y9, y10⟩ := x6 k hk
  exact ⟨y0, y1, y2, y3, by rw [← pit_c (h1 k)]; exact y4, y5, y6, y7, y8, y9, by rw [← pit_c (h2 k)]; exact y10⟩
theorem lift_eqs {E : Ed} (hWd : EdW E) {P : Nat → Int32} {l : List Nat} (h6 : P 1 = nI 6) : (E.1 ++ [(P, l)]).length = (E.1 ++ [(P, [])]).length ∧ (∀ a k, k < (E.1 ++ [(P, [])]).length → atP (E.1 ++ [(P, l)]) a k = atP (E.1 ++ [(P, [])]) a k) ∧ (∀ k, k < (E.1 ++ [(P, [])]).length → (if k = E.1.length then l.length else linE (E.1 ++ [(P, [])], E.2.1, E.2.2) k) = linE (E.1 ++ [(P, l)], E.2.1, E.2.2) k) ∧ (∀ k, (lnkE (E.1 ++ [(P, [])], E.2.1, E.2.2) k ∨ ∃ j, j < l.length ∧ k = l.getD j 0) ↔ lnkE (E.1 ++ [(P, l)], E.2.1, E.2.2) k) ∧ (∀ k, (stpE (E.1 ++ [(P, [])], E.2.1, E.2.2) k ∨ ∃ j, j < l.length ∧ k = l.getD j 0) ↔ stpE (E.1 ++ [(P, l)], E.2.1, E.2.2) k) := by
  have hl : ∀ z : List Nat, (E.1 ++ [(P, z)]).length = E.1.length + 1 := fun z => by rw [List.length_append]; rfl
  refine ⟨by rw [hl, hl], fun a k hk => ?_, fun k hk => ?_, fun k => ?_, fun k => ?_⟩
  · rw [hl] at hk
    by_cases q : k < E.1.length
    · rw [atP_old q, atP_old q]
    · have q' : k = E.1.length := by omega
      subst q'
      rw [atP_new, atP_new]
  · rw [hl] at hk
    by_cases q : k = E.1.length
    · rw [if_pos q]
      subst q
      exact (linE_new (P := (P, l)) hWd).symm
    · rw [if_neg q, linE_pl hWd (by omega), linE_pl hWd (by omega)]
  · rw [lnkE_pl (P := (P, [])) (fun z => absurd h6 z), lnkE_pl (P := (P, l)) (fun z => absurd h6 z), ← mem_ex]
    exact ⟨fun z => z.imp (fun z => z.resolve_right List.not_mem_nil) id, fun z => z.imp Or.inl id⟩
  · rw [stpE_pl (P := (P, [])), stpE_pl (P := (P, l)), ← mem_ex]
    exact ⟨fun z => z.imp (fun z => z.resolve_right List.not_mem_nil) id, fun z => z.imp Or.inl id⟩
theorem c_addLift {h0 h : sm_H} {Q : Nat → Option Value → sm_H → Prop} {r sg sp ed len : Nat} {tx : Nat → Int32} {E : Ed} {s : Nat × Int32} {dT dU : Nat} (R : RS h0 h r sg sp ed len tx E s dT dU) {esp sn lp ep : Nat} {sf pa : Nat → Nat} {bt : Nat → Nat → Nat} (SL : Lst h sp esp sn sf ∧ (esp = hZ h ∨ hT h0 ≤ esp)) (X : EdF h ed lp ep pa bt E (fun _ => nI 0)) (O : EdO h (dR h0 h r sp esp) ed lp ep pa E) (hWd : EdW E) (hn : E.1.length < 2 ^ 12) {hy : sm_H} {P : Nat → Int32} (h6 : P 1 = nI 6) (hb7 : P 7 = -1 ∨ ∃ r, P 7 = nI r ∧ r < E.1.length) (ay : hT hy = hT h + 1 ∧ hU hy = hU h + 16 ∧ hZ hy = hZ h ∧ ∀ a, a ≠ hT h → samA h hy a) (pf : PF hy (hT h) pa E.1.length P) {l : List Nat} (hl : l.length = sn) (hl4 : l.length ≤ 4) (hsf : ∀ i, i < l.length → sf i = pa (l.getD i 0) ∧ l.getD i 0 < E.1.length) (K : ∀ h', RS h0 h' r sg sp ed len tx (E.1 ++ [(P, l)], E.2.1, E.2.2) s (dT + 2) (dU + 2 * E.1.length + 30) → Q 0 none h') : sm_wp 20 0 [.ref ed, .ref (hT h), .ref sp, jk, jk, jk, jk] [] hy Q := by
  subst hl
  have se := ay.2.2.2 ed (Nat.ne_of_lt O.1.1.2.1)
  have sl := ay.2.2.2 lp (Nat.ne_of_lt O.1.2.2.1)
  refine wp_pure k_20 rfl rfl ?_
  refine wp_get k_20 rfl (se.1.trans X.1.1) ((se.2.2.1 _).trans X.1.2.1) ?_
  refine wp_pure k_20 rfl rfl ?_
  refine wp_iv k_20 rfl [.ref (hT h)] rfl (sl.1.trans X.2.1.1) (r := []) (Nat.le_of_ble_eq_true rfl) (Nat.le_of_ble_eq_true rfl) rfl ?_
  refine c_addNew (P := (P, [])) R hWd hn SL X O rfl hb7 ay pf (fun h8 e8 R8 SL8 X8 O8 => ⟨rfl, ?_⟩)
  refine wp_pure k_20 rfl rfl ?_
  generalize hpb : (fun i => if i = E.1.length then hT h else pa i) = pb at *
  generalize (fun c x => if x = E.1.length then 0 else bt c x) = bt1 at *
  have ep1 : pb E.1.length = hT h := by rw [← hpb]; exact if_pos rfl
  have ep2 : ∀ k, k < E.1.length → pb k = pa k := fun k hk => by rw [← hpb]; exact if_neg (by omega)
  have hnl : E.1.length < (E.1 ++ [(P, [])]).length := by rw [List.length_append]; exact Nat.lt_succ_self _
  have inj : ∀ i j, i < (E.1 ++ [(P, [])]).length → j < (E.1 ++ [(P, [])]).length → pb i = pb j → i = j := O8.2.2.2
  have Y : AdC h8 h8 ed lp e8 pb (E.1 ++ [(P, [])]) E.2.1.length E.2.2.length (linE (E.1 ++ [(P, [])], E.2.1, E.2.2)) (lnkE (E.1 ++ [(P, [])], E.2.1, E.2.2)) (stpE (E.1 ++ [(P, [])], E.2.1, E.2.2)) bt1 := X8.ad
  have hsf8 : ∀ i, i < l.length → sf i = pb (l.getD i 0) ∧ l.getD i 0 < (E.1 ++ [(P, [])]).length := fun i hi => ⟨(hsf i hi).1.trans (ep2 _ (hsf i hi).2).symm, by have := (hsf i hi).2; omega⟩
  rw [← ep1]
  refine wp_pure k_20 rfl rfl ?_
  refine wp_pure k_20 rfl rfl ?_
  refine wp_iv k_20 rfl [] rfl SL8.1.1 (r := [.ref (pb E.1.length)]) (Nat.le_of_ble_eq_true rfl) (Nat.le_of_ble_eq_true rfl) rfl ?_
  refine c_size SL8.1 ⟨rfl, ?_⟩
  refine wp_put k_20 rfl (Y.2.2.1 _ hnl).1 rfl rfl ?_
  obtain ⟨ln1, el1, Y1⟩ := Y.uln' inj hnl (v := l.length)
  generalize putF h8 776 (pb E.1.length) (.int (nI l.length)) = h9 at *
  have SL9 := Y1.sl SL8.1
  refine wp_pure k_20 rfl rfl ?_
  refine wp_pure k_20 rfl rfl ?_
  refine wp_kn k_20 rfl rfl ?_
  refine wp_pure k_20 rfl rfl ?_
  refine dn (n := l.length) (P := fun i => sm_wp 20 22 [.ref ed, .ref (pb E.1.length), .ref sp, .long (lN (alN l i)), jk, .int (nI i), jk] [] h9 Q) ?_ ?_ 0 (Nat.zero_le _)
  · skip
    refine wp_pure k_20 rfl rfl ?_
    refine wp_pure k_20 rfl rfl ?_
    refine wp_iv k_20 rfl [] rfl SL9.1 (r := [.int (nI (l.length))]) (Nat.le_of_ble_eq_true rfl) (Nat.le_of_ble_eq_true rfl) rfl ?_
    refine c_size SL9 ⟨rfl, ?_⟩
    refine wp_br k_20 rfl rfl rfl rfl (fun _ => ?_) (fun z => absurd (Int32.le_refl _) z)
    refine wp_kn k_20 rfl rfl ?_
    refine wp_pure k_20 rfl rfl ?_
    refine dn (n := l.length) (P := fun i => ∀ (x6 : Value) (hA : sm_H) (btA : Nat → Nat → Nat), AdC h8 hA ed lp e8 pb (E.1 ++ [(P, [])]) E.2.1.length E.2.2.length ln1 (fun k => lnkE (E.1 ++ [(P, [])], E.2.1, E.2.2) k ∨ ∃ j, j < i ∧ k = l.getD j 0) (fun k => stpE (E.1 ++ [(P, [])], E.2.1, E.2.2) k ∨ ∃ j, j < i ∧ k = l.getD j 0) btA → (∀ c x y, (btA c x).testBit y = true ↔ (bt1 c x).testBit y = true ∨ (c < 2 ∧ (∃ j, j < i ∧ x = l.getD j 0) ∧ (alN l l.length).testBit y = true)) → sm_wp 20 55 [.ref ed, .ref (pb E.1.length), .ref sp, .long (lN (alN l l.length)), jk, .int (nI i), x6] [] hA Q) ?_ ?_ 0 (Nat.zero_le _) jk h9 bt1 (Y1.cg (fun k => ⟨Or.inl, fun z => z.elim id (fun ⟨j, hj, _⟩ => absurd hj (Nat.not_lt_zero j))⟩) (fun k => ⟨Or.inl, fun z => z.elim id (fun ⟨j, hj, _⟩ => absurd hj (Nat.not_lt_zero j))⟩)) (fun c x y => ⟨Or.inl, fun z => z.elim id (fun ⟨_, ⟨j, hj, _⟩, _⟩ => absurd hj (Nat.not_lt_zero j))⟩)
    · intro x6 hA btA YA hbA
      have SLA := YA.sl SL8.1
      refine wp_pure k_20 rfl rfl ?_
      refine wp_pure k_20 rfl rfl ?_
      refine wp_iv k_20 rfl [] rfl SLA.1 (r := [.int (nI (l.length))]) (Nat.le_of_ble_eq_true rfl) (Nat.le_of_ble_eq_true rfl) rfl ?_
      refine c_size SLA ⟨rfl, ?_⟩
      refine wp_br k_20 rfl rfl rfl rfl (fun _ => ?_) (fun z => absurd (Int32.le_refl _) z)
      obtain ⟨q0, q1, q2, q3, q4⟩ := lift_eqs (l := l) hWd h6
      refine wp_vrt k_20 rfl rfl (K _ (R8.ad SL8 X8 O8 YA (E' := (E.1 ++ [(P, l)], E.2.1, E.2.2)) q0 q1 rfl rfl (fun k hk => ?_) (fun k _ => q3 k) (fun k _ => q4 k) (BtW.lift X8.2.2.2 h6 (fun i hi => (hsf i hi).2) YA.2.2.2.1 hbA)))
      rw [el1]
      exact q2 k hk
    · intro i hi ih x6 hA btA YA hbA
      have SLA := YA.sl SL8.1
      obtain ⟨s9, hs9⟩ : ∃ s9, l.getD i 0 = s9 := ⟨_, rfl⟩
      have hs9l : s9 < (E.1 ++ [(P, [])]).length := by rw [← hs9]; exact (hsf8 i hi).2
      refine wp_pure k_20 rfl rfl ?_
      refine wp_pure k_20 rfl rfl ?_
      refine wp_iv k_20 rfl [] rfl SLA.1 (r := [.int (nI i)]) (Nat.le_of_ble_eq_true rfl) (Nat.le_of_ble_eq_true rfl) rfl ?_
      refine c_size SLA ⟨rfl, ?_⟩
      refine wp_br k_20 rfl rfl rfl rfl (fun z => absurd z (nI_ge hi (by omega))) (fun _ => ?_)
      refine wp_pure k_20 rfl rfl ?_
      refine wp_pure k_20 rfl rfl ?_
      refine wp_iv k_20 rfl [.int (nI i)] rfl SLA.1 (r := []) (Nat.le_of_ble_eq_true rfl) (Nat.le_of_ble_eq_true rfl) rfl ?_
      refine c_get SLA hi ⟨rfl, ?_⟩
      rw [(hsf8 i hi).1, hs9]
      refine wp_cc k_20 rfl (YA.2.2.1 _ hs9l).1 ?_
      refine wp_pure k_20 rfl rfl ?_
      refine wp_pure k_20 rfl rfl ?_
      refine wp_kn k_20 rfl rfl ?_
      refine wp_put k_20 rfl (YA.2.2.1 s9 hs9l).1 rfl rfl ?_
      have Yw1 := YA.ust inj hs9l
      generalize putF hA 783 (pb s9) (.int (nI 1)) = hw1 at *
      refine wp_pure k_20 rfl rfl ?_
      refine wp_kn k_20 rfl rfl ?_
      refine wp_put k_20 rfl (Yw1.2.2.1 s9 hs9l).1 rfl rfl ?_
      have Yw2 := Yw1.ulk inj hs9l
      generalize putF hw1 777 (pb s9) (.int (nI 1)) = hw2 at *
      refine wp_pure k_20 rfl rfl ?_
      refine wp_pure k_20 rfl rfl ?_
      refine wp_get k_20 rfl (Yw2.2.2.1 s9 hs9l).1 (Yw2.2.2.1 s9 hs9l).2.2.2.2.2.2.2.1 ?_
      refine wp_pure k_20 rfl rfl ?_
      refine wp_lorN k_20 rfl (Yw2.2.2.2.1 _ _) (alN_lt _) ?_
      refine wp_put k_20 rfl (Yw2.2.2.1 s9 hs9l).1 rfl rfl ?_
      obtain ⟨bt3, eb3, Yw3⟩ := Yw2.b0 inj hs9l (v := btA 0 s9 ||| alN l l.length) (Nat.or_lt_two_pow (Yw2.2.2.2.1 _ _) (alN_lt _))
      generalize putF hw2 780 (pb s9) (.long (lN (btA 0 s9 ||| alN l l.length))) = hw3 at *
      have ub3 := upd_bit eb3
      refine wp_pure k_20 rfl rfl ?_
      refine wp_pure k_20 rfl rfl ?_
      refine wp_get k_20 rfl (Yw3.2.2.1 s9 hs9l).1 (Yw3.2.2.1 s9 hs9l).2.2.2.2.2.2.2.2.1 ?_
      refine wp_pure k_20 rfl rfl ?_
      refine wp_lorN k_20 rfl (Yw3.2.2.2.1 _ _) (alN_lt _) ?_
      refine wp_put k_20 rfl (Yw3.2.2.1 s9 hs9l).1 rfl rfl ?_
      obtain ⟨bt4, eb4, Yw4⟩ := Yw3.b1 inj hs9l (v := bt3 1 s9 ||| alN l l.length) (Nat.or_lt_two_pow (Yw3.2.2.2.1 _ _) (alN_lt _))
      generalize putF hw3 781 (pb s9) (.long (lN (bt3 1 s9 ||| alN l l.length))) = hw4 at *
      have ub4 := upd_bit eb4
      refine wp_inc k_20 rfl rfl rfl ?_
      refine wp_br k_20 rfl rfl rfl rfl (fun _ => ?_) (fun z => absurd trivial z)
      refine ih _ _ _ (Yw4.cg (fun k => ?_) (fun k => ?_)) (fun c x y => ?_)
      · constructor
        · rintro ((z | ⟨j, z1, z2⟩) | z)
          · exact Or.inl z
          · exact Or.inr ⟨j, by omega, z2⟩
          · exact Or.inr ⟨i, by omega, by rw [hs9]; exact z⟩
        · rintro (z | ⟨j, z1, z2⟩)
          · exact Or.inl (Or.inl z)
          · by_cases q : j = i
            · exact Or.inr (by rw [← hs9, ← q]; exact z2)
            · exact Or.inl (Or.inr ⟨j, by omega, z2⟩)
      · constructor
        · rintro ((z | ⟨j, z1, z2⟩) | z)
          · exact Or.inl z
          · exact Or.inr ⟨j, by omega, z2⟩
          · exact Or.inr ⟨i, by omega, by rw [hs9]; exact z⟩
        · rintro (z | ⟨j, z1, z2⟩)
          · exact Or.inl (Or.inl z)
          · by_cases q : j = i
            · exact Or.inr (by rw [← hs9, ← q]; exact z2)
            · exact Or.inl (Or.inr ⟨j, by omega, z2⟩)
      · rw [ub4, ub3, hbA]
        constructor
        · rintro (((z | ⟨z0, ⟨j, z1, z2⟩, z3⟩) | ⟨z0, z1, z2⟩) | ⟨z0, z1, z2⟩)
          · exact Or.inl z
          · exact Or.inr ⟨z0, ⟨j, by omega, z2⟩, z3⟩
          · exact Or.inr ⟨by omega, ⟨i, by omega, by rw [hs9]; exact z1⟩, z2⟩
          · exact Or.inr ⟨by omega, ⟨i, by omega, by rw [hs9]; exact z1⟩, z2⟩
        · rintro (z | ⟨z0, ⟨j, z1, z2⟩, z3⟩)
          · exact Or.inl (Or.inl (Or.inl z))
          · by_cases q : j = i
            · have e9 : x = s9 := by rw [← hs9, ← q]; exact z2
              by_cases q0 : c = 0
              · exact Or.inl (Or.inr ⟨q0, e9, z3⟩)
              · exact Or.inr ⟨by omega, e9, z3⟩
            · exact Or.inl (Or.inl (Or.inr ⟨z0, ⟨j, by omega, z2⟩, z3⟩))
  · intro i hi ih 
    refine wp_pure k_20 rfl rfl ?_
    refine wp_pure k_20 rfl rfl ?_
    refine wp_iv k_20 rfl [] rfl SL9.1 (r := [.int (nI i)]) (Nat.le_of_ble_eq_true rfl) (Nat.le_of_ble_eq_true rfl) rfl ?_
    refine c_size SL9 ⟨rfl, ?_⟩
    refine wp_br k_20 rfl rfl rfl rfl (fun z => absurd z (nI_ge hi (by omega))) (fun _ => ?_)
    refine wp_pure k_20 rfl rfl ?_
    refine wp_pure k_20 rfl rfl ?_
    refine wp_pure k_20 rfl rfl ?_
    refine wp_iv k_20 rfl [.int (nI i)] rfl SL9.1 (r := [.long (lN (alN l i))]) (Nat.le_of_ble_eq_true rfl) (Nat.le_of_ble_eq_true rfl) rfl ?_
    refine c_get SL9 hi ⟨rfl, ?_⟩
    rw [(hsf8 i hi).1]
    refine wp_cc k_20 rfl (Y1.2.2.1 _ (hsf8 i hi).2).1 ?_
    refine wp_iv k_20 rfl [] rfl (Y1.2.2.1 _ (hsf8 i hi).2).1 (r := [.long (lN (alN l i))]) (Nat.le_of_ble_eq_true rfl) (Nat.le_of_ble_eq_true rfl) rfl ?_
    refine c_bit (Y1.2.2.1 _ (hsf8 i hi).2).1 (Y1.2.2.1 _ (hsf8 i hi).2).2.2.2.2.2.2.1 ⟨rfl, ?_⟩
    refine wp_lorN k_20 rfl (alN_lt _) (btN_lt _) ?_
    refine wp_pure k_20 rfl rfl ?_
    refine wp_inc k_20 rfl rfl rfl ?_
    refine wp_br k_20 rfl rfl rfl rfl (fun _ => ?_) (fun z => absurd trivial z)
    exact ih
