/-! a line counted: pure -/
theorem upd_bit {bt bt' : Nat → Nat → Nat} {i a v : Nat} (e : ∀ c k, bt' c k = if c = i ∧ k = a then bt i a ||| v else bt c k) (c x y : Nat) : (bt' c x).testBit y = true ↔ (bt c x).testBit y = true ∨ (c = i ∧ x = a ∧ v.testBit y = true) := by
  rw [e]
  by_cases q : c = i ∧ x = a
  · rw [if_pos q, Nat.testBit_or, Bool.or_eq_true, q.1, q.2]
    exact ⟨fun z => z.imp id (fun z => ⟨rfl, rfl, z⟩), fun z => z.imp id (fun z => z.2.2)⟩
  · rw [if_neg q]
    exact ⟨Or.inl, fun z => z.elim id (fun z => absurd ⟨z.1, z.2.1⟩ q)⟩
theorem onB_way {E : Ed} {a b x y : Nat} {t : Bool} : onB (E.1, E.2.1 ++ [(a, b, t)], E.2.2) x y ↔ onB E x y ∨ (x = a ∧ y = b) ∨ (t = true ∧ x = b ∧ y = a) := by
  unfold onB
  dsimp only
  constructor
  · rintro (⟨t', h⟩ | h | h)
    · rcases List.mem_append.mp h with h | h
      · exact Or.inl (Or.inl ⟨t', h⟩)
      · cases List.mem_singleton.mp h
        exact Or.inr (Or.inl ⟨rfl, rfl⟩)
    · rcases List.mem_append.mp h with h | h
      · exact Or.inl (Or.inr (Or.inl h))
      · cases List.mem_singleton.mp h
        exact Or.inr (Or.inr ⟨rfl, rfl, rfl⟩)
    · exact Or.inl (Or.inr (Or.inr h))
  · rintro ((⟨t', h⟩ | h | h) | ⟨h1, h2⟩ | ⟨h0, h1, h2⟩)
    · exact Or.inl ⟨t', List.mem_append_left _ h⟩
    · exact Or.inr (Or.inl (List.mem_append_left _ h))
    · exact Or.inr (Or.inr h)
    · exact Or.inl ⟨t, List.mem_append_right _ (by rw [h1, h2]; exact List.mem_singleton_self _)⟩
    · exact Or.inr (Or.inl (List.mem_append_right _ (by rw [h0, h1, h2]; exact List.mem_singleton_self _)))
theorem bt_bit {n y : Nat} (h : n < 64) : (btN n).testBit y = true ↔ y = n := by rw [btN_2 h]; exact bit1
theorem BtW.way {E : Ed} {bt bt' : Nat → Nat → Nat} (B : BtW E bt) {a b : Nat} {t : Bool} (ha : a < E.1.length) (hb : b < E.1.length) (hl : ∀ c x, bt' c x < 2 ^ 64) (h0 : ∀ x y, (bt' 0 x).testBit y = true ↔ (bt 0 x).testBit y = true ∨ (x = a ∧ (btN b).testBit y = true) ∨ (t = true ∧ x = b ∧ (btN a).testBit y = true)) (h1 : ∀ x y, (bt' 1 x).testBit y = true ↔ (bt 1 x).testBit y = true ∨ (x = b ∧ (btN a).testBit y = true) ∨ (t = true ∧ x = a ∧ (btN b).testBit y = true)) (h2 : ∀ x y, (bt' 2 x).testBit y = true ↔ (bt 2 x).testBit y = true) : BtW (E.1, E.2.1 ++ [(a, b, t)], E.2.2) bt' := by
  refine ⟨hl, fun h64 => ?_⟩
  have h64 : E.1.length ≤ 64 := h64
  obtain ⟨g0, g1, g2⟩ := B.2 h64
  refine ⟨fun x y => ?_, fun x y => ?_, fun x y => ?_⟩
  · rw [h0, g0, onB_way, bt_bit (by omega), bt_bit (by omega)]
  · rw [h1, g1, onB_way, bt_bit (by omega), bt_bit (by omega)]
    constructor
    · rintro (h | ⟨p, q⟩ | ⟨z, p, q⟩)
      · exact Or.inl h
      · exact Or.inr (Or.inl ⟨q, p⟩)
      · exact Or.inr (Or.inr ⟨z, q, p⟩)
    · rintro (h | ⟨p, q⟩ | ⟨z, p, q⟩)
      · exact Or.inl h
      · exact Or.inr (Or.inl ⟨q, p⟩)
      · exact Or.inr (Or.inr ⟨z, q, p⟩)
  · rw [h2, g2]
theorem BtW.srv {E : Ed} {bt bt' : Nat → Nat → Nat} (B : BtW E bt) {a b : Nat} (hb : b < E.1.length) (hl : ∀ c x, bt' c x < 2 ^ 64) (u : ∀ c x y, (bt' c x).testBit y = true ↔ (bt c x).testBit y = true ∨ (c = 2 ∧ x = a ∧ (btN b).testBit y = true)) : BtW (E.1, E.2.1, E.2.2 ++ [(a, b)]) bt' := by
  refine ⟨hl, fun h64 => ?_⟩
  have h64 : E.1.length ≤ 64 := h64
  obtain ⟨g0, g1, g2⟩ := B.2 h64
  refine ⟨fun x y => ?_, fun x y => ?_, fun x y => ?_⟩
  · rw [u, g0]
    exact ⟨fun z => z.elim id (fun z => by cases z.1), Or.inl⟩
  · rw [u, g1]
    exact ⟨fun z => z.elim id (fun z => by cases z.1), Or.inl⟩
  · rw [u, g2, bt_bit (by omega)]
    dsimp only
    rw [List.mem_append, List.mem_singleton, Prod.mk.injEq]
    exact ⟨fun z => z.imp id (fun z => z.2), fun z => z.imp id (fun z => ⟨rfl, z⟩)⟩
/-- all stops' bits -/
def alN (l : List Nat) : Nat → Nat
  | 0 => 0
  | i + 1 => alN l i ||| btN (l.getD i 0)
theorem alN_lt {l : List Nat} : ∀ i, alN l i < 2 ^ 64
  | 0 => Nat.pow_pos (by decide)
  | i + 1 => Nat.or_lt_two_pow (alN_lt i) (btN_lt _)
theorem alN_bit {l : List Nat} (h : ∀ i, i < l.length → l.getD i 0 < 64) (y : Nat) : ∀ i, i ≤ l.length → ((alN l i).testBit y = true ↔ ∃ j, j < i ∧ y = l.getD j 0)
  | 0, _ => ⟨fun z => (by rw [show alN l 0 = 0 from rfl, Nat.zero_testBit] at z; cases z), fun ⟨j, hj, _⟩ => absurd hj (Nat.not_lt_zero j)⟩
  | i + 1, hi => by
    rw [show alN l (i + 1) = alN l i ||| btN (l.getD i 0) from rfl, Nat.testBit_or, Bool.or_eq_true, alN_bit h y i (by omega), bt_bit (h i (by omega))]
    constructor
    · rintro (⟨j, h1, h2⟩ | h1)
      · exact ⟨j, by omega, h2⟩
      · exact ⟨i, by omega, h1⟩
    · rintro ⟨j, h1, h2⟩
      by_cases q : j = i
      · exact Or.inr (by rw [← q]; exact h2)
      · exact Or.inl ⟨j, by omega, h2⟩
theorem mem_ex {l : List Nat} {x : Nat} : x ∈ l ↔ ∃ j, j < l.length ∧ x = l.getD j 0 := ⟨fun h => by obtain ⟨i, h1, h2⟩ := s_ex h; exact ⟨i, h1, h2.symm⟩, fun ⟨j, h1, h2⟩ => by rw [h2]; exact s_mem h1⟩
theorem BtW.lift {E : Ed} {P : Nat → Int32} {l : List Nat} {bt bt' : Nat → Nat → Nat} (B : BtW (E.1 ++ [(P, [])], E.2.1, E.2.2) bt) (h6 : P 1 = nI 6) (hl : ∀ i, i < l.length → l.getD i 0 < E.1.length) (hb : ∀ c x, bt' c x < 2 ^ 64) (u : ∀ c x y, (bt' c x).testBit y = true ↔ (bt c x).testBit y = true ∨ (c < 2 ∧ (∃ j, j < l.length ∧ x = l.getD j 0) ∧ (alN l l.length).testBit y = true)) : BtW (E.1 ++ [(P, l)], E.2.1, E.2.2) bt' := by
  have hlen : ∀ z : List Nat, (E.1 ++ [(P, z)]).length = E.1.length + 1 := fun z => by rw [List.length_append]; rfl
  refine ⟨hb, fun h64 => ?_⟩
  have h64 : (E.1 ++ [(P, l)]).length ≤ 64 := h64
  rw [hlen] at h64
  obtain ⟨g0, g1, g2⟩ := B.2 (by show (E.1 ++ [(P, [])]).length ≤ 64; rw [hlen]; exact h64)
  have on : ∀ x y, onB (E.1 ++ [(P, l)], E.2.1, E.2.2) x y ↔ onB (E.1 ++ [(P, [])], E.2.1, E.2.2) x y ∨ (x ∈ l ∧ y ∈ l) := fun x y => by
    rw [onB_pl (fun z => absurd h6 z), onB_pl (P := (P, [])) (fun z => absurd h6 z)]
    constructor
    · exact fun z => z.imp Or.inl id
    · rintro ((z | z) | z)
      · exact Or.inl z
      · exact absurd z.1 List.not_mem_nil
      · exact Or.inr z
  have al : ∀ y, (alN l l.length).testBit y = true ↔ y ∈ l := fun y => by
    rw [alN_bit (fun i hi => by have := hl i hi; omega) y l.length (Nat.le_refl _), mem_ex]
  refine ⟨fun x y => ?_, fun x y => ?_, fun x y => ?_⟩
  · rw [u, g0, on, al, ← mem_ex]
    exact ⟨fun z => z.imp id (fun z => z.2), fun z => z.imp id (fun z => ⟨by decide, z⟩)⟩
  · rw [u, g1, on, al, ← mem_ex]
    exact ⟨fun z => z.imp id (fun z => ⟨z.2.2, z.2.1⟩), fun z => z.imp id (fun z => ⟨by decide, z.2, z.1⟩)⟩
  · rw [u, g2]
    exact ⟨fun z => z.elim id (fun z => absurd z.1 (by decide)), Or.inl⟩
theorem AdC.uln' {h h' : sm_H} {ed lp ep : Nat} {pa : Nat → Nat} {ps : List Pl} {nw ns : Nat} {ln : Nat → Nat} {lk st : Nat → Prop} {bt : Nat → Nat → Nat} (x : AdC h h' ed lp ep pa ps nw ns ln lk st bt) (inj : ∀ i j, i < ps.length → j < ps.length → pa i = pa j → i = j) {a v : Nat} (ha : a < ps.length) : ∃ ln', (∀ k, ln' k = if k = a then v else ln k) ∧ AdC h (putF h' 776 (pa a) (.int (nI v))) ed lp ep pa ps nw ns ln' lk st bt := ⟨_, fun _ => rfl, x.uln inj ha⟩
theorem AdC.sl {h h' : sm_H} {ed lp ep : Nat} {pa : Nat → Nat} {ps : List Pl} {nw ns : Nat} {ln : Nat → Nat} {lk st : Nat → Prop} {bt : Nat → Nat → Nat} (x : AdC h h' ed lp ep pa ps nw ns ln lk st bt) {sp esp sn : Nat} {sf : Nat → Nat} (L : Lst h sp esp sn sf) : Lst h' sp esp sn sf := by
  obtain ⟨⟨x1, _⟩, _, x6, _, x8, x9, x10, x11, x12⟩ := x
  have sk : ∀ a c, hC h a = c → c ≠ 17 → c ≠ 22 → samA h h' a := fun a c hc n1 n2 => x12 a (kne hc ((x11 ed).symm.trans x1) n1) (fun k hk => kne hc ((x11 _).symm.trans (x6 k hk).1) n2)
  exact L.kp (sk sp 26 L.1 (by decide) (by decide)) (L.ke.elim (fun q => sk esp 14 q (by decide) (by decide)) (fun q => sk esp 7 q (by decide) (by decide))) (fun b _ _ _ => x11 b) x10 (Nat.le_of_eq x8.symm)
theorem c_addWay {h0 h : sm_H} {Q : Nat → Option Value → sm_H → Prop} {r sg sp ed len : Nat} {tx : Nat → Int32} {E : Ed} {s : Nat × Int32} {dT dU : Nat} (R : RS h0 h r sg sp ed len tx E s dT dU) {esp sn lp ep : Nat} {sf pa : Nat → Nat} {bt : Nat → Nat → Nat} (SL : Lst h sp esp sn sf ∧ (esp = hZ h ∨ hT h0 ≤ esp)) (X : EdF h ed lp ep pa bt E (fun _ => nI 0)) (O : EdO h (dR h0 h r sp esp) ed lp ep pa E) (hn : E.2.1.length < 2 ^ 12) {a b : Nat} {t : Bool} (ha : a < E.1.length) (hb : b < E.1.length) (hab : b ≠ a) (K : ∀ h', RS h0 h' r sg sp ed len tx (E.1, E.2.1 ++ [(a, b, t)], E.2.2) s dT dU → Q 0 none h') : sm_wp 19 0 [.ref ed, .ref (pa a), .ref (pa b), .int (nI t.toNat)] [] h Q := by
  have inj := O.2.2.2
  have Y := X.ad
  refine wp_pure k_19 rfl rfl ?_
  refine wp_pure k_19 rfl rfl ?_
  refine wp_get k_19 rfl Y.1.1 Y.1.2.2.1 ?_
  refine wp_kn k_19 rfl rfl ?_
  refine wp_addN k_19 rfl ?_
  refine wp_put k_19 rfl Y.1.1 rfl rfl ?_
  have Yw1 := Y.unw (v := E.2.1.length + 1)
  generalize putF h 129 ed (.int (nI (E.2.1.length + 1))) = hw1 at *
  refine wp_pure k_19 rfl rfl ?_
  refine wp_pure k_19 rfl rfl ?_
  refine wp_get k_19 rfl (Yw1.2.2.1 a ha).1 (Yw1.2.2.1 a ha).2.2.2.1 ?_
  refine wp_kn k_19 rfl rfl ?_
  refine wp_addN k_19 rfl ?_
  refine wp_put k_19 rfl (Yw1.2.2.1 a ha).1 rfl rfl ?_
  obtain ⟨ln2, el2, Yw2⟩ := Yw1.uln' inj ha (v := linE E a + 1)
  generalize putF hw1 776 (pa a) (.int (nI (linE E a + 1))) = hw2 at *
  refine wp_pure k_19 rfl rfl ?_
  refine wp_pure k_19 rfl rfl ?_
  refine wp_get k_19 rfl (Yw2.2.2.1 b hb).1 (Yw2.2.2.1 b hb).2.2.2.1 ?_
  refine wp_kn k_19 rfl rfl ?_
  refine wp_addN k_19 rfl ?_
  refine wp_put k_19 rfl (Yw2.2.2.1 b hb).1 rfl rfl ?_
  obtain ⟨ln3, el3, Yw3⟩ := Yw2.uln' inj hb (v := ln2 b + 1)
  generalize putF hw2 776 (pa b) (.int (nI (ln2 b + 1))) = hw3 at *
  refine wp_pure k_19 rfl rfl ?_
  refine wp_kn k_19 rfl rfl ?_
  refine wp_put k_19 rfl (Yw3.2.2.1 a ha).1 rfl rfl ?_
  have Yw4 := Yw3.ulk inj ha
  generalize putF hw3 777 (pa a) (.int (nI 1)) = hw4 at *
  refine wp_pure k_19 rfl rfl ?_
  refine wp_kn k_19 rfl rfl ?_
  refine wp_put k_19 rfl (Yw4.2.2.1 b hb).1 rfl rfl ?_
  have Yw5 := Yw4.ulk inj hb
  generalize putF hw4 777 (pa b) (.int (nI 1)) = hw5 at *
  refine wp_pure k_19 rfl rfl ?_
  refine wp_pure k_19 rfl rfl ?_
  refine wp_get k_19 rfl (Yw5.2.2.1 a ha).1 (Yw5.2.2.1 a ha).2.2.2.2.2.2.2.1 ?_
  refine wp_pure k_19 rfl rfl ?_
  refine wp_iv k_19 rfl [] rfl (Yw5.2.2.1 b hb).1 (r := [.long (lN (bt 0 a)), .ref (pa a)]) (Nat.le_of_ble_eq_true rfl) (Nat.le_of_ble_eq_true rfl) rfl ?_
  refine c_bit (Yw5.2.2.1 b hb).1 (Yw5.2.2.1 b hb).2.2.2.2.2.2.1 ⟨rfl, ?_⟩
  refine wp_lorN k_19 rfl (Yw5.2.2.2.1 _ _) (btN_lt _) ?_
  refine wp_put k_19 rfl (Yw5.2.2.1 a ha).1 rfl rfl ?_
  obtain ⟨bt6, eb6, Yw6⟩ := Yw5.b0 inj ha (v := bt 0 a ||| btN b) (Nat.or_lt_two_pow (Yw5.2.2.2.1 _ _) (btN_lt _))
  generalize putF hw5 780 (pa a) (.long (lN (bt 0 a ||| btN b))) = hw6 at *
  have ub6 := upd_bit eb6
  refine wp_pure k_19 rfl rfl ?_
  refine wp_pure k_19 rfl rfl ?_
  refine wp_get k_19 rfl (Yw6.2.2.1 b hb).1 (Yw6.2.2.1 b hb).2.2.2.2.2.2.2.2.1 ?_
  refine wp_pure k_19 rfl rfl ?_
  refine wp_iv k_19 rfl [] rfl (Yw6.2.2.1 a ha).1 (r := [.long (lN (bt6 1 b)), .ref (pa b)]) (Nat.le_of_ble_eq_true rfl) (Nat.le_of_ble_eq_true rfl) rfl ?_
  refine c_bit (Yw6.2.2.1 a ha).1 (Yw6.2.2.1 a ha).2.2.2.2.2.2.1 ⟨rfl, ?_⟩
  refine wp_lorN k_19 rfl (Yw6.2.2.2.1 _ _) (btN_lt _) ?_
  refine wp_put k_19 rfl (Yw6.2.2.1 b hb).1 rfl rfl ?_
  obtain ⟨bt7, eb7, Yw7⟩ := Yw6.b1 inj hb (v := bt6 1 b ||| btN a) (Nat.or_lt_two_pow (Yw6.2.2.2.1 _ _) (btN_lt _))
  generalize putF hw6 781 (pa b) (.long (lN (bt6 1 b ||| btN a))) = hw7 at *
  have ub7 := upd_bit eb7
  cases t with
  | false =>
    refine wp_pure k_19 rfl rfl ?_
    refine wp_br k_19 rfl rfl rfl rfl (fun _ => ?_) (fun z => absurd (show (nI 0 : Int32) = 0 by decide) z)
    exact wp_vrt k_19 rfl rfl (K _ (R.ad SL X O Yw7 (E' := (E.1, E.2.1 ++ [(a, b, false)], E.2.2)) rfl (fun _ _ _ => rfl) (by rw [List.length_append]; rfl) rfl (fun k hk => by
          rw [el3, el2, el2]
          show _ = linE (E.1, E.2.1 ++ [(a, b, false)], E.2.2) k
          rw [linE_way]
          by_cases q1 : k = b
          · rw [if_pos q1, if_neg hab, if_pos (Or.inr q1.symm), q1]
          · rw [if_neg q1]
            by_cases q2 : k = a
            · rw [if_pos q2, if_pos (Or.inl q2.symm), q2]
            · rw [if_neg q2, if_neg (fun z => z.elim (fun z => q2 z.symm) (fun z => q1 z.symm))]
              rfl) (fun k hk => by
          show ((lnkE E k ∨ k = a) ∨ k = b) ↔ lnkE (E.1, E.2.1 ++ [(a, b, false)], E.2.2) k
          rw [lnkE_way, or_assoc, eq_comm (a := k) (b := a), eq_comm (a := k) (b := b)]) (fun k hk => Iff.rfl) (X.2.2.2.way ha hb Yw7.2.2.2.1 (fun x y => by
          rw [ub7, ub6]
          exact ⟨fun z => z.elim (fun z => z.imp id (fun z => Or.inl z.2)) (fun z => by cases z.1), fun z => z.elim (fun z => Or.inl (Or.inl z)) (fun z => z.elim (fun z => Or.inl (Or.inr ⟨rfl, z⟩)) (fun z => by cases z.1))⟩) (fun x y => by
          rw [ub7, ub6]
          exact ⟨fun z => z.elim (fun z => z.imp id (fun z => by cases z.1)) (fun z => Or.inr (Or.inl z.2)), fun z => z.elim (fun z => Or.inl (Or.inl z)) (fun z => z.elim (fun z => Or.inr ⟨rfl, z⟩) (fun z => by cases z.1))⟩) (fun x y => by
          rw [ub7, ub6]
          exact ⟨fun z => z.elim (fun z => z.elim id (fun z => by cases z.1)) (fun z => by cases z.1), fun z => Or.inl (Or.inl z)⟩))))
  | true =>
    refine wp_pure k_19 rfl rfl ?_
    refine wp_br k_19 rfl rfl rfl rfl (fun z => absurd z (show ¬ ((nI 1 : Int32) = 0) by decide)) (fun _ => ?_)
    refine wp_pure k_19 rfl rfl ?_
    refine wp_pure k_19 rfl rfl ?_
    refine wp_get k_19 rfl (Yw7.2.2.1 b hb).1 (Yw7.2.2.1 b hb).2.2.2.2.2.2.2.1 ?_
    refine wp_pure k_19 rfl rfl ?_
    refine wp_iv k_19 rfl [] rfl (Yw7.2.2.1 a ha).1 (r := [.long (lN (bt7 0 b)), .ref (pa b)]) (Nat.le_of_ble_eq_true rfl) (Nat.le_of_ble_eq_true rfl) rfl ?_
    refine c_bit (Yw7.2.2.1 a ha).1 (Yw7.2.2.1 a ha).2.2.2.2.2.2.1 ⟨rfl, ?_⟩
    refine wp_lorN k_19 rfl (Yw7.2.2.2.1 _ _) (btN_lt _) ?_
    refine wp_put k_19 rfl (Yw7.2.2.1 b hb).1 rfl rfl ?_
    obtain ⟨bt8, eb8, Yw8⟩ := Yw7.b0 inj hb (v := bt7 0 b ||| btN a) (Nat.or_lt_two_pow (Yw7.2.2.2.1 _ _) (btN_lt _))
    generalize putF hw7 780 (pa b) (.long (lN (bt7 0 b ||| btN a))) = hw8 at *
    have ub8 := upd_bit eb8
    refine wp_pure k_19 rfl rfl ?_
    refine wp_pure k_19 rfl rfl ?_
    refine wp_get k_19 rfl (Yw8.2.2.1 a ha).1 (Yw8.2.2.1 a ha).2.2.2.2.2.2.2.2.1 ?_
    refine wp_pure k_19 rfl rfl ?_
    refine wp_iv k_19 rfl [] rfl (Yw8.2.2.1 b hb).1 (r := [.long (lN (bt8 1 a)), .ref (pa a)]) (Nat.le_of_ble_eq_true rfl) (Nat.le_of_ble_eq_true rfl) rfl ?_
    refine c_bit (Yw8.2.2.1 b hb).1 (Yw8.2.2.1 b hb).2.2.2.2.2.2.1 ⟨rfl, ?_⟩
    refine wp_lorN k_19 rfl (Yw8.2.2.2.1 _ _) (btN_lt _) ?_
    refine wp_put k_19 rfl (Yw8.2.2.1 a ha).1 rfl rfl ?_
    obtain ⟨bt9, eb9, Yw9⟩ := Yw8.b1 inj ha (v := bt8 1 a ||| btN b) (Nat.or_lt_two_pow (Yw8.2.2.2.1 _ _) (btN_lt _))
    generalize putF hw8 781 (pa a) (.long (lN (bt8 1 a ||| btN b))) = hw9 at *
    have ub9 := upd_bit eb9
    exact wp_vrt k_19 rfl rfl (K _ (R.ad SL X O Yw9 (E' := (E.1, E.2.1 ++ [(a, b, true)], E.2.2)) rfl (fun _ _ _ => rfl) (by rw [List.length_append]; rfl) rfl (fun k hk => by
          rw [el3, el2, el2]
          show _ = linE (E.1, E.2.1 ++ [(a, b, true)], E.2.2) k
          rw [linE_way]
          by_cases q1 : k = b
          · rw [if_pos q1, if_neg hab, if_pos (Or.inr q1.symm), q1]
          · rw [if_neg q1]
            by_cases q2 : k = a
            · rw [if_pos q2, if_pos (Or.inl q2.symm), q2]
            · rw [if_neg q2, if_neg (fun z => z.elim (fun z => q2 z.symm) (fun z => q1 z.symm))]
              rfl) (fun k hk => by
          show ((lnkE E k ∨ k = a) ∨ k = b) ↔ lnkE (E.1, E.2.1 ++ [(a, b, true)], E.2.2) k
          rw [lnkE_way, or_assoc, eq_comm (a := k) (b := a), eq_comm (a := k) (b := b)]) (fun k hk => Iff.rfl) (X.2.2.2.way ha hb Yw9.2.2.2.1 (fun x y => by
          rw [ub9, ub8, ub7, ub6]
          constructor
          · rintro ((((z | ⟨_, z⟩) | ⟨z, _⟩) | ⟨_, z⟩) | ⟨z, _⟩)
            · exact Or.inl z
            · exact Or.inr (Or.inl z)
            · cases z
            · exact Or.inr (Or.inr ⟨rfl, z⟩)
            · cases z
          · rintro (z | z | ⟨_, z⟩)
            · exact Or.inl (Or.inl (Or.inl (Or.inl z)))
            · exact Or.inl (Or.inl (Or.inl (Or.inr ⟨rfl, z⟩)))
            · exact Or.inl (Or.inr ⟨rfl, z⟩)) (fun x y => by
          rw [ub9, ub8, ub7, ub6]
          constructor
          · rintro ((((z | ⟨z, _⟩) | ⟨_, z⟩) | ⟨z, _⟩) | ⟨_, z⟩)
            · exact Or.inl z
            · cases z
            · exact Or.inr (Or.inl z)
            · cases z
            · exact Or.inr (Or.inr ⟨rfl, z⟩)
          · rintro (z | z | ⟨_, z⟩)
            · exact Or.inl (Or.inl (Or.inl (Or.inl z)))
            · exact Or.inl (Or.inl (Or.inr ⟨rfl, z⟩))
            · exact Or.inr ⟨rfl, z⟩) (fun x y => by
          rw [ub9, ub8, ub7, ub6]
          constructor
          · rintro ((((z | ⟨z, _⟩) | ⟨z, _⟩) | ⟨z, _⟩) | ⟨z, _⟩)
            · exact z
            · cases z
            · cases z
            · cases z
            · cases z
          · exact fun z => Or.inl (Or.inl (Or.inl (Or.inl z)))))))
theorem c_addServe {h0 h : sm_H} {Q : Nat → Option Value → sm_H → Prop} {r sg sp ed len : Nat} {tx : Nat → Int32} {E : Ed} {s : Nat × Int32} {dT dU : Nat} (R : RS h0 h r sg sp ed len tx E s dT dU) {esp sn lp ep : Nat} {sf pa : Nat → Nat} {bt : Nat → Nat → Nat} (SL : Lst h sp esp sn sf ∧ (esp = hZ h ∨ hT h0 ≤ esp)) (X : EdF h ed lp ep pa bt E (fun _ => nI 0)) (O : EdO h (dR h0 h r sp esp) ed lp ep pa E) (hn : E.2.2.length < 2 ^ 12) {a b : Nat} (ha : a < E.1.length) (hb : b < E.1.length) (K : ∀ h', RS h0 h' r sg sp ed len tx (E.1, E.2.1, E.2.2 ++ [(a, b)]) s dT dU → Q 0 none h') : sm_wp 21 0 [.ref ed, .ref (pa a), .ref (pa b)] [] h Q := by
  have inj := O.2.2.2
  have Y := X.ad
  refine wp_pure k_21 rfl rfl ?_
  refine wp_pure k_21 rfl rfl ?_
  refine wp_get k_21 rfl Y.1.1 Y.1.2.2.2 ?_
  refine wp_kn k_21 rfl rfl ?_
  refine wp_addN k_21 rfl ?_
  refine wp_put k_21 rfl Y.1.1 rfl rfl ?_
  have Yw1 := Y.uns (v := E.2.2.length + 1)
  generalize putF h 130 ed (.int (nI (E.2.2.length + 1))) = hw1 at *
  refine wp_pure k_21 rfl rfl ?_
  refine wp_pure k_21 rfl rfl ?_
  refine wp_get k_21 rfl (Yw1.2.2.1 a ha).1 (Yw1.2.2.1 a ha).2.2.2.1 ?_
  refine wp_kn k_21 rfl rfl ?_
  refine wp_addN k_21 rfl ?_
  refine wp_put k_21 rfl (Yw1.2.2.1 a ha).1 rfl rfl ?_
  obtain ⟨ln2, el2, Yw2⟩ := Yw1.uln' inj ha (v := linE E a + 1)
  generalize putF hw1 776 (pa a) (.int (nI (linE E a + 1))) = hw2 at *
  refine wp_pure k_21 rfl rfl ?_
  refine wp_pure k_21 rfl rfl ?_
  refine wp_get k_21 rfl (Yw2.2.2.1 a ha).1 (Yw2.2.2.1 a ha).2.2.2.2.2.2.2.2.2.1 ?_
  refine wp_pure k_21 rfl rfl ?_
  refine wp_iv k_21 rfl [] rfl (Yw2.2.2.1 b hb).1 (r := [.long (lN (bt 2 a)), .ref (pa a)]) (Nat.le_of_ble_eq_true rfl) (Nat.le_of_ble_eq_true rfl) rfl ?_
  refine c_bit (Yw2.2.2.1 b hb).1 (Yw2.2.2.1 b hb).2.2.2.2.2.2.1 ⟨rfl, ?_⟩
  refine wp_lorN k_21 rfl (Yw2.2.2.2.1 _ _) (btN_lt _) ?_
  refine wp_put k_21 rfl (Yw2.2.2.1 a ha).1 rfl rfl ?_
  obtain ⟨bt3, eb3, Yw3⟩ := Yw2.b2 inj ha (v := bt 2 a ||| btN b) (Nat.or_lt_two_pow (Yw2.2.2.2.1 _ _) (btN_lt _))
  generalize putF hw2 782 (pa a) (.long (lN (bt 2 a ||| btN b))) = hw3 at *
  have ub3 := upd_bit eb3
  exact wp_vrt k_21 rfl rfl (K _ (R.ad SL X O Yw3 (E' := (E.1, E.2.1, E.2.2 ++ [(a, b)])) rfl (fun _ _ _ => rfl) rfl (by rw [List.length_append]; rfl) (fun k hk => by
    rw [el2]
    show _ = linE (E.1, E.2.1, E.2.2 ++ [(a, b)]) k
    rw [linE_srv]
    by_cases q : k = a
    · rw [if_pos q, if_pos q.symm, q]
    · rw [if_neg q, if_neg (Ne.symm q)]
      rfl) (fun k hk => Iff.rfl) (fun k hk => Iff.rfl) (X.2.2.2.srv hb Yw3.2.2.2.1 ub3)))
