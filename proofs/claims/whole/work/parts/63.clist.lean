/-! THE CLASS's LISTS: java.util.ArrayList as it is used -/
theorem MR_0 : MR (fun _ => nI 0) (fun _ _ => nI 0) s0 := by
  refine ⟨⟨rfl, Nat.zero_le _, fun i hi => absurd hi (Nat.not_lt_zero i)⟩, ⟨rfl, by decide, by decide⟩, fun e ps he => ?_, fun k P hk => ?_, ⟨rfl, fun i a b t hi => by cases hi⟩, ⟨rfl, fun i a b hi => by cases hi⟩, by decide, ⟨rfl, by decide, fun i k hi => by cases hi⟩, ⟨rfl, by decide, fun i k hi => by cases hi⟩⟩
  · cases e with
    | zero => cases he; exact ⟨by decide, rfl, fun k P hk => by cases hk⟩
    | succ e => cases he
  · cases hk
/-- what has changed: of what was there only X; at most dT cells and dU slots are new -/
def Fr (h h' : sm_H) (X : Nat → Prop) (dT dU : Nat) : Prop := hT h ≤ hT h' ∧ hT h' ≤ hT h + dT ∧ hU h ≤ hU h' ∧ hU h' ≤ hU h + dU ∧ hZ h' = hZ h ∧ ∀ a, a < hT h → ¬ X a → samA h h' a
theorem Fr.refl (h : sm_H) (X : Nat → Prop) : Fr h h X 0 0 := ⟨Nat.le_refl _, Nat.le_refl _, Nat.le_refl _, Nat.le_refl _, rfl, fun a _ _ => samA.refl h a⟩
theorem Fr.trans {h h1 h2 : sm_H} {X Y Z : Nat → Prop} {a b c d e f : Nat} (x : Fr h h1 X a b) (y : Fr h1 h2 Y c d) (hX : ∀ q, q < hT h → X q → Z q) (hY : ∀ q, q < hT h → Y q → Z q) (he : a + c ≤ e) (hf : b + d ≤ f) : Fr h h2 Z e f := by
  obtain ⟨x1, x2, x3, x4, x5, x6⟩ := x
  obtain ⟨y1, y2, y3, y4, y5, y6⟩ := y
  exact ⟨by omega, by omega, by omega, by omega, y5.trans x5, fun q hq hz => (x6 q hq (fun w => hz (hX q hq w))).trans (y6 q (by omega) (fun w => hz (hY q hq w)))⟩
theorem Fr.mono {h h1 : sm_H} {X Z : Nat → Prop} {a b e f : Nat} (x : Fr h h1 X a b) (hX : ∀ q, q < hT h → X q → Z q) (he : a ≤ e) (hf : b ≤ f) : Fr h h1 Z e f := by
  obtain ⟨x1, x2, x3, x4, x5, x6⟩ := x
  exact ⟨x1, by omega, x3, by omega, x5, fun q hq hz => x6 q hq (fun w => hz (hX q hq w))⟩
theorem Fr.putF {h : sm_H} {f a : Nat} {v : Value} : Fr h (putF h f a v) (fun b => b = a) 0 0 := ⟨Nat.le_refl _, Nat.le_refl _, Nat.le_refl _, Nat.le_refl _, rfl, fun _ _ hb => samA.putF hb⟩
theorem Fr.putA {h : sm_H} {i a : Nat} {v : Value} : Fr h (putA h a i v) (fun b => b = a) 0 0 := ⟨Nat.le_refl _, Nat.le_refl _, Nat.le_refl _, Nat.le_refl _, rfl, fun _ _ hb => samA.putA hb⟩
theorem Fr.newO {h : sm_H} {ci n : Nat} {dv : Nat → Value} : Fr h (newO h ci n dv) (fun _ => False) 1 n := ⟨Nat.le_add_right _ _, Nat.le_refl _, Nat.le_add_right _ _, Nat.le_refl _, rfl, fun b hb _ => samA.newO (Nat.ne_of_lt hb)⟩
theorem Fr.newA {h : sm_H} {t n : Nat} {dv : Value} : Fr h (newA h t n dv) (fun _ => False) 1 n := ⟨Nat.le_add_right _ _, Nat.le_refl _, Nat.le_add_right _ _, Nat.le_refl _, rfl, fun b hb _ => samA.newA (Nat.ne_of_lt hb)⟩
theorem Fr.cpA {h : sm_H} {b n : Nat} : Fr h (cpA h b n) (fun _ => False) 1 n := ⟨Nat.le_add_right _ _, Nat.le_refl _, Nat.le_add_right _ _, Nat.le_refl _, rfl, fun b hb _ => samA.cpA (Nat.ne_of_lt hb)⟩
/-- a list at a, its array at e: n objects, the i-th at f i -/
def Lst (h : sm_H) (a e n : Nat) (f : Nat → Nat) : Prop := hC h a = 26 ∧ hF h 1281 a = .int (nI n) ∧ (∃ q, hF h 1282 a = .int q) ∧ hF h 1280 a = .ref e ∧ n < 2 ^ 16 ∧ a < hT h ∧ e < hT h ∧
  ((e = hZ h ∧ hC h e = 14 ∧ nI (hL h e) = 0 ∧ n = 0) ∨ (hC h e = 7 ∧ 0 < hL h e ∧ hL h e < 2 ^ 18 ∧ n ≤ hL h e ∧ ∀ i, n ≤ i → i < hL h e → hA h e i = .null)) ∧ ∀ i, i < n → hA h e i = .ref (f i) ∧ 16 ≤ hC h (f i) ∧ hC h (f i) < 26 ∧ f i < hT h
theorem Lst.same {h h' : sm_H} {a e n : Nat} {f : Nat → Nat} (l : Lst h a e n f) (h1 : samA h h' a) (h2 : samA h h' e) (h3 : ∀ i, i < n → hC h' (f i) = hC h (f i)) (hz : hZ h' = hZ h) (ht : hT h ≤ hT h') : Lst h' a e n f := by
  obtain ⟨l1, l2, l3, l4, l5, l6, l7, l8, l9⟩ := l
  obtain ⟨a1, a2, a3, a4⟩ := h1
  obtain ⟨e1, e2, e3, e4⟩ := h2
  refine ⟨a1.trans l1, (a3 _).trans l2, ⟨l3.choose, (a3 _).trans l3.choose_spec⟩, (a3 _).trans l4, l5, by omega, by omega, ?_, fun i hi => ⟨(e4 i).trans (l9 i hi).1, by rw [h3 i hi]; exact (l9 i hi).2.1, by rw [h3 i hi]; exact (l9 i hi).2.2.1, by have := (l9 i hi).2.2.2; omega⟩⟩
  rcases l8 with ⟨q1, q2, q3, q4⟩ | ⟨q1, q2, q3, q4, q5⟩
  · exact Or.inl ⟨q1.trans hz.symm, e1.trans q2, by rw [e2]; exact q3, q4⟩
  · exact Or.inr ⟨e1.trans q1, by rw [e2]; exact q2, by rw [e2]; exact q3, by rw [e2]; exact q4, fun i h1 h2 => (e4 i).trans (q5 i h1 (by rw [← e2]; exact h2))⟩
theorem c_size {h : sm_H} {a e n : Nat} {f : Nat → Nat} {Q : Nat → Option Value → sm_H → Prop} (l : Lst h a e n f) (k : Q 0 (some (.int (nI n))) h) : sm_wp 149 0 [.ref a] [] h Q := s_size l.1 l.2.1 k
theorem c_get {h : sm_H} {a e n i : Nat} {f : Nat → Nat} {Q : Nat → Option Value → sm_H → Prop} (l : Lst h a e n f) (hi : i < n) (k : Q 0 (some (.ref (f i))) h) : sm_wp 150 0 [.ref a, .int (nI i)] [] h Q := by
  obtain ⟨h1, h2, h3, h4, h5, h6, h7, h8, h9⟩ := l
  have hk : hC h e = 7 ∧ n ≤ hL h e ∧ hL h e < 2 ^ 18 := by
    rcases h8 with ⟨_, _, _, q⟩ | ⟨q, _, q3, q4, _⟩
    · omega
    · exact ⟨q, q4, q3⟩
  refine wp_pure k_150 rfl rfl ?_
  refine wp_pure k_150 rfl rfl ?_
  refine wp_get k_150 rfl h1 h2 ?_
  refine wp_is k_150 rfl (by decide) [.int (nI i), .int (nI n)] rfl (r := []) (by decide) (Nat.le_of_ble_eq_true rfl) rfl ?_
  refine s_oci hi (by omega) ⟨rfl, ?_⟩
  refine wp_pure k_150 rfl rfl ?_
  refine wp_pure k_150 rfl rfl ?_
  refine wp_pure k_150 rfl rfl ?_
  refine wp_iv k_150 rfl [.int (nI i)] rfl h1 (r := []) (by decide) (Nat.le_of_ble_eq_true rfl) rfl ?_
  refine wp_pure k_151 rfl rfl ?_
  refine wp_get k_151 rfl h1 h4 ?_
  refine wp_pure k_151 rfl rfl ?_
  refine wp_aald k_151 rfl (by rw [hk.1]; rfl) (by omega) (by omega) (h9 i hi).1 ?_
  refine wp_rt k_151 rfl rfl rfl rfl rfl rfl rfl ⟨rfl, ?_⟩
  exact wp_rt k_150 rfl rfl rfl rfl rfl rfl rfl k
/-- a new list -/
theorem c_initL {h : sm_H} {a : Nat} {Q : Nat → Option Value → sm_H → Prop} (hc : hC h a = 26) (hs : hF h 1281 a = .int (nI 0)) (ha : a < hT h) (hz1 : hC h (hZ h) = 14) (hz2 : nI (hL h (hZ h)) = 0) (hz3 : hZ h < hT h) (k : ∀ h' f, Lst h' a (hZ h') 0 f → Fr h h' (fun b => b = a) 0 0 → Q 0 none h') : sm_wp 144 0 [.ref a] [] h Q := by
  have hza : hZ h ≠ a := fun e => by rw [e, hc] at hz1; cases hz1
  refine wp_pure k_144 rfl rfl ?_
  refine wp_ic k_144 rfl (by decide) [] rfl (r := []) (Nat.le_of_ble_eq_true rfl) (Nat.le_of_ble_eq_true rfl) rfl ?_
  refine wp_pure k_153 rfl rfl ?_
  refine wp_ic k_153 rfl (by decide) [] rfl (r := []) (Nat.le_of_ble_eq_true rfl) (Nat.le_of_ble_eq_true rfl) rfl ?_
  refine wp_pure k_154 rfl rfl ?_
  refine wp_obj k_154 rfl (Nat.le_of_ble_eq_true rfl) ?_
  refine wp_vrt k_154 rfl rfl ⟨rfl, ?_⟩
  refine wp_pure k_153 rfl rfl ?_
  refine wp_kn k_153 rfl rfl ?_
  refine wp_put k_153 rfl hc rfl rfl ?_
  refine wp_vrt k_153 rfl rfl ⟨rfl, ?_⟩
  refine wp_pure k_144 rfl rfl ?_
  refine wp_gs k_144 rfl ?_
  refine wp_put k_144 rfl hc rfl rfl ?_
  refine wp_vrt k_144 rfl rfl (k _ (fun _ => 0) ⟨hc, ?_, ⟨nI 0, ?_⟩, hF_putF, by decide, ha, hz3, Or.inl ⟨rfl, hz1, hz2, rfl⟩, fun i hi => absurd hi (Nat.not_lt_zero i)⟩ (Fr.trans Fr.putF Fr.putF (fun _ _ q => q) (fun _ _ q => q) (Nat.le_refl _) (Nat.le_refl _)))
  · exact (hF_putF_f (by decide)).trans ((hF_putF_f (by decide)).trans hs)
  · exact (hF_putF_f (by decide)).trans hF_putF
theorem c_newLen {h : sm_H} {Q : Nat → Option Value → sm_H → Prop} {c : Nat} (hc : 1 ≤ c) (hc2 : c < 2 ^ 18) (k : Q 0 (some (.int (nI (c + max 1 (c / 2))))) h) : sm_wp 155 0 [.int (nI c), .int (nI 1), .int (nI (c / 2)), jk] [] h Q := by
  have e : (if nI 1 < nI (c / 2) then nI (c / 2) else nI 1) = nI (max 1 (c / 2)) := by
    by_cases q : 1 < c / 2
    · rw [if_pos ((nI_ltI (by decide) (by omega)).mpr q)]; congr 1; omega
    · rw [if_neg (fun z => q ((nI_ltI (by decide) (by omega)).mp z))]; congr 1; omega
  refine wp_pure k_155 rfl rfl ?_
  refine wp_pure k_155 rfl rfl ?_
  refine wp_pure k_155 rfl rfl ?_
  refine wp_mm k_155 rfl rfl ?_
  show sm_wp 155 6 [.int (nI c), .int (nI 1), .int (nI (c / 2)), jk] [.int (if nI 1 < nI (c / 2) then nI (c / 2) else nI 1), .int (nI c)] h Q
  rw [e]
  refine wp_addN k_155 rfl ?_
  refine wp_pure k_155 rfl rfl ?_
  refine wp_kn k_155 rfl rfl ?_
  refine wp_pure k_155 rfl rfl ?_
  refine wp_br k_155 rfl rfl rfl rfl (fun z => absurd ((nI_leI (a := c + max 1 (c / 2)) (b := 0) (by omega) (by decide)).mp z) (by omega)) (fun _ => ?_)
  refine wp_pure k_155 rfl rfl ?_
  refine wp_ldc k_155 rfl ?_
  refine wp_br k_155 rfl rfl rfl rfl (fun z => absurd ((nI_ltI (a := 2147483639) (b := c + max 1 (c / 2)) (by decide) (by omega)).mp z) (by omega)) (fun _ => ?_)
  refine wp_pure k_155 rfl rfl ?_
  exact wp_irt k_155 rfl rfl rfl k
/-- the array grows: the new one lies at the heap's end -/
theorem c_grow {h : sm_H} {a e n : Nat} {f : Nat → Nat} {Q : Nat → Option Value → sm_H → Prop} (l : Lst h a e n f) (hn : n < 2 ^ 14) (hfull : nI n = nI (hL h e)) (k : ∀ h', Lst h' a (hT h) n f → n < hL h' (hT h) → hC h' (hT h) = 7 → Fr h h' (fun b => b = a) 1 (2 * n + 14) → Q 0 (some (.ref (hT h))) h') : sm_wp 148 0 [.ref a, .int (nI (n + 1)), jk, jk] [] h Q := by
  obtain ⟨l1, l2, l3, l4, l5, l6, l7, l8, l9⟩ := l
  have haT : a ≠ hT h := by omega
  have heT : e ≠ hT h := by omega
  rcases l8 with ⟨q1, q2, q3, q4⟩ | ⟨q1, q2, q3, q4, q5⟩
  · subst q4
    refine wp_pure k_148 rfl rfl ?_
    refine wp_get k_148 rfl l1 l4 ?_
    refine wp_len k_148 rfl (by rw [q2]; rfl) rfl ?_
    refine wp_pure k_148 rfl rfl ?_
    refine wp_pure k_148 rfl rfl ?_
    refine wp_br k_148 rfl rfl rfl rfl (fun z => absurd z (by show ¬ (0 : Int32) < nI (hL h e); rw [q3]; decide)) (fun _ => ?_)
    refine wp_pure k_148 rfl rfl ?_
    refine wp_get k_148 rfl l1 l4 ?_
    refine wp_gs k_148 rfl ?_
    refine wp_br k_148 rfl rfl rfl rfl (fun _ => ?_) (fun z => absurd (by rw [q1]) z)
    refine wp_pure k_148 rfl rfl ?_
    refine wp_kn k_148 rfl rfl ?_
    refine wp_pure k_148 rfl rfl ?_
    refine wp_mm k_148 rfl rfl ?_
    show sm_wp 148 52 [.ref a, .int (nI 1), .int (nI (hL h e)), jk] [.int (nI 10), .ref a] h Q
    refine wp_hp k_148 rfl rfl rfl rfl rfl (S' := [.ref (hT h), .ref a]) (h' := newA h 7 10 .null) rfl ?_
    refine wp_pure k_148 rfl rfl ?_
    refine wp_put k_148 rfl ((if_neg haT).trans l1) rfl rfl ?_
    refine wp_rt k_148 rfl rfl rfl rfl rfl rfl rfl (k _ ⟨(if_neg haT).trans l1, (hF_putF_f (by decide)).trans l2, ⟨l3.choose, (hF_putF_f (by decide)).trans l3.choose_spec⟩, hF_putF, l5, Nat.lt_succ_of_lt l6, Nat.lt_succ_self _, Or.inr ⟨if_pos rfl, ?_, ?_, Nat.zero_le _, fun i _ _ => if_pos rfl⟩, fun i hi => absurd hi (Nat.not_lt_zero i)⟩ ?_ (if_pos rfl) (Fr.trans Fr.newA Fr.putF (fun _ _ q => q.elim) (fun _ _ q => q) (by decide) (by decide)))
    · show 0 < (if hT h = hT h then 10 else hL h (hT h)); rw [if_pos rfl]; decide
    · show (if hT h = hT h then 10 else hL h (hT h)) < 2 ^ 18; rw [if_pos rfl]; decide
    · show 0 < (if hT h = hT h then 10 else hL h (hT h)); rw [if_pos rfl]; decide
  · have hc : hL h e = n := ((nI_eq (by omega) (by omega)).mp hfull).symm
    have hn1 : 1 ≤ n := by omega
    have esub : nI (n + 1) - nI n = nI 1 := by rw [nI_sub (by omega)]; congr 1; omega
    have eshr : nI n >>> (nI 1 &&& 31) = nI (n / 2) := by rw [pk_shrN (by omega) _ 1 (by decide)]
    refine wp_pure k_148 rfl rfl ?_
    refine wp_get k_148 rfl l1 l4 ?_
    refine wp_len k_148 rfl (by rw [q1]; rfl) hc ?_
    refine wp_pure k_148 rfl rfl ?_
    refine wp_pure k_148 rfl rfl ?_
    refine wp_br k_148 rfl rfl rfl rfl (fun _ => ?_) (fun z => absurd ((nI_ltI (a := 0) (b := n) (by decide) (by omega)).mpr hn1) z)
    refine wp_pure k_148 rfl rfl ?_
    refine wp_pure k_148 rfl rfl ?_
    refine wp_pure k_148 rfl rfl ?_
    refine wp_isub k_148 rfl ?_
    rw [esub]
    refine wp_pure k_148 rfl rfl ?_
    refine wp_kn k_148 rfl rfl ?_
    refine wp_pure k_148 rfl rfl ?_
    show sm_wp 148 27 [.ref a, .int (nI (n + 1)), .int (nI n), jk] [.int (nI n >>> (nI 1 &&& 31)), .int (nI 1), .int (nI n)] h Q
    rw [eshr]
    refine wp_is k_148 rfl (by decide) [.int (nI n), .int (nI 1), .int (nI (n / 2))] rfl (r := []) (by decide) (Nat.le_of_ble_eq_true rfl) rfl ?_
    refine c_newLen hn1 (by omega) ⟨rfl, ?_⟩
    refine wp_pure k_148 rfl rfl ?_
    refine wp_pure k_148 rfl rfl ?_
    refine wp_pure k_148 rfl rfl ?_
    refine wp_get k_148 rfl l1 l4 ?_
    refine wp_pure k_148 rfl rfl ?_
    have hcl := nI_clamp (n := n + max 1 (n / 2)) (by omega)
    have hcp : cpC (0, 6) h e (nI (n + max 1 (n / 2))) [.ref a] := ⟨rfl, q1, nI_pos (by omega), by rw [hcl]; omega, by rw [hcl]; omega, Nat.le_of_ble_eq_true rfl, fun i hi => Or.inr ⟨f i, (l9 i (by omega)).1, (l9 i (by omega)).2.1, by have := (l9 i (by omega)).2.2.1; show hC h (f i) < 26; exact this⟩⟩
    refine wp_ex k_148 rfl rfl (S' := [.ref (hT h), .ref a]) (h' := cpA h e (nI (n + max 1 (n / 2))).toNatClampNeg) (if_pos hcp) ?_
    rw [hcl]
    refine wp_pure k_148 rfl rfl ?_
    refine wp_put k_148 rfl ((if_neg haT).trans l1) rfl rfl ?_
    have hC' : ∀ b, b ≠ hT h → hC (putF (cpA h e (n + max 1 (n / 2))) 1280 a (.ref (hT h))) b = hC h b := fun b hb => if_neg hb
    refine wp_rt k_148 rfl rfl rfl rfl rfl rfl rfl (k _ ⟨(if_neg haT).trans l1, (hF_putF_f (by decide)).trans l2, ⟨l3.choose, (hF_putF_f (by decide)).trans l3.choose_spec⟩, hF_putF, l5, Nat.lt_succ_of_lt l6, Nat.lt_succ_self _, Or.inr ⟨if_pos rfl, ?_, ?_, ?_, fun i h1 h2 => ?_⟩, fun i hi => ?_⟩ ?_ (if_pos rfl) (Fr.trans Fr.cpA Fr.putF (fun _ _ q => q.elim) (fun _ _ q => q) (by decide) (by omega)))
    · show 0 < (if hT h = hT h then n + max 1 (n / 2) else hL h (hT h)); rw [if_pos rfl]; omega
    · show (if hT h = hT h then n + max 1 (n / 2) else hL h (hT h)) < 2 ^ 18; rw [if_pos rfl]; omega
    · show n ≤ (if hT h = hT h then n + max 1 (n / 2) else hL h (hT h)); rw [if_pos rfl]; omega
    · show (if hT h = hT h then (if i < hL h e then hA h e i else .null) else hA h (hT h) i) = .null
      rw [if_pos rfl, if_neg (by omega)]
    · have hne : f i ≠ hT h := by have := (l9 i hi).2.2.2; omega
      refine ⟨?_, by rw [hC' _ hne]; exact (l9 i hi).2.1, by rw [hC' _ hne]; exact (l9 i hi).2.2.1, Nat.lt_succ_of_lt (l9 i hi).2.2.2⟩
      show (if hT h = hT h then (if i < hL h e then hA h e i else .null) else hA h (hT h) i) = .ref (f i)
      rw [if_pos rfl, if_pos (by omega)]
      exact (l9 i hi).1
    · show n < (if hT h = hT h then n + max 1 (n / 2) else hL h (hT h)); rw [if_pos rfl]; omega
/-- one more: the array is the old one, or a new one at the heap's end -/
theorem c_add {h : sm_H} {a e n x : Nat} {f : Nat → Nat} {Q : Nat → Option Value → sm_H → Prop} (l : Lst h a e n f) (hn : n < 2 ^ 14) (hx1 : 16 ≤ hC h x) (hx2 : hC h x < 26) (hx3 : x < hT h) (k : ∀ h' e', Lst h' a e' (n + 1) (fun i => if i = n then x else f i) → (e' = e ∧ hC h e = 7 ∨ e' = hT h) → Fr h h' (fun b => b = a ∨ (b = e ∧ hC h e = 7)) 1 (2 * n + 14) → Q 0 (some (.int (nI 1))) h') : sm_wp 145 0 [.ref a, .ref x] [] h Q := by
  obtain ⟨l1, l2, l3, l4, l5, l6, l7, l8, l9⟩ := id l
  obtain ⟨mc, hmc⟩ := l3
  have hxa : x ≠ a := fun z => by rw [z, l1] at hx2; omega
  have hea : e ≠ a := fun z => by
    rcases l8 with ⟨_, q, _⟩ | ⟨q, _⟩ <;> rw [z, l1] at q <;> cases q
  refine wp_pure k_145 rfl rfl ?_
  refine wp_pure k_145 rfl rfl ?_
  refine wp_get k_145 rfl l1 hmc ?_
  refine wp_kn k_145 rfl rfl ?_
  refine wp_iadd k_145 rfl ?_
  refine wp_put k_145 rfl l1 rfl rfl ?_
  generalize hh1 : putF h (128 * 10 + 4 / 2) a (.int (mc + nI 1)) = h1
  have f1 : Fr h h1 (fun b => b = a) 0 0 := by rw [← hh1]; exact Fr.putF
  have T1 : hT h1 = hT h := by rw [← hh1]; rfl
  have C1 : ∀ b, hC h1 b = hC h b := fun b => by rw [← hh1]; rfl
  have L1 : ∀ b, hL h1 b = hL h b := fun b => by rw [← hh1]; rfl
  have A1 : ∀ b i, hA h1 b i = hA h b i := fun b i => by rw [← hh1]; rfl
  have Z1 : hZ h1 = hZ h := by rw [← hh1]; rfl
  have F1 : ∀ g, g ≠ 1282 → hF h1 g a = hF h g a := fun g hg => by rw [← hh1]; exact hF_putF_f hg
  have l' : Lst h1 a e n f := by
    refine ⟨(C1 a).trans l1, (F1 1281 (by decide)).trans l2, ⟨mc + nI 1, by rw [← hh1]; exact hF_putF⟩, (F1 1280 (by decide)).trans l4, l5, by omega, by omega, ?_, fun i hi => ⟨(A1 e i).trans (l9 i hi).1, by rw [C1]; exact (l9 i hi).2.1, by rw [C1]; exact (l9 i hi).2.2.1, by rw [T1]; exact (l9 i hi).2.2.2⟩⟩
    rcases l8 with ⟨q1, q2, q3, q4⟩ | ⟨q1, q2, q3, q4, q5⟩
    · exact Or.inl ⟨q1.trans Z1.symm, (C1 e).trans q2, by rw [L1]; exact q3, q4⟩
    · exact Or.inr ⟨(C1 e).trans q1, by rw [L1]; exact q2, by rw [L1]; exact q3, by rw [L1]; exact q4, fun i a b => by rw [A1]; exact q5 i a (by rw [← L1]; exact b)⟩
  refine wp_pure k_145 rfl rfl ?_
  refine wp_pure k_145 rfl rfl ?_
  refine wp_pure k_145 rfl rfl ?_
  refine wp_get k_145 rfl l'.1 l'.2.2.2.1 ?_
  refine wp_pure k_145 rfl rfl ?_
  refine wp_get k_145 rfl l'.1 l'.2.1 ?_
  refine wp_iv k_145 rfl [.ref x, .ref e, .int (nI n)] rfl l'.1 (r := []) (by decide) (Nat.le_of_ble_eq_true rfl) rfl ?_
  have key : ∀ h2 e', Lst h2 a e' n f → hC h2 e' = 7 → n < hL h2 e' → e' ≠ a → (e' = e ∧ hC h e = 7 ∨ e' = hT h) → hC h2 x = hC h x → Fr h h2 (fun b => b = a) 1 (2 * n + 14) → sm_wp 146 11 [.ref a, .ref x, .ref e', .int (nI n)] [] h2 (fun k v h' => k = 0 ∧ sm_wp 145 23 [.ref a, .ref x] (v.toList ++ []) h' Q) := by
    intro h2 e' l2' c2 b2 ne' w fx fr
    obtain ⟨m1, m2, m3, m4, m5, m6, m7, m8, m9⟩ := l2'
    have m8' : hL h2 e' < 2 ^ 18 ∧ ∀ i, n ≤ i → i < hL h2 e' → hA h2 e' i = .null := by
      rcases m8 with ⟨_, q, _⟩ | ⟨_, _, q, _, q5⟩
      · rw [c2] at q; cases q
      · exact ⟨q, q5⟩
    refine wp_pure k_146 rfl rfl ?_
    refine wp_pure k_146 rfl rfl ?_
    refine wp_pure k_146 rfl rfl ?_
    refine wp_aast k_146 rfl c2 b2 (by omega) (by rw [fx]; exact ⟨hx1, hx2⟩) ?_
    refine wp_pure k_146 rfl rfl ?_
    refine wp_pure k_146 rfl rfl ?_
    refine wp_kn k_146 rfl rfl ?_
    refine wp_addN k_146 rfl ?_
    refine wp_put k_146 rfl m1 rfl rfl ?_
    refine wp_vrt k_146 rfl rfl ⟨rfl, ?_⟩
    refine wp_kn k_145 rfl rfl ?_
    refine wp_irt k_145 rfl rfl rfl (k _ e' ⟨m1, hF_putF, ⟨m3.choose, (hF_putF_f (by decide)).trans m3.choose_spec⟩, (hF_putF_f (by decide)).trans m4, by omega, m6, m7, Or.inr ⟨c2, by show 0 < hL h2 e'; omega, m8'.1, by show n + 1 ≤ hL h2 e'; omega, fun i p q => (hA_putA_i (by omega)).trans (m8'.2 i (by omega) q)⟩, fun i hi => ?_⟩ w ?_)
    · dsimp only
      by_cases q : i = n
      · rw [q, if_pos rfl]
        exact ⟨hA_putA, by show 16 ≤ hC h2 x; rw [fx]; exact hx1, by show hC h2 x < 26; rw [fx]; exact hx2, by show x < hT h2; have := fr.1; omega⟩
      · rw [if_neg q]
        exact ⟨(hA_putA_i q).trans (m9 i (by omega)).1, (m9 i (by omega)).2.1, (m9 i (by omega)).2.2.1, (m9 i (by omega)).2.2.2⟩
    · refine fr.trans (Fr.trans Fr.putA Fr.putF (Z := fun b => b = e' ∨ b = a) (fun _ _ q => Or.inl q) (fun _ _ q => Or.inr q) (Nat.le_refl _) (Nat.le_refl _)) (fun _ _ q => Or.inl q) (fun b hb q => ?_) (by omega) (by omega)
      rcases q with q | q
      · rcases w with w | w
        · exact Or.inr ⟨by rw [q, w.1], w.2⟩
        · omega
      · exact Or.inl q
  by_cases hful : nI n = nI (hL h1 e)
  · refine wp_pure k_146 rfl rfl ?_
    refine wp_pure k_146 rfl rfl ?_
    refine wp_len k_146 rfl (by rcases l'.2.2.2.2.2.2.2.1 with ⟨_, q, _⟩ | ⟨q, _⟩ <;> rw [q] <;> rfl) rfl ?_
    refine wp_br k_146 rfl rfl rfl rfl (fun z => absurd hful z) (fun _ => ?_)
    refine wp_pure k_146 rfl rfl ?_
    refine wp_iv k_146 rfl [] rfl l'.1 (r := []) (by decide) (Nat.le_of_ble_eq_true rfl) rfl ?_
    refine wp_pure k_147 rfl rfl ?_
    refine wp_pure k_147 rfl rfl ?_
    refine wp_get k_147 rfl l'.1 l'.2.1 ?_
    refine wp_kn k_147 rfl rfl ?_
    refine wp_addN k_147 rfl ?_
    refine wp_iv k_147 rfl [.int (nI (n + 1))] rfl l'.1 (r := []) (by decide) (Nat.le_of_ble_eq_true rfl) rfl ?_
    refine c_grow l' hn hful (fun h2 l2 b2 c2 fr2 => ⟨rfl, ?_⟩)
    refine wp_rt k_147 rfl rfl rfl rfl rfl rfl rfl ⟨rfl, ?_⟩
    refine wp_pure k_146 rfl rfl ?_
    rw [T1] at l2 b2 c2 ⊢
    exact key h2 (hT h) l2 c2 b2 (by omega) (Or.inr rfl) (((fr2.2.2.2.2.2 x (by omega) hxa).1).trans (C1 x)) (f1.trans fr2 (fun _ _ q => q) (fun _ _ q => q) (by omega) (by omega))
  · have c7 : hC h1 e = 7 ∧ n < hL h1 e := by
      rcases l'.2.2.2.2.2.2.2.1 with ⟨_, _, q, q4⟩ | ⟨q, _, q3, q4, _⟩
      · exact absurd (by rw [q, q4]; rfl) hful
      · refine ⟨q, ?_⟩
        have : n ≠ hL h1 e := fun z => hful (by rw [z])
        omega
    refine wp_pure k_146 rfl rfl ?_
    refine wp_pure k_146 rfl rfl ?_
    refine wp_len k_146 rfl (by rw [c7.1]; rfl) rfl ?_
    refine wp_br k_146 rfl rfl rfl rfl (fun _ => ?_) (fun z => absurd hful z)
    exact key h1 e l' c7.1 c7.2 hea (Or.inl ⟨rfl, by rw [← C1]; exact c7.1⟩) (C1 x) (f1.mono (fun _ _ q => q) (by omega) (by omega))
/-- emptied -/
theorem c_clear {h : sm_H} {a e n : Nat} {f : Nat → Nat} {Q : Nat → Option Value → sm_H → Prop} (l : Lst h a e n f) (k : ∀ h' f', Lst h' a e 0 f' → Fr h h' (fun b => b = a ∨ (b = e ∧ hC h e = 7)) 0 0 → Q 0 none h') : sm_wp 152 0 [.ref a, jk, jk, jk] [] h Q := by
  obtain ⟨l1, l2, l3, l4, l5, l6, l7, l8, l9⟩ := id l
  obtain ⟨mc, hmc⟩ := l3
  have hea : e ≠ a := fun z => by
    rcases l8 with ⟨_, q, _⟩ | ⟨q, _⟩ <;> rw [z, l1] at q <;> cases q
  refine wp_pure k_152 rfl rfl ?_
  refine wp_pure k_152 rfl rfl ?_
  refine wp_get k_152 rfl l1 hmc ?_
  refine wp_kn k_152 rfl rfl ?_
  refine wp_iadd k_152 rfl ?_
  refine wp_put k_152 rfl l1 rfl rfl ?_
  refine wp_pure k_152 rfl rfl ?_
  refine wp_get k_152 rfl l1 ((hF_putF_f (by decide)).trans l4) ?_
  refine wp_pure k_152 rfl rfl ?_
  refine wp_pure k_152 rfl rfl ?_
  refine wp_get k_152 rfl l1 ((hF_putF_f (by decide)).trans l2) ?_
  refine wp_pure k_152 rfl rfl ?_
  refine wp_pure k_152 rfl rfl ?_
  refine wp_kn k_152 rfl rfl ?_
  refine wp_pure k_152 rfl rfl ?_
  refine wp_put k_152 rfl l1 rfl rfl ?_
  refine wp_pure k_152 rfl rfl ?_
  generalize hh1 : putF (putF h (128 * 10 + 4 / 2) a (.int (mc + nI 1))) (128 * 10 + 2 / 2) a (.int (nI 0)) = h1
  have f1 : Fr h h1 (fun b => b = a) 0 0 := by rw [← hh1]; exact Fr.trans Fr.putF Fr.putF (fun _ _ q => q) (fun _ _ q => q) (Nat.le_refl _) (Nat.le_refl _)
  have C1 : ∀ b, hC h1 b = hC h b := fun b => by rw [← hh1]; rfl
  have L1 : ∀ b, hL h1 b = hL h b := fun b => by rw [← hh1]; rfl
  have A1 : ∀ b i, hA h1 b i = hA h b i := fun b i => by rw [← hh1]; rfl
  have Z1 : hZ h1 = hZ h := by rw [← hh1]; rfl
  have T1 : hT h1 = hT h := by rw [← hh1]; rfl
  have F0 : hF h1 1281 a = .int (nI 0) := by rw [← hh1]; exact hF_putF
  have F2 : hF h1 1282 a = .int (mc + nI 1) := by rw [← hh1]; exact (hF_putF_f (by decide)).trans hF_putF
  have F3 : hF h1 1280 a = .ref e := by rw [← hh1]; exact (hF_putF_f (by decide)).trans ((hF_putF_f (by decide)).trans l4)
  rcases l8 with ⟨q1, q2, q3, q4⟩ | ⟨q1, q2, q3, q4, q5⟩
  · subst q4
    refine wp_pure k_152 rfl rfl ?_
    refine wp_pure k_152 rfl rfl ?_
    refine wp_br k_152 rfl rfl rfl rfl (fun _ => ?_) (fun z => absurd (Int32.le_refl _) z)
    exact wp_vrt k_152 rfl rfl (k _ f ⟨(C1 a).trans l1, F0, ⟨_, F2⟩, F3, by decide, by omega, by omega, Or.inl ⟨q1.trans Z1.symm, (C1 e).trans q2, by rw [L1]; exact q3, rfl⟩, fun i hi => absurd hi (Nat.not_lt_zero i)⟩ (f1.mono (fun _ _ q => Or.inl q) (Nat.le_refl _) (Nat.le_refl _)))
  · refine dn (n := n) (P := fun i => ∀ h2, hC h2 a = 26 → hF h2 1281 a = .int (nI 0) → hF h2 1282 a = .int (mc + nI 1) → hF h2 1280 a = .ref e → hC h2 e = 7 → hL h2 e = hL h e → (∀ j, j < i → hA h2 e j = .null) → (∀ j, n ≤ j → j < hL h e → hA h2 e j = .null) → Fr h h2 (fun b => b = a ∨ (b = e ∧ hC h e = 7)) 0 0 → sm_wp 152 27 [.ref a, .ref e, .int (nI n), .int (nI i)] [] h2 Q) ?_ ?_ 0 (Nat.zero_le _) h1 ((C1 a).trans l1) F0 F2 F3 ((C1 e).trans q1) (L1 e) (fun j hj => absurd hj (Nat.not_lt_zero j)) (fun j p q => (A1 e j).trans (q5 j p q)) (f1.mono (fun _ _ q => Or.inl q) (Nat.le_refl _) (Nat.le_refl _))
    · intro h2 c1 c2 c3 c4 c5 c6 c7 c8 c9
      refine wp_pure k_152 rfl rfl ?_
      refine wp_pure k_152 rfl rfl ?_
      refine wp_br k_152 rfl rfl rfl rfl (fun _ => ?_) (fun z => absurd (Int32.le_refl _) z)
      exact wp_vrt k_152 rfl rfl (k _ f ⟨c1, c2, ⟨_, c3⟩, c4, by decide, by have := c9.1; omega, by have := c9.1; omega, Or.inr ⟨c5, by omega, by omega, Nat.zero_le _, fun i _ hi => by
        by_cases q : i < n
        · exact c7 i q
        · exact c8 i (by omega) (by omega)⟩, fun i hi => absurd hi (Nat.not_lt_zero i)⟩ c9)
    · intro i hi ih h2 c1 c2 c3 c4 c5 c6 c7 c8 c9
      refine wp_pure k_152 rfl rfl ?_
      refine wp_pure k_152 rfl rfl ?_
      refine wp_br k_152 rfl rfl rfl rfl (fun z => absurd z (nI_ge hi (by omega))) (fun _ => ?_)
      refine wp_pure k_152 rfl rfl ?_
      refine wp_pure k_152 rfl rfl ?_
      refine wp_pure k_152 rfl rfl ?_
      refine wp_aastN k_152 rfl c5 (by omega) (by omega) ?_
      refine wp_inc k_152 rfl rfl rfl ?_
      refine wp_br k_152 rfl rfl rfl rfl (fun _ => ?_) (fun z => absurd trivial z)
      refine ih _ c1 c2 c3 c4 c5 c6 (fun j hj => ?_) (fun j p q => (hA_putA_i (by omega)).trans (c8 j p q)) (c9.trans Fr.putA (fun _ _ q => q) (fun b _ q => Or.inr ⟨q, q1⟩) (Nat.le_refl _) (Nat.le_refl _))
      by_cases q : j = i
      · rw [q]; exact hA_putA
      · exact (hA_putA_i q).trans (c7 j (by omega))
theorem cTy {h : sm_H} {a k : Nat} {ty : FieldType} (p : hC h a = k) (q : sm_ty k = some ty) : sm_ty (hC h a) = some ty := by rw [p]; exact q
theorem nLt {h : sm_H} {a n m : Nat} (p : hL h a = m) (q : n < m) : n < hL h a := by rw [p]; exact q
theorem nLb {h : sm_H} {a m : Nat} (p : hL h a = m) (q : m < 2 ^ 31) : hL h a < 2 ^ 31 := by rw [p]; exact q
theorem cKd {h : sm_H} {b k : Nat} (p : hC h b = k) (q : 16 ≤ k ∧ k < 26) : 16 ≤ hC h b ∧ hC h b < 26 := by rw [p]; exact q
theorem c_isE {h : sm_H} {a e n : Nat} {f : Nat → Nat} {Q : Nat → Option Value → sm_H → Prop} (l : Lst h a e n f) (K1 : n = 0 → Q 0 (some (.int (nI 1))) h) (K0 : n ≠ 0 → Q 0 (some (.int (nI 0))) h) : sm_wp 170 0 [.ref a] [] h Q := by
  have hn := l.2.2.2.2.1
  refine wp_pure k_170 rfl rfl ?_
  refine wp_get k_170 rfl l.1 l.2.1 ?_
  by_cases q : n = 0
  · subst q
    refine wp_br k_170 rfl rfl rfl rfl (fun z => absurd rfl z) (fun _ => ?_)
    refine wp_kn k_170 rfl rfl ?_
    refine wp_br k_170 rfl rfl rfl rfl (fun _ => ?_) (fun z => absurd trivial z)
    exact wp_irt k_170 rfl rfl rfl (K1 rfl)
  · refine wp_br k_170 rfl rfl rfl rfl (fun _ => ?_) (fun z => absurd (fun y => q ((nI_eq (a := n) (b := 0) (by omega) (by decide)).mp y)) z)
    refine wp_kn k_170 rfl rfl ?_
    exact wp_irt k_170 rfl rfl rfl (K0 q)
theorem kne {h : sm_H} {a b k l : Nat} (ha : hC h a = k) (hb : hC h b = l) (hne : k ≠ l) : a ≠ b := fun e => hne (by rw [← ha, ← hb, e])
theorem kne2 {h : sm_H} {a b l : Nat} (ha : hC h a = 14 ∨ hC h a = 7) (hb : hC h b = l) (h1 : l ≠ 14) (h2 : l ≠ 7) : a ≠ b := fun e => by
  rw [e, hb] at ha
  exact ha.elim h1 h2
theorem Lst.ke {h : sm_H} {a e n : Nat} {f : Nat → Nat} (l : Lst h a e n f) : hC h e = 14 ∨ hC h e = 7 := by
  rcases l.2.2.2.2.2.2.2.1 with ⟨_, q, _⟩ | ⟨q, _⟩
  · exact Or.inl q
  · exact Or.inr q
theorem hC_putF {h : sm_H} {f b c : Nat} {v : Value} : hC (putF h f b v) c = hC h c := rfl
theorem hT_putF {h : sm_H} {f b : Nat} {v : Value} : hT (putF h f b v) = hT h := rfl
theorem hU_putF {h : sm_H} {f b : Nat} {v : Value} : hU (putF h f b v) = hU h := rfl
theorem hZ_putF {h : sm_H} {f b : Nat} {v : Value} : hZ (putF h f b v) = hZ h := rfl
