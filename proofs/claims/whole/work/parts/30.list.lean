/-! java.util.ArrayList as it is used: size, get -/
theorem s_size {h : sm_H} {a : Nat} {n : Int32} {Q : Nat → Option Value → sm_H → Prop} (hc : hC h a = 26) (hs : hF h 1281 a = .int n) (k : Q 0 (some (.int n)) h) : sm_wp 149 0 [.ref a] [] h Q := by
  refine wp_pure k_149 rfl rfl ?_
  refine wp_get k_149 rfl hc hs ?_
  exact wp_irt k_149 rfl (ty := .int) rfl rfl k
theorem s_pci {h : sm_H} {i n : Nat} {Q : Nat → Option Value → sm_H → Prop} (hi : i < n) (hn : n < 2 ^ 31) (k : Q 0 (some (.int (nI i))) h) : sm_wp 157 0 [.int (nI i), .int (nI n), .null] [] h Q := by
  refine wp_pure k_157 rfl rfl ?_
  refine wp_br k_157 rfl rfl rfl rfl (fun c => absurd c (nI_pos (by omega))) (fun _ => ?_)
  refine wp_pure k_157 rfl rfl ?_
  refine wp_pure k_157 rfl rfl ?_
  refine wp_br k_157 rfl rfl rfl rfl (fun _ => ?_) (fun c => absurd (nI_lt hi hn) c)
  refine wp_pure k_157 rfl rfl ?_
  exact wp_irt k_157 rfl (ty := .int) rfl rfl k
theorem s_oci {h : sm_H} {i n : Nat} {Q : Nat → Option Value → sm_H → Prop} (hi : i < n) (hn : n < 2 ^ 31) (k : Q 0 (some (.int (nI i))) h) : sm_wp 156 0 [.int (nI i), .int (nI n)] [] h Q := by
  refine wp_pure k_156 rfl rfl ?_
  refine wp_pure k_156 rfl rfl ?_
  refine wp_pure k_156 rfl rfl ?_
  refine wp_is k_156 rfl (by decide) [.int (nI i), .int (nI n), .null] rfl (r := []) (by decide) (Nat.le_of_ble_eq_true rfl) rfl ?_
  refine s_pci hi hn ⟨rfl, ?_⟩
  exact wp_irt k_156 rfl (ty := .int) rfl rfl k
/-- a list at a of the objects xs -/
def isL (h : sm_H) (a : Nat) (xs : List Nat) : Prop := hC h a = 26 ∧ hF h 1281 a = .int (nI xs.length) ∧ (∃ m, hF h 1282 a = .int m) ∧ ∃ e, hF h 1280 a = .ref e ∧ xs.length ≤ hL h e ∧ hL h e < 2 ^ 20 ∧ ((e = hZ h ∧ hC h e = 14 ∧ hL h e = 0) ∨ (hC h e = 7 ∧ 0 < hL h e)) ∧ ∀ (i x : Nat), xs[i]? = some x → hA h e i = .ref x
theorem s_get {h : sm_H} {a i x : Nat} {xs : List Nat} {Q : Nat → Option Value → sm_H → Prop} (hl : isL h a xs) (hx : xs[i]? = some x) (k : Q 0 (some (.ref x)) h) : sm_wp 150 0 [.ref a, .int (nI i)] [] h Q := by
  obtain ⟨h1, h2, -, e, h3, h4, h5, h6, h7⟩ := hl
  have hi : i < xs.length := (List.getElem?_eq_some_iff.mp hx).1
  have hk : sm_ty (hC h e) = some (.object "java/lang/Object") := by
    rcases h6 with ⟨-, q, -⟩ | ⟨q, -⟩ <;> rw [q] <;> rfl
  refine wp_pure k_150 rfl rfl ?_
  refine wp_pure k_150 rfl rfl ?_
  refine wp_get k_150 rfl h1 h2 ?_
  refine wp_is k_150 rfl (by decide) [.int (nI i), .int (nI xs.length)] rfl (r := []) (by decide) (Nat.le_of_ble_eq_true rfl) rfl ?_
  refine s_oci hi (by omega) ⟨rfl, ?_⟩
  refine wp_pure k_150 rfl rfl ?_
  refine wp_pure k_150 rfl rfl ?_
  refine wp_pure k_150 rfl rfl ?_
  refine wp_iv k_150 rfl [.int (nI i)] rfl h1 (r := []) (by decide) (Nat.le_of_ble_eq_true rfl) rfl ?_
  refine wp_pure k_151 rfl rfl ?_
  refine wp_get k_151 rfl h1 h3 ?_
  refine wp_pure k_151 rfl rfl ?_
  refine wp_aald k_151 rfl hk (by omega) (by omega) (h7 i x hx) ?_
  refine wp_rt k_151 rfl rfl rfl rfl rfl rfl rfl ⟨rfl, ?_⟩
  exact wp_rt k_150 rfl rfl rfl rfl rfl rfl rfl k
/-- Edition.find: the first of the places with that name -/
theorem s_find_l {h : sm_H} {e pl : Nat} {ps : List Nat} {nm : Nat → Int32} {c : Int32} {Q : Nat → Option Value → sm_H → Prop} (he : hC h e = 17) (hp : hF h 128 e = .ref pl) (hl : isL h pl ps) (hn : ∀ p ∈ ps, hC h p = 22 ∧ hF h 768 p = .int (nm p))
    (k : Q 0 (some (.int (match ps.findIdx? (fun p => decide (nm p = c)) with | some i => nI i | none => -1))) h) : ∀ (m i : Nat), i + m = ps.length → (∀ q, q < i → ∀ p, ps[q]? = some p → ¬ nm p = c) → sm_wp 18 2 [.ref e, .int c, .int (nI i)] [] h Q := by
  have hlen : ps.length < 2 ^ 20 := by
    obtain ⟨h1, h2, -, e, h3, h4, h5, -⟩ := hl
    omega
  intro m
  induction m with
  | zero =>
    intro i hi hq
    refine wp_pure k_18 rfl rfl ?_
    refine wp_pure k_18 rfl rfl ?_
    refine wp_get k_18 rfl he hp ?_
    refine wp_iv k_18 rfl [] rfl hl.1 (r := [.int (nI i)]) (Nat.le_of_ble_eq_true rfl) (Nat.le_of_ble_eq_true rfl) rfl ?_
    refine s_size hl.1 hl.2.1 ⟨rfl, ?_⟩
    refine wp_br k_18 rfl rfl rfl rfl (fun _ => ?_) (fun z => absurd (nI_le (by omega) (by omega)) z)
    refine wp_pure k_18 rfl rfl ?_
    refine wp_irt k_18 rfl (ty := .int) rfl rfl ?_
    have hnone : ps.findIdx? (fun p => decide (nm p = c)) = none := by
      rw [List.findIdx?_eq_none_iff]
      intro p hp
      obtain ⟨q, hq1⟩ := List.getElem?_of_mem hp
      have := hq q (by have := (List.getElem?_eq_some_iff.mp hq1).1; omega) p hq1
      simp [this]
    rw [hnone] at k
    exact k
  | succ m ih =>
    intro i hi hq
    have hlt : i < ps.length := by omega
    obtain ⟨p, hpi⟩ : ∃ p, ps[i]? = some p := ⟨_, List.getElem?_eq_getElem hlt⟩
    obtain ⟨hpc, hpn⟩ := hn p (List.mem_of_getElem? hpi)
    refine wp_pure k_18 rfl rfl ?_
    refine wp_pure k_18 rfl rfl ?_
    refine wp_get k_18 rfl he hp ?_
    refine wp_iv k_18 rfl [] rfl hl.1 (r := [.int (nI i)]) (Nat.le_of_ble_eq_true rfl) (Nat.le_of_ble_eq_true rfl) rfl ?_
    refine s_size hl.1 hl.2.1 ⟨rfl, ?_⟩
    refine wp_br k_18 rfl rfl rfl rfl (fun z => absurd z (nI_ge hlt (by omega))) (fun _ => ?_)
    refine wp_pure k_18 rfl rfl ?_
    refine wp_get k_18 rfl he hp ?_
    refine wp_pure k_18 rfl rfl ?_
    refine wp_iv k_18 rfl [.int (nI i)] rfl hl.1 (r := []) (by decide) (Nat.le_of_ble_eq_true rfl) rfl ?_
    refine s_get hl hpi ⟨rfl, ?_⟩
    refine wp_cc k_18 rfl hpc ?_
    refine wp_get k_18 rfl hpc hpn ?_
    refine wp_pure k_18 rfl rfl ?_
    refine wp_br k_18 rfl rfl rfl rfl (fun z => ?_) (fun z => ?_)
    · refine wp_pure k_18 rfl rfl ?_
      refine wp_br k_18 rfl rfl rfl rfl (fun _ => ?_) (fun z => absurd trivial z)
      have e1 : nI i + sm_k (1, 0) = nI (i + 1) := nI_1 i
      show sm_wp 18 2 [.ref e, .int c, .int (nI i + sm_k (1, 0))] [] h Q
      rw [e1]
      refine ih (i + 1) (by omega) (fun q hq1 p' hp' => ?_)
      by_cases eq : q = i
      · subst eq
        rw [hpi] at hp'
        cases hp'
        exact z
      · exact hq q (by omega) p' hp'
    · refine wp_pure k_18 rfl rfl ?_
      refine wp_irt k_18 rfl (ty := .int) rfl rfl ?_
      have z : nm p = c := Classical.not_not.mp z
      have hsome : ps.findIdx? (fun p => decide (nm p = c)) = some i := by
        rw [List.findIdx?_eq_some_iff_getElem]
        refine ⟨hlt, ?_, fun q hq1 => ?_⟩
        · have : ps[i] = p := (List.getElem?_eq_some_iff.mp hpi).2
          rw [this]
          simp [z]
        · have := hq q hq1 (ps[q]) (List.getElem?_eq_getElem (by omega))
          simp [this]
      rw [hsome] at k
      exact k
theorem s_find {h : sm_H} {e pl : Nat} {ps : List Nat} {nm : Nat → Int32} {c : Int32} {Q : Nat → Option Value → sm_H → Prop} (he : hC h e = 17) (hp : hF h 128 e = .ref pl) (hl : isL h pl ps) (hn : ∀ p ∈ ps, hC h p = 22 ∧ hF h 768 p = .int (nm p))
    (k : Q 0 (some (.int (match ps.findIdx? (fun p => decide (nm p = c)) with | some i => nI i | none => -1))) h) : sm_wp 18 0 [.ref e, .int c, jk] [] h Q := by
  refine wp_pure k_18 rfl rfl ?_
  refine wp_pure k_18 rfl rfl ?_
  exact s_find_l he hp hl hn k ps.length 0 (by omega) (fun q hq => absurd hq (Nat.not_lt_zero q))
