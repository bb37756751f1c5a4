/-! java.util.ArrayList as it is used: size, get -/
theorem s_size {h : sm_H} {a : Nat} {n : Int32} {Q : Nat → Option Value → sm_H → Prop} (hc : hC h a = 26) (hs : hF h 1281 a = .int n) (k : Q 0 (some (.int n)) h) : sm_wp 149 0 [.ref a] [] h Q := by
  refine wp_pure k_149 rfl rfl ?_
  refine wp_get k_149 rfl hc hs ?_
  exact wp_irt k_149 rfl (ty := .int) rfl rfl k
theorem s_pci {h : sm_H} {i n : Nat} {Q : Nat → Option Value → sm_H → Prop} (hi : i < n) (hn : n < 2 ^ 31) (k : Q 0 (some (.int (nI i))) h) : sm_wp 157 0 [.int (nI i), .int (nI n), .null] [] h Q := by
  refine wp_pure k_157 rfl rfl ?_
  refine wp_br k_157 rfl rfl rfl rfl (fun c => absurd c (nI_pos (by omega))) (fun _ => ?_)
  refine wp_pure k_157 rfl rfl ?_
  refine wp_pure k_157 rfl rfl ?_
  refine wp_br k_157 rfl rfl rfl rfl (fun _ => ?_) (fun c => absurd (nI_lt hi hn) c)
  refine wp_pure k_157 rfl rfl ?_
  exact wp_irt k_157 rfl (ty := .int) rfl rfl k
theorem s_oci {h : sm_H} {i n : Nat} {Q : Nat → Option Value → sm_H → Prop} (hi : i < n) (hn : n < 2 ^ 31) (k : Q 0 (some (.int (nI i))) h) : sm_wp 156 0 [.int (nI i), .int (nI n)] [] h Q := by
  refine wp_pure k_156 rfl rfl ?_
  refine wp_pure k_156 rfl rfl ?_
  refine wp_pure k_156 rfl rfl ?_
  refine wp_is k_156 rfl (by decide) [.int (nI i), .int (nI n), .null] rfl (r := []) (by decide) (Nat.le_of_ble_eq_true rfl) rfl ?_
  refine s_pci hi hn ⟨rfl, ?_⟩
  exact wp_irt k_156 rfl (ty := .int) rfl rfl k
/-- a list at a of the objects xs -/
def isL (h : sm_H) (a : Nat) (xs : List Nat) : Prop := hC h a = 26 ∧ hF h 1281 a = .int (nI xs.length) ∧ (∃ m, hF h 1282 a = .int m) ∧ ∃ e, hF h 1280 a = .ref e ∧ xs.length ≤ hL h e ∧ hL h e < 2 ^ 20 ∧ ((e = hZ h ∧ hC h e = 14 ∧ hL h e = 0) ∨ (hC h e = 7 ∧ 0 < hL h e)) ∧ ∀ (i x : Nat), xs[i]? = some x → hA h e i = .ref x
theorem s_get {h : sm_H} {a i x : Nat} {xs : List Nat} {Q : Nat → Option Value → sm_H → Prop} (hl : isL h a xs) (hx : xs[i]? = some x) (k : Q 0 (some (.ref x)) h) : sm_wp 150 0 [.ref a, .int (nI i)] [] h Q := by
  obtain ⟨h1, h2, -, e, h3, h4, h5, h6, h7⟩ := hl
  have hi : i < xs.length := (List.getElem?_eq_some_iff.mp hx).1
  have hk : sm_ty (hC h e) = some (.object "java/lang/Object") := by
    rcases h6 with ⟨-, q, -⟩ | ⟨q, -⟩ <;> rw [q] <;> rfl
  refine wp_pure k_150 rfl rfl ?_
  refine wp_pure k_150 rfl rfl ?_
  refine wp_get k_150 rfl h1 h2 ?_
  refine wp_is k_150 rfl (by decide) [.int (nI i), .int (nI xs.length)] rfl (r := []) (by decide) (Nat.le_of_ble_eq_true rfl) rfl ?_
  refine s_oci hi (by omega) ⟨rfl, ?_⟩
  refine wp_pure k_150 rfl rfl ?_
  refine wp_pure k_150 rfl rfl ?_
  refine wp_pure k_150 rfl rfl ?_
  refine wp_iv k_150 rfl [.int (nI i)] rfl h1 (r := []) (by decide) (Nat.le_of_ble_eq_true rfl) rfl ?_
  refine wp_pure k_151 rfl rfl ?_
  refine wp_get k_151 rfl h1 h3 ?_
  refine wp_pure k_151 rfl rfl ?_
  refine wp_aald k_151 rfl hk (by omega) (by omega) (h7 i x hx) ?_
  refine wp_rt k_151 rfl rfl rfl rfl rfl rfl rfl ⟨rfl, ?_⟩
  exact wp_rt k_150 rfl rfl rfl rfl rfl rfl rfl k
