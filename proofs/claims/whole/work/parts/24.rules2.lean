/-! more rules: constants by their numbers, counters, throwing calls -/
section SMR2
variable {j pc : Nat} {L S L' S' r : List Value} {h h' : sm_H} {Q : Nat → Option Value → sm_H → Prop} {t : Nat → Option (Instr × Nat × Nat)} {x ci kz a n : Nat} {v : Value} {i : Instr}
theorem wp_kn (hx : sm_tab j t) (hi : t pc = some (i, n, 0)) (hp : sm_ps i (n, 0) L S = some (L, .int (nI n) :: S)) (k : sm_wp j (pc + sm_len i) L (.int (nI n) :: S) h Q) : sm_wp j pc L S h Q := wp_pure hx hi hp k
theorem sm_km1 : sm_k (1, 1) = -1 := by decide
theorem wp_km (hx : sm_tab j t) (hi : t pc = some (i, 1, 1)) (hp : sm_ps i (1, 1) L S = some (L, .int (sm_k (1, 1)) :: S)) (k : sm_wp j (pc + sm_len i) L (.int (-1) :: S) h Q) : sm_wp j pc L S h Q := wp_pure hx hi hp (by rw [sm_km1]; exact k)
theorem wp_inc (hx : sm_tab j t) {q : Nat} {c : Int} {m : Nat} (hi : t pc = some (.iinc q c, n, 0)) (hl : L[q]? = some (.int (nI m))) (hL : sm_s1 L q (.int (nI (m + n))) = L') (k : sm_wp j (pc + 3) L' S h Q) : sm_wp j pc L S h Q := by
  subst hL
  refine wp_pure hx hi ?_ k
  show sm_inc L S q (sm_k (n, 0)) = _
  unfold sm_inc
  rw [hl]
  dsimp only
  rw [show nI m + sm_k (n, 0) = nI (m + n) from nI_add m n]
theorem wp_bald (hx : sm_tab j t) (hi : t pc = some (.baload, ci, kz)) (hc : hC h a = 4 ∨ hC h a = 5) {n : Nat} (hn : n < hL h a) (hs : hL h a < 2 ^ 31) (hv : hA h a n = v) (k : sm_wp j (pc + 1) L (v :: r) h Q) : sm_wp j pc L (.int (nI n) :: .ref a :: r) h Q := by
  subst hv
  refine wp_hp hx hi rfl rfl rfl rfl ?_ k
  show (if (hC h a = 4 ∨ hC h a = 5) ∧ sm_in (nI n) (hL h a) then some (hA h a (nI n).toNatClampNeg :: r, h) else none) = _
  rw [if_pos ⟨hc, nI_pos (by omega), by rw [nI_clamp (by omega)]; exact hn⟩, nI_clamp (by omega)]
theorem wp_zast (hx : sm_tab j t) (hi : t pc = some (.bastore, ci, kz)) (hc : hC h a = 5) {n : Nat} {y : Int32} (hn : n < hL h a) (hs : hL h a < 2 ^ 31) (hw : narrow .boolean (.int y) = .int y) (k : sm_wp j (pc + 1) L r (putA h a n (.int y)) Q) : sm_wp j pc L (.int y :: .int (nI n) :: .ref a :: r) h Q := by
  refine wp_hp hx hi rfl rfl rfl rfl ?_ k
  have h4 : ¬ (hC h a = 4 ∧ sm_in (nI n) (hL h a)) := fun q => by rw [hc] at q; omega
  show (if hC h a = 4 ∧ sm_in (nI n) (hL h a) then some (r, putA h a (nI n).toNatClampNeg (narrow .byte (.int y))) else (if hC h a = 5 ∧ sm_in (nI n) (hL h a) then some (r, putA h a (nI n).toNatClampNeg (narrow .boolean (.int y))) else none)) = _
  rw [if_neg h4, if_pos ⟨hc, nI_pos (by omega), by rw [nI_clamp (by omega)]; exact hn⟩, nI_clamp (by omega), hw]
/-- a call on an object that may throw what is caught here -/
theorem wp_ivX (hx : sm_tab j t) (hi : t pc = some (.invokevirtual x, ci, kz)) {b : Nat} (As : List Value) (hn : As.length = xna ci) (hc : hC h b = 16 + xrc ci) (hr : (r.map fun v => v.category).sum ≤ 8) (hl : (sm_fl (.ref b :: As)).length ≤ xml ci) (hS : S = As.reverse ++ .ref b :: r)
    (k : sm_wp ci 0 (sm_en (.ref b :: As) (xml ci)) [] h (fun k v h' => (k = 0 ∧ sm_wp j (pc + 3) L (v.toList ++ r) h' Q) ∨ ∃ k' a hp, k = k' + 1 ∧ v = some (.ref a) ∧ xhi (.invokevirtual x) j pc k' = some hp ∧ sm_wp j hp L [.ref a] h' Q)) : sm_wp j pc L S h Q := by
  have e1 : S.drop (xna ci) = .ref b :: r := by rw [hS, ← hn, ← List.length_reverse, List.drop_left]
  have e2 : (S.take (xna ci)).reverse = As := by rw [hS, ← hn, ← List.length_reverse, List.take_left, List.reverse_reverse]
  have e3 : xna ci ≤ S.length := by rw [hS, ← hn, List.length_append, List.length_reverse]; omega
  refine wp_callX hx hi rfl rfl rfl rfl rfl rfl rfl rfl rfl ?_ k
  unfold sm_cl
  dsimp only
  rw [e1]
  dsimp only
  rw [e2, if_pos ⟨e3, hc, hr, hl⟩]
end SMR2
