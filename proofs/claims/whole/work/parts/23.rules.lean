/-! rules for the roads, one a kind of instruction -/
section SMR
variable {j pc : Nat} {L S L' S' r : List Value} {h h' : sm_H} {Q : Nat → Option Value → sm_H → Prop} {t : Nat → Option (Instr × Nat × Nat)} {x ci kz a : Nat} {v : Value}
theorem wp_get (hx : sm_tab j t) (hi : t pc = some (.getfield x, ci, kz)) (hc : hC h a = 16 + ci) (hv : hF h (128 * ci + kz / 2) a = v) (k : sm_wp j (pc + 3) L (v :: r) h Q) : sm_wp j pc L (.ref a :: r) h Q := by
  subst hv
  refine wp_hp hx hi rfl rfl rfl rfl ?_ k
  show (if hC h a = 16 + ci then some (hF h (128 * ci + kz / 2) a :: r, h) else none) = _
  rw [if_pos hc]
theorem wp_put (hx : sm_tab j t) (hi : t pc = some (.putfield x, ci, kz)) (hc : hC h a = 16 + ci) (hn : narrow (xty ci (kz / 2)) v = v) (hf : fits (xty ci (kz / 2)) v = true) (k : sm_wp j (pc + 3) L r (putF h (128 * ci + kz / 2) a v) Q) : sm_wp j pc L (v :: .ref a :: r) h Q := by
  refine wp_hp hx hi rfl rfl rfl rfl ?_ k
  show (if hC h a = 16 + ci ∧ narrow (xty ci (kz / 2)) v = v ∧ fits (xty ci (kz / 2)) v = true then some (r, putF h (128 * ci + kz / 2) a v) else none) = _
  rw [if_pos ⟨hc, hn, hf⟩]
theorem wp_new (hx : sm_tab j t) (hi : t pc = some (.new x, ci, 0)) {q : vw_C} (hq : xcl[ci]? = some q) (k : sm_wp j (pc + 3) L (.ref (hT h) :: r) (newO h ci q.2.2 (fun g => defaultValue (xty ci (g - 128 * ci)))) Q) : sm_wp j pc L r h Q := by
  refine wp_hp hx hi rfl rfl rfl rfl ?_ k
  show (if (0 : Nat) = 0 then sm_nw ci r h else none) = _
  rw [if_pos rfl]
  unfold sm_nw
  rw [hq]
theorem wp_newa (hx : sm_tab j t) {ty : ArrayType} (hi : t pc = some (.newarray ty, ci, kz)) {n : Nat} (hn : n < 2 ^ 26) (hk : sm_nt ty ≠ 0) (k : sm_wp j (pc + 2) L (.ref (hT h) :: r) (newA h (sm_nt ty) n (defaultValue (newarray.typeOf ty))) Q) : sm_wp j pc L (.int (nI n) :: r) h Q := by
  refine wp_hp hx hi rfl rfl rfl rfl ?_ k
  show (if ¬ nI n < 0 ∧ (nI n).toNatClampNeg * componentBytes (newarray.typeOf ty) ≤ 536870912 ∧ sm_nt ty ≠ 0 then some (.ref (hT h) :: r, newA h (sm_nt ty) (nI n).toNatClampNeg (defaultValue (newarray.typeOf ty))) else none) = _
  have hb : componentBytes (newarray.typeOf ty) ≤ 8 := by cases ty <;> decide
  rw [nI_clamp (by omega), if_pos ⟨nI_pos (by omega), Nat.le_trans (Nat.mul_le_mul (Nat.le_of_lt hn) hb) (by decide), hk⟩]
theorem wp_len (hx : sm_tab j t) (hi : t pc = some (.arraylength, ci, kz)) (hc : (sm_ty (hC h a)).isSome = true) {n : Nat} (hn : hL h a = n) (k : sm_wp j (pc + 1) L (.int (nI n) :: r) h Q) : sm_wp j pc L (.ref a :: r) h Q := by
  subst hn
  refine wp_hp hx hi rfl rfl rfl rfl ?_ k
  show (if (sm_ty (hC h a)).isSome = true then some (.int (nI (hL h a)) :: r, h) else none) = _
  rw [if_pos hc]
theorem wp_ald {ins : Instr} {ty : FieldType} (hx : sm_tab j t) (hi : t pc = some (ins, ci, kz)) (h0 : ∀ d S, sm_th ins d S = none) (h1 : ∀ d L S, sm_ps ins d L S = none) (h2 : ∀ d p S, sm_br ins d p S = none) (h3 : ∀ p S, sm_sw ins p S = none) (h4 : ∀ d S h, sm_hp ins d S h = sm_al ty S h) (hl : sm_len ins = 1) (hc : sm_ty (hC h a) = some ty) {n : Nat} (hn : n < hL h a) (hs : hL h a < 2 ^ 31) (hv : hA h a n = v) (k : sm_wp j (pc + 1) L (v :: r) h Q) : sm_wp j pc L (.int (nI n) :: .ref a :: r) h Q := by
  subst hv
  refine wp_hp hx hi (h0 _ _) (h1 _ _ _) (h2 _ _ _) (h3 _ _) ?_ (by rw [hl]; exact k)
  rw [h4]
  show (if sm_ty (hC h a) = some ty ∧ sm_in (nI n) (hL h a) then some (hA h a (nI n).toNatClampNeg :: r, h) else none) = _
  rw [if_pos ⟨hc, nI_pos (by omega), by rw [nI_clamp (by omega)]; exact hn⟩, nI_clamp (by omega)]
theorem wp_iald (hx : sm_tab j t) (hi : t pc = some (.iaload, ci, kz)) (hc : sm_ty (hC h a) = some .int) {n : Nat} (hn : n < hL h a) (hs : hL h a < 2 ^ 31) (hv : hA h a n = v) (k : sm_wp j (pc + 1) L (v :: r) h Q) : sm_wp j pc L (.int (nI n) :: .ref a :: r) h Q :=
  wp_ald (ty := .int) hx hi (fun _ _ => rfl) (fun _ _ _ => rfl) (fun _ _ _ => rfl) (fun _ _ => rfl) (fun _ _ _ => rfl) rfl hc hn hs hv k
theorem wp_lald (hx : sm_tab j t) (hi : t pc = some (.laload, ci, kz)) (hc : sm_ty (hC h a) = some .long) {n : Nat} (hn : n < hL h a) (hs : hL h a < 2 ^ 31) (hv : hA h a n = v) (k : sm_wp j (pc + 1) L (v :: r) h Q) : sm_wp j pc L (.int (nI n) :: .ref a :: r) h Q :=
  wp_ald (ty := .long) hx hi (fun _ _ => rfl) (fun _ _ _ => rfl) (fun _ _ _ => rfl) (fun _ _ => rfl) (fun _ _ _ => rfl) rfl hc hn hs hv k
theorem wp_cald (hx : sm_tab j t) (hi : t pc = some (.caload, ci, kz)) (hc : sm_ty (hC h a) = some .char) {n : Nat} (hn : n < hL h a) (hs : hL h a < 2 ^ 31) (hv : hA h a n = v) (k : sm_wp j (pc + 1) L (v :: r) h Q) : sm_wp j pc L (.int (nI n) :: .ref a :: r) h Q :=
  wp_ald (ty := .char) hx hi (fun _ _ => rfl) (fun _ _ _ => rfl) (fun _ _ _ => rfl) (fun _ _ => rfl) (fun _ _ _ => rfl) rfl hc hn hs hv k
theorem wp_aald (hx : sm_tab j t) (hi : t pc = some (.aaload, ci, kz)) (hc : sm_ty (hC h a) = some (.object "java/lang/Object")) {n : Nat} (hn : n < hL h a) (hs : hL h a < 2 ^ 31) (hv : hA h a n = v) (k : sm_wp j (pc + 1) L (v :: r) h Q) : sm_wp j pc L (.int (nI n) :: .ref a :: r) h Q :=
  wp_ald (ty := .object "java/lang/Object") hx hi (fun _ _ => rfl) (fun _ _ _ => rfl) (fun _ _ _ => rfl) (fun _ _ => rfl) (fun _ _ _ => rfl) rfl hc hn hs hv k
theorem wp_iast (hx : sm_tab j t) (hi : t pc = some (.iastore, ci, kz)) (hc : hC h a = 1) {n : Nat} {y : Int32} (hn : n < hL h a) (hs : hL h a < 2 ^ 31) (k : sm_wp j (pc + 1) L r (putA h a n (.int y)) Q) : sm_wp j pc L (.int y :: .int (nI n) :: .ref a :: r) h Q := by
  refine wp_hp hx hi rfl rfl rfl rfl ?_ k
  show (if hC h a = 1 ∧ sm_in (nI n) (hL h a) then some (r, putA h a (nI n).toNatClampNeg (.int y)) else none) = _
  rw [if_pos ⟨hc, nI_pos (by omega), by rw [nI_clamp (by omega)]; exact hn⟩, nI_clamp (by omega)]
theorem wp_last (hx : sm_tab j t) (hi : t pc = some (.lastore, ci, kz)) (hc : hC h a = 2) {n : Nat} {y : Int64} (hn : n < hL h a) (hs : hL h a < 2 ^ 31) (k : sm_wp j (pc + 1) L r (putA h a n (.long y)) Q) : sm_wp j pc L (.long y :: .int (nI n) :: .ref a :: r) h Q := by
  refine wp_hp hx hi rfl rfl rfl rfl ?_ k
  show (if hC h a = 2 ∧ sm_in (nI n) (hL h a) then some (r, putA h a (nI n).toNatClampNeg (.long y)) else none) = _
  rw [if_pos ⟨hc, nI_pos (by omega), by rw [nI_clamp (by omega)]; exact hn⟩, nI_clamp (by omega)]
theorem wp_cast1 (hx : sm_tab j t) (hi : t pc = some (.castore, ci, kz)) (hc : hC h a = 3) {n : Nat} {y : Int32} (hn : n < hL h a) (hs : hL h a < 2 ^ 31) (hw : narrow .char (.int y) = .int y) (k : sm_wp j (pc + 1) L r (putA h a n (.int y)) Q) : sm_wp j pc L (.int y :: .int (nI n) :: .ref a :: r) h Q := by
  refine wp_hp hx hi rfl rfl rfl rfl ?_ k
  show (if hC h a = 3 ∧ sm_in (nI n) (hL h a) then some (r, putA h a (nI n).toNatClampNeg (narrow .char (.int y))) else none) = _
  rw [if_pos ⟨hc, nI_pos (by omega), by rw [nI_clamp (by omega)]; exact hn⟩, nI_clamp (by omega), hw]
theorem wp_aast (hx : sm_tab j t) (hi : t pc = some (.aastore, ci, kz)) (hc : hC h a = 7) {n b : Nat} (hn : n < hL h a) (hs : hL h a < 2 ^ 31) (hb : 16 ≤ hC h b ∧ hC h b < 26) (k : sm_wp j (pc + 1) L r (putA h a n (.ref b)) Q) : sm_wp j pc L (.ref b :: .int (nI n) :: .ref a :: r) h Q := by
  refine wp_hp hx hi rfl rfl rfl rfl ?_ k
  show (if hC h a = 7 ∧ sm_in (nI n) (hL h a) ∧ 16 ≤ hC h b ∧ hC h b < 16 + xob then some (r, putA h a (nI n).toNatClampNeg (.ref b)) else none) = _
  rw [if_pos ⟨hc, ⟨nI_pos (by omega), by rw [nI_clamp (by omega)]; exact hn⟩, hb⟩, nI_clamp (by omega)]
theorem wp_aastN (hx : sm_tab j t) (hi : t pc = some (.aastore, ci, kz)) (hc : hC h a = 7) {n : Nat} (hn : n < hL h a) (hs : hL h a < 2 ^ 31) (k : sm_wp j (pc + 1) L r (putA h a n .null) Q) : sm_wp j pc L (.null :: .int (nI n) :: .ref a :: r) h Q := by
  refine wp_hp hx hi rfl rfl rfl rfl ?_ k
  show (if hC h a = 7 ∧ sm_in (nI n) (hL h a) then some (r, putA h a (nI n).toNatClampNeg .null) else none) = _
  rw [if_pos ⟨hc, nI_pos (by omega), by rw [nI_clamp (by omega)]; exact hn⟩, nI_clamp (by omega)]
theorem wp_cc (hx : sm_tab j t) (hi : t pc = some (.checkcast x, ci, kz)) (hc : hC h a = 16 + ci) (k : sm_wp j (pc + 3) L (.ref a :: r) h Q) : sm_wp j pc L (.ref a :: r) h Q := by
  refine wp_hp hx hi rfl rfl rfl rfl ?_ k
  show (if hC h a = 16 + ci then some (.ref a :: r, h) else none) = _
  rw [if_pos hc]
theorem wp_gs (hx : sm_tab j t) (hi : t pc = some (.getstatic x, ci, kz)) (k : sm_wp j (pc + 3) L (.ref (hZ h) :: r) h Q) : sm_wp j pc L r h Q := wp_hp hx hi rfl rfl rfl rfl rfl k
theorem wp_ldc (hx : sm_tab j t) (hi : t pc = some (.ldc x, ci, kz)) (k : sm_wp j (pc + 2) L (.int (sm_k (ci, kz)) :: r) h Q) : sm_wp j pc L r h Q := wp_hp hx hi rfl rfl rfl rfl rfl k
theorem wp_ldc2 (hx : sm_tab j t) (hi : t pc = some (.ldc2_w x, ci, kz)) (k : sm_wp j (pc + 3) L (.long (lN ci) :: r) h Q) : sm_wp j pc L r h Q := wp_hp hx hi rfl rfl rfl rfl rfl k
/-- a call on an object: As the arguments behind it -/
theorem wp_iv (hx : sm_tab j t) (hi : t pc = some (.invokevirtual x, ci, kz)) {b : Nat} (As : List Value) (hn : As.length = xna ci) (hc : hC h b = 16 + xrc ci) (hr : (r.map fun v => v.category).sum ≤ 8) (hl : (sm_fl (.ref b :: As)).length ≤ xml ci) (hS : S = As.reverse ++ .ref b :: r)
    (k : sm_wp ci 0 (sm_en (.ref b :: As) (xml ci)) [] h (fun k v h' => k = 0 ∧ sm_wp j (pc + 3) L (v.toList ++ r) h' Q)) : sm_wp j pc L S h Q := by
  have e1 : S.drop (xna ci) = .ref b :: r := by rw [hS, ← hn, ← List.length_reverse, List.drop_left]
  have e2 : (S.take (xna ci)).reverse = As := by rw [hS, ← hn, ← List.length_reverse, List.take_left, List.reverse_reverse]
  have e3 : xna ci ≤ S.length := by rw [hS, ← hn, List.length_append, List.length_reverse]; omega
  refine wp_call hx hi rfl rfl rfl rfl rfl rfl rfl rfl rfl ?_ k
  unfold sm_cl
  dsimp only
  rw [e1]
  dsimp only
  rw [e2, if_pos ⟨e3, hc, hr, hl⟩]
theorem wp_is (hx : sm_tab j t) (hi : t pc = some (.invokestatic x, ci, kz)) (hz : kz < 4) (As : List Value) (hn : As.length = xna ci) (hr : (r.map fun v => v.category).sum ≤ 8) (hl : (sm_fl As).length ≤ xml ci) (hS : S = As.reverse ++ r)
    (k : sm_wp ci 0 (sm_en As (xml ci)) [] h (fun k v h' => k = 0 ∧ sm_wp j (pc + 3) L (v.toList ++ r) h' Q)) : sm_wp j pc L S h Q := by
  have e1 : S.drop (xna ci) = r := by rw [hS, ← hn, ← List.length_reverse, List.drop_left]
  have e2 : (S.take (xna ci)).reverse = As := by rw [hS, ← hn, ← List.length_reverse, List.take_left, List.reverse_reverse]
  have e3 : xna ci ≤ S.length := by rw [hS, ← hn, List.length_append, List.length_reverse]; omega
  have n4 : ¬ kz = 4 := by omega
  have n5 : ¬ kz = 5 := by omega
  have n6 : ¬ kz = 6 := by omega
  have e7 : sm_mm (.invokestatic x) (ci, kz) S = none := by
    unfold sm_mm
    split
    · split
      · simp [n4, n5]
      · rfl
    · rfl
  have e8 : sm_ex (.invokestatic x) (ci, kz) S h = none := by
    unfold sm_ex
    split
    · exact if_neg (fun q => n6 q.1)
    · rfl
  refine wp_call hx hi rfl rfl rfl rfl rfl rfl ?_ e7 e8 ?_ k
  · rfl
  · unfold sm_cl
    dsimp only
    rw [e1, e2, if_pos ⟨hz, e3, hr, hl⟩]
theorem wp_ic (hx : sm_tab j t) (hi : t pc = some (.invokespecial x, ci, kz)) (hz : ¬ kz = 2) {b : Nat} (As : List Value) (hn : As.length = xna ci) (hr : (r.map fun v => v.category).sum ≤ 8) (hl : (sm_fl (.ref b :: As)).length ≤ xml ci) (hS : S = As.reverse ++ .ref b :: r)
    (k : sm_wp ci 0 (sm_en (.ref b :: As) (xml ci)) [] h (fun k v h' => k = 0 ∧ sm_wp j (pc + 3) L (v.toList ++ r) h' Q)) : sm_wp j pc L S h Q := by
  have e1 : S.drop (xna ci) = .ref b :: r := by rw [hS, ← hn, ← List.length_reverse, List.drop_left]
  have e2 : (S.take (xna ci)).reverse = As := by rw [hS, ← hn, ← List.length_reverse, List.take_left, List.reverse_reverse]
  have e3 : xna ci ≤ S.length := by rw [hS, ← hn, List.length_append, List.length_reverse]; omega
  have e6 : sm_oi (.invokespecial x) (ci, kz) S = none := by
    unfold sm_oi
    split
    · rw [if_neg (fun q => hz q.1)]
    · rfl
  refine wp_call hx hi rfl rfl rfl rfl rfl rfl e6 rfl rfl ?_ k
  unfold sm_cl
  dsimp only
  rw [if_neg hz, e1]
  dsimp only
  rw [e2, if_pos ⟨e3, hr, hl⟩]
theorem wp_obj (hx : sm_tab j t) (hi : t pc = some (.invokespecial x, ci, 2)) (hr : (r.map fun v => v.category).sum ≤ 8) (k : sm_wp j (pc + 3) L r h Q) : sm_wp j pc L (.ref a :: r) h Q := by
  refine wp_oi hx hi ?_ k
  show (if 2 = 2 ∧ (r.map fun v => v.category).sum ≤ 8 then some r else none) = _
  rw [if_pos ⟨rfl, hr⟩]
theorem wp_irt (hx : sm_tab j t) (hi : t pc = some (.ireturn, ci, kz)) {ty : FieldType} (ht : xrt j = some ty) {y : Int32} (hn : narrow ty (.int y) = .int y) (k : Q 0 (some (.int y)) h) : sm_wp j pc L [.int y] h Q := by
  refine wp_rt hx hi rfl rfl rfl rfl rfl ?_ k
  rw [ht]
  unfold sm_rt
  dsimp only
  rw [if_pos hn]
theorem wp_vrt (hx : sm_tab j t) (hi : t pc = some (.return_, ci, kz)) (ht : xrt j = none) (k : Q 0 none h) : sm_wp j pc L [] h Q := by
  refine wp_rt hx hi rfl rfl rfl rfl rfl ?_ k
  rw [ht]
  rfl
end SMR
