/-! HOW THE SMALL MACHINE IS REASONED OF: from this place it comes to an end (0: it returns; 1 + ci: it throws) of which Q holds -/
def sm_wp (j pc : Nat) (L S : List Value) (h : sm_H) (Q : Nat → Option Value → sm_H → Prop) : Prop := ∃ (n k : Nat) (v : Option Value) (h' : sm_H), sm_run n j pc L S h = some (k, v, h') ∧ Q k v h'
theorem sm_moreN {n j pc : Nat} {L S : List Value} {h : sm_H} {x : Nat × Option Value × sm_H} (r : sm_run n j pc L S h = some x) : ∀ k, sm_run (n + k) j pc L S h = some x
  | 0 => r
  | k + 1 => sm_more (n + k) j pc L S h x (sm_moreN r k)
theorem sm_th_ps {i : Instr} {d : Nat × Nat} {L S : List Value} {x : List Value × List Value} (h : sm_ps i d L S = some x) : sm_th i d S = none := by
  cases i <;> first | rfl | cases h
section SMW
variable {j pc : Nat} {L S L' S' : List Value} {h h' : sm_H} {Q : Nat → Option Value → sm_H → Prop} {i : Instr} {d : Nat × Nat} {t : Nat → Option (Instr × Nat × Nat)}
theorem wp_mono {Q' : Nat → Option Value → sm_H → Prop} (k : sm_wp j pc L S h Q) (hq : ∀ k v h', Q k v h' → Q' k v h') : sm_wp j pc L S h Q' := by
  obtain ⟨n, kk, v, h', r, q⟩ := k
  exact ⟨n, kk, v, h', r, hq kk v h' q⟩
theorem wp_pure (hx : sm_tab j t) (hi : t pc = some (i, d)) (hp : sm_ps i d L S = some (L', S')) (k : sm_wp j (pc + sm_len i) L' S' h Q) : sm_wp j pc L S h Q := by
  obtain ⟨n, kk, v, h', r, q⟩ := k
  refine ⟨n + 1, kk, v, h', ?_, q⟩
  unfold sm_run
  rw [hx _ _ hi]
  dsimp only
  rw [sm_th_ps hp, hp]
  exact r
theorem wp_br (hx : sm_tab j t) (hi : t pc = some (i, d)) (h0 : sm_th i d S = none) (h1 : sm_ps i d L S = none) {C : Prop} {a b : Nat} (hb : sm_br i d pc S = some (C, a, b, S')) (kt : C → sm_wp j a L S' h Q) (kf : ¬ C → sm_wp j b L S' h Q) : sm_wp j pc L S h Q := by
  by_cases hC : C
  · obtain ⟨n, kk, v, h', r, q⟩ := kt hC
    refine ⟨n + 1, kk, v, h', ?_, q⟩
    unfold sm_run
    rw [hx _ _ hi]
    dsimp only
    rw [h0, h1, hb]
    dsimp only
    rw [if_pos hC]
    exact r
  · obtain ⟨n, kk, v, h', r, q⟩ := kf hC
    refine ⟨n + 1, kk, v, h', ?_, q⟩
    unfold sm_run
    rw [hx _ _ hi]
    dsimp only
    rw [h0, h1, hb]
    dsimp only
    rw [if_neg hC]
    exact r
theorem wp_sw (hx : sm_tab j t) (hi : t pc = some (i, d)) (h0 : sm_th i d S = none) (h1 : sm_ps i d L S = none) (h2 : sm_br i d pc S = none) {a : Nat} (hs : sm_sw i pc S = some (a, S')) (k : sm_wp j a L S' h Q) : sm_wp j pc L S h Q := by
  obtain ⟨n, kk, v, h', r, q⟩ := k
  refine ⟨n + 1, kk, v, h', ?_, q⟩
  unfold sm_run
  rw [hx _ _ hi]
  dsimp only
  rw [h0, h1, h2, hs]
  exact r
theorem wp_hp (hx : sm_tab j t) (hi : t pc = some (i, d)) (h0 : sm_th i d S = none) (h1 : sm_ps i d L S = none) (h2 : sm_br i d pc S = none) (h3 : sm_sw i pc S = none) (hh : sm_hp i d S h = some (S', h')) (k : sm_wp j (pc + sm_len i) L S' h' Q) : sm_wp j pc L S h Q := by
  obtain ⟨n, kk, v, h'', r, q⟩ := k
  refine ⟨n + 1, kk, v, h'', ?_, q⟩
  unfold sm_run
  rw [hx _ _ hi]
  dsimp only
  rw [h0, h1, h2, h3, hh]
  exact r
theorem wp_rt (hx : sm_tab j t) (hi : t pc = some (i, d)) (h0 : sm_th i d S = none) (h1 : sm_ps i d L S = none) (h2 : sm_br i d pc S = none) (h3 : sm_sw i pc S = none) (h4 : sm_hp i d S h = none) {v : Option Value} (hr : sm_rt i (xrt j) S = some v) (k : Q 0 v h) : sm_wp j pc L S h Q := by
  refine ⟨1, 0, v, h, ?_, k⟩
  unfold sm_run
  rw [hx _ _ hi]
  dsimp only
  rw [h0, h1, h2, h3, h4, hr]
theorem wp_th (hx : sm_tab j t) {x ci : Nat} (hi : t pc = some (.new x, ci, 1)) (k : Q (ci + 1) (some (.ref (hT h))) (thH h ci)) : sm_wp j pc L [] h Q := by
  refine ⟨1, _, _, _, ?_, k⟩
  unfold sm_run
  rw [hx _ _ hi]
  rfl
theorem wp_oi (hx : sm_tab j t) {x : Nat} (hi : t pc = some (.invokespecial x, d)) {r : List Value} (hr : sm_oi (.invokespecial x) d S = some r) (k : sm_wp j (pc + 3) L r h Q) : sm_wp j pc L S h Q := by
  obtain ⟨n, kk, v, h', r, q⟩ := k
  refine ⟨n + 1, kk, v, h', ?_, q⟩
  unfold sm_run
  rw [hx _ _ hi]
  dsimp only [sm_th, sm_ps, sm_br, sm_sw, sm_hp, sm_rt]
  rw [hr]
  exact r
theorem wp_mm (hx : sm_tab j t) {x : Nat} (hi : t pc = some (.invokestatic x, d)) {r : List Value} (hr : sm_mm (.invokestatic x) d S = some r) (k : sm_wp j (pc + 3) L r h Q) : sm_wp j pc L S h Q := by
  obtain ⟨n, kk, v, h', r, q⟩ := k
  refine ⟨n + 1, kk, v, h', ?_, q⟩
  unfold sm_run
  rw [hx _ _ hi]
  dsimp only [sm_th, sm_ps, sm_br, sm_sw, sm_hp, sm_rt, sm_oi]
  rw [hr]
  exact r
theorem wp_ex (hx : sm_tab j t) {x : Nat} (hi : t pc = some (.invokestatic x, d)) (h7 : sm_mm (.invokestatic x) d S = none) (hr : sm_ex (.invokestatic x) d S h = some (S', h')) (k : sm_wp j (pc + 3) L S' h' Q) : sm_wp j pc L S h Q := by
  obtain ⟨n, kk, v, h'', r, q⟩ := k
  refine ⟨n + 1, kk, v, h'', ?_, q⟩
  unfold sm_run
  rw [hx _ _ hi]
  dsimp only [sm_th, sm_ps, sm_br, sm_sw, sm_hp, sm_rt, sm_oi]
  rw [h7, hr]
  exact r
/-- a call: what comes back, or what is caught -/
theorem wp_callX (hx : sm_tab j t) (hi : t pc = some (i, d)) (h0 : sm_th i d S = none) (h1 : sm_ps i d L S = none) (h2 : sm_br i d pc S = none) (h3 : sm_sw i pc S = none) (h4 : sm_hp i d S h = none) (h5 : sm_rt i (xrt j) S = none) (h6 : sm_oi i d S = none) (h7 : sm_mm i d S = none) (h8 : sm_ex i d S h = none) {j' : Nat} {As r : List Value} (hc : sm_cl i d S h = some (j', As, r))
    (k : sm_wp j' 0 (sm_en As (xml j')) [] h (fun k v h' => (k = 0 ∧ sm_wp j (pc + 3) L (v.toList ++ r) h' Q) ∨ ∃ k' a hp, k = k' + 1 ∧ v = some (.ref a) ∧ xhi i j pc k' = some hp ∧ sm_wp j hp L [.ref a] h' Q)) : sm_wp j pc L S h Q := by
  obtain ⟨n1, k1, v1, h1', r1, hk⟩ := k
  rcases hk with ⟨rfl, n2, k2, v2, h2', r2, q⟩ | ⟨k', a, hp, rfl, rfl, hhd, n2, k2, v2, h2', r2, q⟩
  · refine ⟨n1 + n2 + 1, k2, v2, h2', ?_, q⟩
    unfold sm_run
    rw [hx _ _ hi]
    dsimp only
    rw [h0, h1, h2, h3, h4, h5, h6, h7, h8, hc]
    dsimp only
    rw [sm_moreN r1 n2]
    dsimp only
    rw [Nat.add_comm n1 n2]
    exact sm_moreN r2 n1
  · refine ⟨n1 + n2 + 1, k2, v2, h2', ?_, q⟩
    unfold sm_run
    rw [hx _ _ hi]
    dsimp only
    rw [h0, h1, h2, h3, h4, h5, h6, h7, h8, hc]
    dsimp only
    rw [sm_moreN r1 n2]
    dsimp only
    rw [hhd]
    dsimp only
    rw [Nat.add_comm n1 n2]
    exact sm_moreN r2 n1
theorem wp_call (hx : sm_tab j t) (hi : t pc = some (i, d)) (h0 : sm_th i d S = none) (h1 : sm_ps i d L S = none) (h2 : sm_br i d pc S = none) (h3 : sm_sw i pc S = none) (h4 : sm_hp i d S h = none) (h5 : sm_rt i (xrt j) S = none) (h6 : sm_oi i d S = none) (h7 : sm_mm i d S = none) (h8 : sm_ex i d S h = none) {j' : Nat} {As r : List Value} (hc : sm_cl i d S h = some (j', As, r))
    (k : sm_wp j' 0 (sm_en As (xml j')) [] h (fun k v h' => k = 0 ∧ sm_wp j (pc + 3) L (v.toList ++ r) h' Q)) : sm_wp j pc L S h Q := wp_callX hx hi h0 h1 h2 h3 h4 h5 h6 h7 h8 hc (wp_mono k (fun _ _ _ q => Or.inl q))
end SMW
