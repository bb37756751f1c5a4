theorem uA_i {ar : Nat → Nat → Int32} {k n k' i : Nat} {v : Int32} (h : i ≠ n) : uA ar k n v k' i = ar k' i := if_neg (fun q => h q.2)
theorem out_ne {k j : Nat} (h : ¬ (34 ≤ k ∧ k ≤ 43)) (hj : 34 ≤ j ∧ j ≤ 43) : k ≠ j := fun e => h (e ▸ hj)
theorem m_add_R {h0 h : sm_H} {m : Nat} {g : Nat → Int32} {ar : Nat → Nat → Int32} {Q : Nat → Option Value → sm_H → Prop} (M : MS h0 h m g ar) {n : Nat} (h26 : g 26 = nI n) (hn5 : n ≤ 500) {ps : List Pl} (hR : RT ar ps) (hps : ps.length = n) {v : Int32} {x y w hh : Nat} (f50 : g 50 = v) (f51 : g 51 = nI x) (f52 : g 52 = nI y) (f53 : g 53 = nI w) (f54 : g 54 = nI hh) (K : ∀ h' ar', MS h0 h' m (uF g 26 (nI (n + 1))) ar' → (∀ k, ¬ (34 ≤ k ∧ k ≤ 43) → ar' k = ar k) → RT ar' (ps ++ [plR v x y w hh]) → Q 0 none h') : sm_wp 104 0 [.ref m, .int (nI 0), jk, jk, jk] [] h Q := by
  refine wp_pure k_104 rfl rfl ?_
  refine wm_ga 36 M k_104 rfl rfl rfl (by decide) ?_
  refine wp_pure k_104 rfl rfl ?_
  refine wm_gi 26 M k_104 rfl rfl rfl rfl h26 ?_
  refine wp_pure k_104 rfl rfl ?_
  refine wm_as 36 M k_104 rfl rfl (by decide) rfl (show n < 501 by omega) (fun h1 M1 => ?_)
  refine wp_pure k_104 rfl rfl ?_
  refine wm_ga 37 M1 k_104 rfl rfl rfl (by decide) ?_
  refine wp_pure k_104 rfl rfl ?_
  refine wm_gi 26 M1 k_104 rfl rfl rfl rfl h26 ?_
  refine wp_pure k_104 rfl rfl ?_
  refine wm_gi 50 M1 k_104 rfl rfl rfl rfl f50 ?_
  refine wm_as 37 M1 k_104 rfl rfl (by decide) rfl (show n < 501 by omega) (fun h2 M2 => ?_)
  refine wp_pure k_104 rfl rfl ?_
  refine wp_br k_104 rfl rfl rfl rfl (fun _ => ?_) (fun z => absurd (show (nI 0 : Int32) = 0 by decide) z)
  refine wp_kn k_104 rfl rfl ?_
  refine wp_br k_104 rfl rfl rfl rfl (fun _ => ?_) (fun z => absurd trivial z)
  refine wp_pure k_104 rfl rfl ?_
  refine wp_pure k_104 rfl rfl ?_
  refine wp_br k_104 rfl rfl rfl rfl (fun _ => ?_) (fun z => absurd (show ¬ (nI 1 : Int32) = 0 by decide) z)
  refine wp_km k_104 rfl rfl ?_
  refine wp_br k_104 rfl rfl rfl rfl (fun _ => ?_) (fun z => absurd trivial z)
  refine wp_pure k_104 rfl rfl ?_
  refine wp_pure k_104 rfl rfl ?_
  refine wm_ga 38 M2 k_104 rfl rfl rfl (by decide) ?_
  refine wp_pure k_104 rfl rfl ?_
  refine wm_gi 26 M2 k_104 rfl rfl rfl rfl h26 ?_
  refine wp_pure k_104 rfl rfl ?_
  refine wp_km k_104 rfl rfl ?_
  refine wp_br k_104 rfl rfl rfl rfl (fun z => absurd rfl z) (fun _ => ?_)
  refine wp_pure k_104 rfl rfl ?_
  refine wm_gi 51 M2 k_104 rfl rfl rfl rfl f51 ?_
  refine wp_br k_104 rfl rfl rfl rfl (fun _ => ?_) (fun z => absurd trivial z)
  refine wm_as 38 M2 k_104 rfl rfl (by decide) rfl (show n < 501 by omega) (fun h3 M3 => ?_)
  refine wp_pure k_104 rfl rfl ?_
  refine wm_ga 39 M3 k_104 rfl rfl rfl (by decide) ?_
  refine wp_pure k_104 rfl rfl ?_
  refine wm_gi 26 M3 k_104 rfl rfl rfl rfl h26 ?_
  refine wp_pure k_104 rfl rfl ?_
  refine wp_km k_104 rfl rfl ?_
  refine wp_br k_104 rfl rfl rfl rfl (fun z => absurd rfl z) (fun _ => ?_)
  refine wp_pure k_104 rfl rfl ?_
  refine wm_gi 52 M3 k_104 rfl rfl rfl rfl f52 ?_
  refine wp_br k_104 rfl rfl rfl rfl (fun _ => ?_) (fun z => absurd trivial z)
  refine wm_as 39 M3 k_104 rfl rfl (by decide) rfl (show n < 501 by omega) (fun h4 M4 => ?_)
  refine wp_pure k_104 rfl rfl ?_
  refine wm_ga 40 M4 k_104 rfl rfl rfl (by decide) ?_
  refine wp_pure k_104 rfl rfl ?_
  refine wm_gi 26 M4 k_104 rfl rfl rfl rfl h26 ?_
  refine wp_pure k_104 rfl rfl ?_
  refine wp_br k_104 rfl rfl rfl rfl (fun z => absurd z (show ¬ ((nI 1 : Int32) = 0) by decide)) (fun _ => ?_)
  refine wp_pure k_104 rfl rfl ?_
  refine wm_gi 53 M4 k_104 rfl rfl rfl rfl f53 ?_
  refine wp_br k_104 rfl rfl rfl rfl (fun _ => ?_) (fun z => absurd trivial z)
  refine wm_as 40 M4 k_104 rfl rfl (by decide) rfl (show n < 501 by omega) (fun h5 M5 => ?_)
  refine wp_pure k_104 rfl rfl ?_
  refine wm_ga 41 M5 k_104 rfl rfl rfl (by decide) ?_
  refine wp_pure k_104 rfl rfl ?_
  refine wm_gi 26 M5 k_104 rfl rfl rfl rfl h26 ?_
  refine wp_pure k_104 rfl rfl ?_
  refine wp_br k_104 rfl rfl rfl rfl (fun z => absurd z (show ¬ ((nI 1 : Int32) = 0) by decide)) (fun _ => ?_)
  refine wp_pure k_104 rfl rfl ?_
  refine wm_gi 54 M5 k_104 rfl rfl rfl rfl f54 ?_
  refine wp_br k_104 rfl rfl rfl rfl (fun _ => ?_) (fun z => absurd trivial z)
  refine wm_as 41 M5 k_104 rfl rfl (by decide) rfl (show n < 501 by omega) (fun h6 M6 => ?_)
  refine wp_pure k_104 rfl rfl ?_
  refine wm_ga 42 M6 k_104 rfl rfl rfl (by decide) ?_
  refine wp_pure k_104 rfl rfl ?_
  refine wm_gi 26 M6 k_104 rfl rfl rfl rfl h26 ?_
  refine wp_pure k_104 rfl rfl ?_
  refine wp_kn k_104 rfl rfl ?_
  refine wp_br k_104 rfl rfl rfl rfl (fun _ => ?_) (fun z => absurd (show ¬ nI 0 = nI 1 by decide) z)
  refine wp_kn k_104 rfl rfl ?_
  refine wm_as 42 M6 k_104 rfl rfl (by decide) rfl (show n < 501 by omega) (fun h7 M7 => ?_)
  refine wp_pure k_104 rfl rfl ?_
  refine wm_ga 43 M7 k_104 rfl rfl rfl (by decide) ?_
  refine wp_pure k_104 rfl rfl ?_
  refine wm_gi 26 M7 k_104 rfl rfl rfl rfl h26 ?_
  refine wp_pure k_104 rfl rfl ?_
  refine wp_br k_104 rfl rfl rfl rfl (fun _ => ?_) (fun z => absurd (show (nI 0 : Int32) = 0 by decide) z)
  refine wp_km k_104 rfl rfl ?_
  refine wp_br k_104 rfl rfl rfl rfl (fun _ => ?_) (fun z => absurd trivial z)
  refine wm_as 43 M7 k_104 rfl rfl (by decide) rfl (show n < 501 by omega) (fun h8 M8 => ?_)
  refine wp_pure k_104 rfl rfl ?_
  refine wm_ga 34 M8 k_104 rfl rfl rfl (by decide) ?_
  refine wp_pure k_104 rfl rfl ?_
  refine wm_gi 26 M8 k_104 rfl rfl rfl rfl h26 ?_
  refine wp_pure k_104 rfl rfl ?_
  refine wp_kn k_104 rfl rfl ?_
  refine wp_br k_104 rfl rfl rfl rfl (fun _ => ?_) (fun z => absurd (show ¬ nI 0 = nI 6 by decide) z)
  refine wp_kn k_104 rfl rfl ?_
  refine wm_as 34 M8 k_104 rfl rfl (by decide) rfl (show n < 501 by omega) (fun h9 M9 => ?_)
  refine wp_kn k_104 rfl rfl ?_
  refine wp_pure k_104 rfl rfl ?_
  refine wp_pure k_104 rfl rfl ?_
  refine wp_pure k_104 rfl rfl ?_
  refine wm_ga 34 M9 k_104 rfl rfl rfl (by decide) ?_
  refine wp_pure k_104 rfl rfl ?_
  refine wm_gi 26 M9 k_104 rfl rfl rfl rfl h26 ?_
  refine wm_al 34 M9 k_104 rfl rfl (by decide) rfl (show n < 501 by omega) (v := nI 0) uA_at ?_
  refine wp_br k_104 rfl rfl rfl rfl (fun _ => ?_) (fun z => absurd (Int32.le_refl _) z)
  refine wp_pure k_104 rfl rfl ?_
  refine wp_pure k_104 rfl rfl ?_
  refine wm_gi 26 M9 k_104 rfl rfl rfl rfl h26 ?_
  refine wp_kn k_104 rfl rfl ?_
  refine wp_addN k_104 rfl ?_
  refine wm_pi 26 M9 k_104 rfl rfl rfl rfl rfl rfl (fun h10 M10 => ?_)
  refine wp_vrt k_104 rfl rfl ?_
  refine K _ _ M10 (fun k hk => ?_) (hR.push hps (fun k h1 h2 h3 i hi => ?_) (fun i hi => ?_) ⟨?_, ?_, ?_, ?_, ?_, ?_, ?_, ?_⟩ ?_ (Nat.zero_le 4) (fun i hi => absurd hi (Nat.not_lt_zero i)))
  · rw [uA_ne (out_ne hk (by decide)), uA_ne (out_ne hk (by decide)), uA_ne (out_ne hk (by decide)), uA_ne (out_ne hk (by decide)), uA_ne (out_ne hk (by decide)), uA_ne (out_ne hk (by decide)), uA_ne (out_ne hk (by decide)), uA_ne (out_ne hk (by decide)), uA_ne (out_ne hk (by decide))]
  · have hne : i ≠ n := by omega
    simp only [uA_i hne]
  · simp [uA_ne]
  · simp [uA_ne, uA_at, plR, plF]
  · simp [uA_ne, uA_at, plR, plF]
  · simp [uA_ne, uA_at, plR, plF]
  · simp [uA_ne, uA_at, plR, plF]
  · simp [uA_ne, uA_at, plR, plF]
  · simp [uA_ne, uA_at, plR, plF]
  · simp [uA_ne, uA_at, plR, plF]
  · simp [uA_ne, uA_at, plR, plF]
  · simp [uA_at, plR, plF]
theorem m_add_B {h0 h : sm_H} {m : Nat} {g : Nat → Int32} {ar : Nat → Nat → Int32} {Q : Nat → Option Value → sm_H → Prop} (M : MS h0 h m g ar) {n : Nat} (h26 : g 26 = nI n) (hn5 : n ≤ 500) {ps : List Pl} (hR : RT ar ps) (hps : ps.length = n) {v : Int32} {rr l x y w hh : Nat} (f50 : g 50 = v) (f51 : g 51 = nI x) (f52 : g 52 = nI y) (f53 : g 53 = nI w) (f54 : g 54 = nI hh) (f55 : g 55 = nI l) (f56 : g 56 = nI rr) (K : ∀ h' ar', MS h0 h' m (uF g 26 (nI (n + 1))) ar' → (∀ k, ¬ (34 ≤ k ∧ k ≤ 43) → ar' k = ar k) → RT ar' (ps ++ [plB v rr l x y w hh]) → Q 0 none h') : sm_wp 104 0 [.ref m, .int (nI 1), jk, jk, jk] [] h Q := by
  refine wp_pure k_104 rfl rfl ?_
  refine wm_ga 36 M k_104 rfl rfl rfl (by decide) ?_
  refine wp_pure k_104 rfl rfl ?_
  refine wm_gi 26 M k_104 rfl rfl rfl rfl h26 ?_
  refine wp_pure k_104 rfl rfl ?_
  refine wm_as 36 M k_104 rfl rfl (by decide) rfl (show n < 501 by omega) (fun h1 M1 => ?_)
  refine wp_pure k_104 rfl rfl ?_
  refine wm_ga 37 M1 k_104 rfl rfl rfl (by decide) ?_
  refine wp_pure k_104 rfl rfl ?_
  refine wm_gi 26 M1 k_104 rfl rfl rfl rfl h26 ?_
  refine wp_pure k_104 rfl rfl ?_
  refine wm_gi 50 M1 k_104 rfl rfl rfl rfl f50 ?_
  refine wm_as 37 M1 k_104 rfl rfl (by decide) rfl (show n < 501 by omega) (fun h2 M2 => ?_)
  refine wp_pure k_104 rfl rfl ?_
  refine wp_br k_104 rfl rfl rfl rfl (fun z => absurd z (show ¬ ((nI 1 : Int32) = 0) by decide)) (fun _ => ?_)
  refine wp_pure k_104 rfl rfl ?_
  refine wp_kn k_104 rfl rfl ?_
  refine wp_br k_104 rfl rfl rfl rfl (fun z => absurd z (show ¬ (¬ nI 1 = nI 1) by decide)) (fun _ => ?_)
  refine wp_kn k_104 rfl rfl ?_
  refine wp_br k_104 rfl rfl rfl rfl (fun _ => ?_) (fun z => absurd trivial z)
  refine wp_pure k_104 rfl rfl ?_
  refine wp_pure k_104 rfl rfl ?_
  refine wp_br k_104 rfl rfl rfl rfl (fun _ => ?_) (fun z => absurd (show ¬ (nI 1 : Int32) = 0 by decide) z)
  refine wp_km k_104 rfl rfl ?_
  refine wp_br k_104 rfl rfl rfl rfl (fun _ => ?_) (fun z => absurd trivial z)
  refine wp_pure k_104 rfl rfl ?_
  refine wp_pure k_104 rfl rfl ?_
  refine wm_ga 38 M2 k_104 rfl rfl rfl (by decide) ?_
  refine wp_pure k_104 rfl rfl ?_
  refine wm_gi 26 M2 k_104 rfl rfl rfl rfl h26 ?_
  refine wp_pure k_104 rfl rfl ?_
  refine wp_km k_104 rfl rfl ?_
  refine wp_br k_104 rfl rfl rfl rfl (fun z => absurd rfl z) (fun _ => ?_)
  refine wp_pure k_104 rfl rfl ?_
  refine wm_gi 51 M2 k_104 rfl rfl rfl rfl f51 ?_
  refine wp_br k_104 rfl rfl rfl rfl (fun _ => ?_) (fun z => absurd trivial z)
  refine wm_as 38 M2 k_104 rfl rfl (by decide) rfl (show n < 501 by omega) (fun h3 M3 => ?_)
  refine wp_pure k_104 rfl rfl ?_
  refine wm_ga 39 M3 k_104 rfl rfl rfl (by decide) ?_
  refine wp_pure k_104 rfl rfl ?_
  refine wm_gi 26 M3 k_104 rfl rfl rfl rfl h26 ?_
  refine wp_pure k_104 rfl rfl ?_
  refine wp_km k_104 rfl rfl ?_
  refine wp_br k_104 rfl rfl rfl rfl (fun z => absurd rfl z) (fun _ => ?_)
  refine wp_pure k_104 rfl rfl ?_
  refine wm_gi 52 M3 k_104 rfl rfl rfl rfl f52 ?_
  refine wp_br k_104 rfl rfl rfl rfl (fun _ => ?_) (fun z => absurd trivial z)
  refine wm_as 39 M3 k_104 rfl rfl (by decide) rfl (show n < 501 by omega) (fun h4 M4 => ?_)
  refine wp_pure k_104 rfl rfl ?_
  refine wm_ga 40 M4 k_104 rfl rfl rfl (by decide) ?_
  refine wp_pure k_104 rfl rfl ?_
  refine wm_gi 26 M4 k_104 rfl rfl rfl rfl h26 ?_
  refine wp_pure k_104 rfl rfl ?_
  refine wp_br k_104 rfl rfl rfl rfl (fun z => absurd z (show ¬ ((nI 1 : Int32) = 0) by decide)) (fun _ => ?_)
  refine wp_pure k_104 rfl rfl ?_
  refine wm_gi 53 M4 k_104 rfl rfl rfl rfl f53 ?_
  refine wp_br k_104 rfl rfl rfl rfl (fun _ => ?_) (fun z => absurd trivial z)
  refine wm_as 40 M4 k_104 rfl rfl (by decide) rfl (show n < 501 by omega) (fun h5 M5 => ?_)
  refine wp_pure k_104 rfl rfl ?_
  refine wm_ga 41 M5 k_104 rfl rfl rfl (by decide) ?_
  refine wp_pure k_104 rfl rfl ?_
  refine wm_gi 26 M5 k_104 rfl rfl rfl rfl h26 ?_
  refine wp_pure k_104 rfl rfl ?_
  refine wp_br k_104 rfl rfl rfl rfl (fun z => absurd z (show ¬ ((nI 1 : Int32) = 0) by decide)) (fun _ => ?_)
  refine wp_pure k_104 rfl rfl ?_
  refine wm_gi 54 M5 k_104 rfl rfl rfl rfl f54 ?_
  refine wp_br k_104 rfl rfl rfl rfl (fun _ => ?_) (fun z => absurd trivial z)
  refine wm_as 41 M5 k_104 rfl rfl (by decide) rfl (show n < 501 by omega) (fun h6 M6 => ?_)
  refine wp_pure k_104 rfl rfl ?_
  refine wm_ga 42 M6 k_104 rfl rfl rfl (by decide) ?_
  refine wp_pure k_104 rfl rfl ?_
  refine wm_gi 26 M6 k_104 rfl rfl rfl rfl h26 ?_
  refine wp_pure k_104 rfl rfl ?_
  refine wp_kn k_104 rfl rfl ?_
  refine wp_br k_104 rfl rfl rfl rfl (fun z => absurd z (show ¬ (¬ nI 1 = nI 1) by decide)) (fun _ => ?_)
  refine wp_pure k_104 rfl rfl ?_
  refine wm_gi 55 M6 k_104 rfl rfl rfl rfl f55 ?_
  refine wp_br k_104 rfl rfl rfl rfl (fun _ => ?_) (fun z => absurd trivial z)
  refine wm_as 42 M6 k_104 rfl rfl (by decide) rfl (show n < 501 by omega) (fun h7 M7 => ?_)
  refine wp_pure k_104 rfl rfl ?_
  refine wm_ga 43 M7 k_104 rfl rfl rfl (by decide) ?_
  refine wp_pure k_104 rfl rfl ?_
  refine wm_gi 26 M7 k_104 rfl rfl rfl rfl h26 ?_
  refine wp_pure k_104 rfl rfl ?_
  refine wp_br k_104 rfl rfl rfl rfl (fun z => absurd z (show ¬ ((nI 1 : Int32) = 0) by decide)) (fun _ => ?_)
  refine wp_pure k_104 rfl rfl ?_
  refine wp_kn k_104 rfl rfl ?_
  refine wp_br k_104 rfl rfl rfl rfl (fun _ => ?_) (fun z => absurd (show ¬ nI 1 = nI 2 by decide) z)
  refine wp_pure k_104 rfl rfl ?_
  refine wm_gi 56 M7 k_104 rfl rfl rfl rfl f56 ?_
  refine wm_as 43 M7 k_104 rfl rfl (by decide) rfl (show n < 501 by omega) (fun h8 M8 => ?_)
  refine wp_pure k_104 rfl rfl ?_
  refine wm_ga 34 M8 k_104 rfl rfl rfl (by decide) ?_
  refine wp_pure k_104 rfl rfl ?_
  refine wm_gi 26 M8 k_104 rfl rfl rfl rfl h26 ?_
  refine wp_pure k_104 rfl rfl ?_
  refine wp_kn k_104 rfl rfl ?_
  refine wp_br k_104 rfl rfl rfl rfl (fun _ => ?_) (fun z => absurd (show ¬ nI 1 = nI 6 by decide) z)
  refine wp_kn k_104 rfl rfl ?_
  refine wm_as 34 M8 k_104 rfl rfl (by decide) rfl (show n < 501 by omega) (fun h9 M9 => ?_)
  refine wp_kn k_104 rfl rfl ?_
  refine wp_pure k_104 rfl rfl ?_
  refine wp_pure k_104 rfl rfl ?_
  refine wp_pure k_104 rfl rfl ?_
  refine wm_ga 34 M9 k_104 rfl rfl rfl (by decide) ?_
  refine wp_pure k_104 rfl rfl ?_
  refine wm_gi 26 M9 k_104 rfl rfl rfl rfl h26 ?_
  refine wm_al 34 M9 k_104 rfl rfl (by decide) rfl (show n < 501 by omega) (v := nI 0) uA_at ?_
  refine wp_br k_104 rfl rfl rfl rfl (fun _ => ?_) (fun z => absurd (Int32.le_refl _) z)
  refine wp_pure k_104 rfl rfl ?_
  refine wp_pure k_104 rfl rfl ?_
  refine wm_gi 26 M9 k_104 rfl rfl rfl rfl h26 ?_
  refine wp_kn k_104 rfl rfl ?_
  refine wp_addN k_104 rfl ?_
  refine wm_pi 26 M9 k_104 rfl rfl rfl rfl rfl rfl (fun h10 M10 => ?_)
  refine wp_vrt k_104 rfl rfl ?_
  refine K _ _ M10 (fun k hk => ?_) (hR.push hps (fun k h1 h2 h3 i hi => ?_) (fun i hi => ?_) ⟨?_, ?_, ?_, ?_, ?_, ?_, ?_, ?_⟩ ?_ (Nat.zero_le 4) (fun i hi => absurd hi (Nat.not_lt_zero i)))
  · rw [uA_ne (out_ne hk (by decide)), uA_ne (out_ne hk (by decide)), uA_ne (out_ne hk (by decide)), uA_ne (out_ne hk (by decide)), uA_ne (out_ne hk (by decide)), uA_ne (out_ne hk (by decide)), uA_ne (out_ne hk (by decide)), uA_ne (out_ne hk (by decide)), uA_ne (out_ne hk (by decide))]
  · have hne : i ≠ n := by omega
    simp only [uA_i hne]
  · simp [uA_ne]
  · simp [uA_ne, uA_at, plB, plF]
  · simp [uA_ne, uA_at, plB, plF]
  · simp [uA_ne, uA_at, plB, plF]
  · simp [uA_ne, uA_at, plB, plF]
  · simp [uA_ne, uA_at, plB, plF]
  · simp [uA_ne, uA_at, plB, plF]
  · simp [uA_ne, uA_at, plB, plF]
  · simp [uA_ne, uA_at, plB, plF]
  · simp [uA_at, plB, plF]
theorem m_add_P {h0 h : sm_H} {m : Nat} {g : Nat → Int32} {ar : Nat → Nat → Int32} {Q : Nat → Option Value → sm_H → Prop} (M : MS h0 h m g ar) {n : Nat} (h26 : g 26 = nI n) (hn5 : n ≤ 500) {ps : List Pl} (hR : RT ar ps) (hps : ps.length = n) {v : Int32} {x y : Nat} (f50 : g 50 = v) (f51 : g 51 = nI x) (f52 : g 52 = nI y) (K : ∀ h' ar', MS h0 h' m (uF g 26 (nI (n + 1))) ar' → (∀ k, ¬ (34 ≤ k ∧ k ≤ 43) → ar' k = ar k) → RT ar' (ps ++ [plP v x y]) → Q 0 none h') : sm_wp 104 0 [.ref m, .int (nI 2), jk, jk, jk] [] h Q := by
  refine wp_pure k_104 rfl rfl ?_
  refine wm_ga 36 M k_104 rfl rfl rfl (by decide) ?_
  refine wp_pure k_104 rfl rfl ?_
  refine wm_gi 26 M k_104 rfl rfl rfl rfl h26 ?_
  refine wp_pure k_104 rfl rfl ?_
  refine wm_as 36 M k_104 rfl rfl (by decide) rfl (show n < 501 by omega) (fun h1 M1 => ?_)
  refine wp_pure k_104 rfl rfl ?_
  refine wm_ga 37 M1 k_104 rfl rfl rfl (by decide) ?_
  refine wp_pure k_104 rfl rfl ?_
  refine wm_gi 26 M1 k_104 rfl rfl rfl rfl h26 ?_
  refine wp_pure k_104 rfl rfl ?_
  refine wm_gi 50 M1 k_104 rfl rfl rfl rfl f50 ?_
  refine wm_as 37 M1 k_104 rfl rfl (by decide) rfl (show n < 501 by omega) (fun h2 M2 => ?_)
  refine wp_pure k_104 rfl rfl ?_
  refine wp_br k_104 rfl rfl rfl rfl (fun z => absurd z (show ¬ ((nI 2 : Int32) = 0) by decide)) (fun _ => ?_)
  refine wp_pure k_104 rfl rfl ?_
  refine wp_kn k_104 rfl rfl ?_
  refine wp_br k_104 rfl rfl rfl rfl (fun _ => ?_) (fun z => absurd (show ¬ nI 2 = nI 1 by decide) z)
  refine wp_kn k_104 rfl rfl ?_
  refine wp_pure k_104 rfl rfl ?_
  refine wp_pure k_104 rfl rfl ?_
  refine wp_br k_104 rfl rfl rfl rfl (fun z => absurd z (show ¬ (¬ (nI 0 : Int32) = 0) by decide)) (fun _ => ?_)
  refine wp_pure k_104 rfl rfl ?_
  refine wp_kn k_104 rfl rfl ?_
  refine wp_br k_104 rfl rfl rfl rfl (fun z => absurd z (show ¬ (¬ nI 2 = nI 2) by decide)) (fun _ => ?_)
  refine wp_km k_104 rfl rfl ?_
  refine wp_br k_104 rfl rfl rfl rfl (fun _ => ?_) (fun z => absurd trivial z)
  refine wp_pure k_104 rfl rfl ?_
  refine wp_pure k_104 rfl rfl ?_
  refine wm_ga 38 M2 k_104 rfl rfl rfl (by decide) ?_
  refine wp_pure k_104 rfl rfl ?_
  refine wm_gi 26 M2 k_104 rfl rfl rfl rfl h26 ?_
  refine wp_pure k_104 rfl rfl ?_
  refine wp_km k_104 rfl rfl ?_
  refine wp_br k_104 rfl rfl rfl rfl (fun z => absurd rfl z) (fun _ => ?_)
  refine wp_pure k_104 rfl rfl ?_
  refine wm_gi 51 M2 k_104 rfl rfl rfl rfl f51 ?_
  refine wp_br k_104 rfl rfl rfl rfl (fun _ => ?_) (fun z => absurd trivial z)
  refine wm_as 38 M2 k_104 rfl rfl (by decide) rfl (show n < 501 by omega) (fun h3 M3 => ?_)
  refine wp_pure k_104 rfl rfl ?_
  refine wm_ga 39 M3 k_104 rfl rfl rfl (by decide) ?_
  refine wp_pure k_104 rfl rfl ?_
  refine wm_gi 26 M3 k_104 rfl rfl rfl rfl h26 ?_
  refine wp_pure k_104 rfl rfl ?_
  refine wp_km k_104 rfl rfl ?_
  refine wp_br k_104 rfl rfl rfl rfl (fun z => absurd rfl z) (fun _ => ?_)
  refine wp_pure k_104 rfl rfl ?_
  refine wm_gi 52 M3 k_104 rfl rfl rfl rfl f52 ?_
  refine wp_br k_104 rfl rfl rfl rfl (fun _ => ?_) (fun z => absurd trivial z)
  refine wm_as 39 M3 k_104 rfl rfl (by decide) rfl (show n < 501 by omega) (fun h4 M4 => ?_)
  refine wp_pure k_104 rfl rfl ?_
  refine wm_ga 40 M4 k_104 rfl rfl rfl (by decide) ?_
  refine wp_pure k_104 rfl rfl ?_
  refine wm_gi 26 M4 k_104 rfl rfl rfl rfl h26 ?_
  refine wp_pure k_104 rfl rfl ?_
  refine wp_br k_104 rfl rfl rfl rfl (fun _ => ?_) (fun z => absurd (show (nI 0 : Int32) = 0 by decide) z)
  refine wp_kn k_104 rfl rfl ?_
  refine wm_as 40 M4 k_104 rfl rfl (by decide) rfl (show n < 501 by omega) (fun h5 M5 => ?_)
  refine wp_pure k_104 rfl rfl ?_
  refine wm_ga 41 M5 k_104 rfl rfl rfl (by decide) ?_
  refine wp_pure k_104 rfl rfl ?_
  refine wm_gi 26 M5 k_104 rfl rfl rfl rfl h26 ?_
  refine wp_pure k_104 rfl rfl ?_
  refine wp_br k_104 rfl rfl rfl rfl (fun _ => ?_) (fun z => absurd (show (nI 0 : Int32) = 0 by decide) z)
  refine wp_kn k_104 rfl rfl ?_
  refine wm_as 41 M5 k_104 rfl rfl (by decide) rfl (show n < 501 by omega) (fun h6 M6 => ?_)
  refine wp_pure k_104 rfl rfl ?_
  refine wm_ga 42 M6 k_104 rfl rfl rfl (by decide) ?_
  refine wp_pure k_104 rfl rfl ?_
  refine wm_gi 26 M6 k_104 rfl rfl rfl rfl h26 ?_
  refine wp_pure k_104 rfl rfl ?_
  refine wp_kn k_104 rfl rfl ?_
  refine wp_br k_104 rfl rfl rfl rfl (fun _ => ?_) (fun z => absurd (show ¬ nI 2 = nI 1 by decide) z)
  refine wp_kn k_104 rfl rfl ?_
  refine wm_as 42 M6 k_104 rfl rfl (by decide) rfl (show n < 501 by omega) (fun h7 M7 => ?_)
  refine wp_pure k_104 rfl rfl ?_
  refine wm_ga 43 M7 k_104 rfl rfl rfl (by decide) ?_
  refine wp_pure k_104 rfl rfl ?_
  refine wm_gi 26 M7 k_104 rfl rfl rfl rfl h26 ?_
  refine wp_pure k_104 rfl rfl ?_
  refine wp_br k_104 rfl rfl rfl rfl (fun z => absurd z (show ¬ ((nI 2 : Int32) = 0) by decide)) (fun _ => ?_)
  refine wp_pure k_104 rfl rfl ?_
  refine wp_kn k_104 rfl rfl ?_
  refine wp_br k_104 rfl rfl rfl rfl (fun z => absurd z (show ¬ (¬ nI 2 = nI 2) by decide)) (fun _ => ?_)
  refine wp_km k_104 rfl rfl ?_
  refine wp_br k_104 rfl rfl rfl rfl (fun _ => ?_) (fun z => absurd trivial z)
  refine wm_as 43 M7 k_104 rfl rfl (by decide) rfl (show n < 501 by omega) (fun h8 M8 => ?_)
  refine wp_pure k_104 rfl rfl ?_
  refine wm_ga 34 M8 k_104 rfl rfl rfl (by decide) ?_
  refine wp_pure k_104 rfl rfl ?_
  refine wm_gi 26 M8 k_104 rfl rfl rfl rfl h26 ?_
  refine wp_pure k_104 rfl rfl ?_
  refine wp_kn k_104 rfl rfl ?_
  refine wp_br k_104 rfl rfl rfl rfl (fun _ => ?_) (fun z => absurd (show ¬ nI 2 = nI 6 by decide) z)
  refine wp_kn k_104 rfl rfl ?_
  refine wm_as 34 M8 k_104 rfl rfl (by decide) rfl (show n < 501 by omega) (fun h9 M9 => ?_)
  refine wp_kn k_104 rfl rfl ?_
  refine wp_pure k_104 rfl rfl ?_
  refine wp_pure k_104 rfl rfl ?_
  refine wp_pure k_104 rfl rfl ?_
  refine wm_ga 34 M9 k_104 rfl rfl rfl (by decide) ?_
  refine wp_pure k_104 rfl rfl ?_
  refine wm_gi 26 M9 k_104 rfl rfl rfl rfl h26 ?_
  refine wm_al 34 M9 k_104 rfl rfl (by decide) rfl (show n < 501 by omega) (v := nI 0) uA_at ?_
  refine wp_br k_104 rfl rfl rfl rfl (fun _ => ?_) (fun z => absurd (Int32.le_refl _) z)
  refine wp_pure k_104 rfl rfl ?_
  refine wp_pure k_104 rfl rfl ?_
  refine wm_gi 26 M9 k_104 rfl rfl rfl rfl h26 ?_
  refine wp_kn k_104 rfl rfl ?_
  refine wp_addN k_104 rfl ?_
  refine wm_pi 26 M9 k_104 rfl rfl rfl rfl rfl rfl (fun h10 M10 => ?_)
  refine wp_vrt k_104 rfl rfl ?_
  refine K _ _ M10 (fun k hk => ?_) (hR.push hps (fun k h1 h2 h3 i hi => ?_) (fun i hi => ?_) ⟨?_, ?_, ?_, ?_, ?_, ?_, ?_, ?_⟩ ?_ (Nat.zero_le 4) (fun i hi => absurd hi (Nat.not_lt_zero i)))
  · rw [uA_ne (out_ne hk (by decide)), uA_ne (out_ne hk (by decide)), uA_ne (out_ne hk (by decide)), uA_ne (out_ne hk (by decide)), uA_ne (out_ne hk (by decide)), uA_ne (out_ne hk (by decide)), uA_ne (out_ne hk (by decide)), uA_ne (out_ne hk (by decide)), uA_ne (out_ne hk (by decide))]
  · have hne : i ≠ n := by omega
    simp only [uA_i hne]
  · simp [uA_ne]
  · simp [uA_ne, uA_at, plP, plF]
  · simp [uA_ne, uA_at, plP, plF]
  · simp [uA_ne, uA_at, plP, plF]
  · simp [uA_ne, uA_at, plP, plF]
  · simp [uA_ne, uA_at, plP, plF]
  · simp [uA_ne, uA_at, plP, plF]
  · simp [uA_ne, uA_at, plP, plF]
  · simp [uA_ne, uA_at, plP, plF]
  · simp [uA_at, plP, plF]
theorem m_add_A3 {h0 h : sm_H} {m : Nat} {g : Nat → Int32} {ar : Nat → Nat → Int32} {Q : Nat → Option Value → sm_H → Prop} (M : MS h0 h m g ar) {n : Nat} (h26 : g 26 = nI n) (hn5 : n ≤ 500) {ps : List Pl} (hR : RT ar ps) (hps : ps.length = n) {v : Int32} {r : Nat} (f50 : g 50 = v) (f56 : g 56 = nI r) (hr : r < n) (K : ∀ h' ar', MS h0 h' m (uF g 26 (nI (n + 1))) ar' → (∀ k, ¬ (34 ≤ k ∧ k ≤ 43) → ar' k = ar k) → RT ar' (ps ++ [plA ps v 3 r []]) → Q 0 none h') : sm_wp 104 0 [.ref m, .int (nI 3), jk, jk, jk] [] h Q := by
  refine wp_pure k_104 rfl rfl ?_
  refine wm_ga 36 M k_104 rfl rfl rfl (by decide) ?_
  refine wp_pure k_104 rfl rfl ?_
  refine wm_gi 26 M k_104 rfl rfl rfl rfl h26 ?_
  refine wp_pure k_104 rfl rfl ?_
  refine wm_as 36 M k_104 rfl rfl (by decide) rfl (show n < 501 by omega) (fun h1 M1 => ?_)
  refine wp_pure k_104 rfl rfl ?_
  refine wm_ga 37 M1 k_104 rfl rfl rfl (by decide) ?_
  refine wp_pure k_104 rfl rfl ?_
  refine wm_gi 26 M1 k_104 rfl rfl rfl rfl h26 ?_
  refine wp_pure k_104 rfl rfl ?_
  refine wm_gi 50 M1 k_104 rfl rfl rfl rfl f50 ?_
  refine wm_as 37 M1 k_104 rfl rfl (by decide) rfl (show n < 501 by omega) (fun h2 M2 => ?_)
  refine wp_pure k_104 rfl rfl ?_
  refine wp_br k_104 rfl rfl rfl rfl (fun z => absurd z (show ¬ ((nI 3 : Int32) = 0) by decide)) (fun _ => ?_)
  refine wp_pure k_104 rfl rfl ?_
  refine wp_kn k_104 rfl rfl ?_
  refine wp_br k_104 rfl rfl rfl rfl (fun _ => ?_) (fun z => absurd (show ¬ nI 3 = nI 1 by decide) z)
  refine wp_kn k_104 rfl rfl ?_
  refine wp_pure k_104 rfl rfl ?_
  refine wp_pure k_104 rfl rfl ?_
  refine wp_br k_104 rfl rfl rfl rfl (fun z => absurd z (show ¬ (¬ (nI 0 : Int32) = 0) by decide)) (fun _ => ?_)
  refine wp_pure k_104 rfl rfl ?_
  refine wp_kn k_104 rfl rfl ?_
  refine wp_br k_104 rfl rfl rfl rfl (fun _ => ?_) (fun z => absurd (show ¬ nI 3 = nI 2 by decide) z)
  refine wp_pure k_104 rfl rfl ?_
  refine wm_gi 56 M2 k_104 rfl rfl rfl rfl f56 ?_
  refine wp_pure k_104 rfl rfl ?_
  refine wp_pure k_104 rfl rfl ?_
  refine wm_ga 38 M2 k_104 rfl rfl rfl (by decide) ?_
  refine wp_pure k_104 rfl rfl ?_
  refine wm_gi 26 M2 k_104 rfl rfl rfl rfl h26 ?_
  refine wp_pure k_104 rfl rfl ?_
  refine wp_km k_104 rfl rfl ?_
  refine wp_br k_104 rfl rfl rfl rfl (fun _ => ?_) (fun z => absurd (nI_nm1 (by omega)) z)
  refine wp_pure k_104 rfl rfl ?_
  refine wm_ga 38 M2 k_104 rfl rfl rfl (by decide) ?_
  refine wp_pure k_104 rfl rfl ?_
  refine wm_al 38 M2 k_104 rfl rfl (by decide) rfl (show r < 501 by omega) (v := atP ps 2 r) (by rw [uA_ne (by decide), uA_ne (by decide)]; exact (hR.xy (by omega)).1) ?_
  refine wm_as 38 M2 k_104 rfl rfl (by decide) rfl (show n < 501 by omega) (fun h3 M3 => ?_)
  refine wp_pure k_104 rfl rfl ?_
  refine wm_ga 39 M3 k_104 rfl rfl rfl (by decide) ?_
  refine wp_pure k_104 rfl rfl ?_
  refine wm_gi 26 M3 k_104 rfl rfl rfl rfl h26 ?_
  refine wp_pure k_104 rfl rfl ?_
  refine wp_km k_104 rfl rfl ?_
  refine wp_br k_104 rfl rfl rfl rfl (fun _ => ?_) (fun z => absurd (nI_nm1 (by omega)) z)
  refine wp_pure k_104 rfl rfl ?_
  refine wm_ga 39 M3 k_104 rfl rfl rfl (by decide) ?_
  refine wp_pure k_104 rfl rfl ?_
  refine wm_al 39 M3 k_104 rfl rfl (by decide) rfl (show r < 501 by omega) (v := atP ps 3 r) (by rw [uA_ne (by decide), uA_ne (by decide), uA_ne (by decide)]; exact (hR.xy (by omega)).2) ?_
  refine wm_as 39 M3 k_104 rfl rfl (by decide) rfl (show n < 501 by omega) (fun h4 M4 => ?_)
  refine wp_pure k_104 rfl rfl ?_
  refine wm_ga 40 M4 k_104 rfl rfl rfl (by decide) ?_
  refine wp_pure k_104 rfl rfl ?_
  refine wm_gi 26 M4 k_104 rfl rfl rfl rfl h26 ?_
  refine wp_pure k_104 rfl rfl ?_
  refine wp_br k_104 rfl rfl rfl rfl (fun _ => ?_) (fun z => absurd (show (nI 0 : Int32) = 0 by decide) z)
  refine wp_kn k_104 rfl rfl ?_
  refine wm_as 40 M4 k_104 rfl rfl (by decide) rfl (show n < 501 by omega) (fun h5 M5 => ?_)
  refine wp_pure k_104 rfl rfl ?_
  refine wm_ga 41 M5 k_104 rfl rfl rfl (by decide) ?_
  refine wp_pure k_104 rfl rfl ?_
  refine wm_gi 26 M5 k_104 rfl rfl rfl rfl h26 ?_
  refine wp_pure k_104 rfl rfl ?_
  refine wp_br k_104 rfl rfl rfl rfl (fun _ => ?_) (fun z => absurd (show (nI 0 : Int32) = 0 by decide) z)
  refine wp_kn k_104 rfl rfl ?_
  refine wm_as 41 M5 k_104 rfl rfl (by decide) rfl (show n < 501 by omega) (fun h6 M6 => ?_)
  refine wp_pure k_104 rfl rfl ?_
  refine wm_ga 42 M6 k_104 rfl rfl rfl (by decide) ?_
  refine wp_pure k_104 rfl rfl ?_
  refine wm_gi 26 M6 k_104 rfl rfl rfl rfl h26 ?_
  refine wp_pure k_104 rfl rfl ?_
  refine wp_kn k_104 rfl rfl ?_
  refine wp_br k_104 rfl rfl rfl rfl (fun _ => ?_) (fun z => absurd (show ¬ nI 3 = nI 1 by decide) z)
  refine wp_kn k_104 rfl rfl ?_
  refine wm_as 42 M6 k_104 rfl rfl (by decide) rfl (show n < 501 by omega) (fun h7 M7 => ?_)
  refine wp_pure k_104 rfl rfl ?_
  refine wm_ga 43 M7 k_104 rfl rfl rfl (by decide) ?_
  refine wp_pure k_104 rfl rfl ?_
  refine wm_gi 26 M7 k_104 rfl rfl rfl rfl h26 ?_
  refine wp_pure k_104 rfl rfl ?_
  refine wp_br k_104 rfl rfl rfl rfl (fun z => absurd z (show ¬ ((nI 3 : Int32) = 0) by decide)) (fun _ => ?_)
  refine wp_pure k_104 rfl rfl ?_
  refine wp_kn k_104 rfl rfl ?_
  refine wp_br k_104 rfl rfl rfl rfl (fun _ => ?_) (fun z => absurd (show ¬ nI 3 = nI 2 by decide) z)
  refine wp_pure k_104 rfl rfl ?_
  refine wm_gi 56 M7 k_104 rfl rfl rfl rfl f56 ?_
  refine wm_as 43 M7 k_104 rfl rfl (by decide) rfl (show n < 501 by omega) (fun h8 M8 => ?_)
  refine wp_pure k_104 rfl rfl ?_
  refine wm_ga 34 M8 k_104 rfl rfl rfl (by decide) ?_
  refine wp_pure k_104 rfl rfl ?_
  refine wm_gi 26 M8 k_104 rfl rfl rfl rfl h26 ?_
  refine wp_pure k_104 rfl rfl ?_
  refine wp_kn k_104 rfl rfl ?_
  refine wp_br k_104 rfl rfl rfl rfl (fun _ => ?_) (fun z => absurd (show ¬ nI 3 = nI 6 by decide) z)
  refine wp_kn k_104 rfl rfl ?_
  refine wm_as 34 M8 k_104 rfl rfl (by decide) rfl (show n < 501 by omega) (fun h9 M9 => ?_)
  refine wp_kn k_104 rfl rfl ?_
  refine wp_pure k_104 rfl rfl ?_
  refine wp_pure k_104 rfl rfl ?_
  refine wp_pure k_104 rfl rfl ?_
  refine wm_ga 34 M9 k_104 rfl rfl rfl (by decide) ?_
  refine wp_pure k_104 rfl rfl ?_
  refine wm_gi 26 M9 k_104 rfl rfl rfl rfl h26 ?_
  refine wm_al 34 M9 k_104 rfl rfl (by decide) rfl (show n < 501 by omega) (v := nI 0) uA_at ?_
  refine wp_br k_104 rfl rfl rfl rfl (fun _ => ?_) (fun z => absurd (Int32.le_refl _) z)
  refine wp_pure k_104 rfl rfl ?_
  refine wp_pure k_104 rfl rfl ?_
  refine wm_gi 26 M9 k_104 rfl rfl rfl rfl h26 ?_
  refine wp_kn k_104 rfl rfl ?_
  refine wp_addN k_104 rfl ?_
  refine wm_pi 26 M9 k_104 rfl rfl rfl rfl rfl rfl (fun h10 M10 => ?_)
  refine wp_vrt k_104 rfl rfl ?_
  refine K _ _ M10 (fun k hk => ?_) (hR.push hps (fun k h1 h2 h3 i hi => ?_) (fun i hi => ?_) ⟨?_, ?_, ?_, ?_, ?_, ?_, ?_, ?_⟩ ?_ (Nat.zero_le 4) (fun i hi => absurd hi (Nat.not_lt_zero i)))
  · rw [uA_ne (out_ne hk (by decide)), uA_ne (out_ne hk (by decide)), uA_ne (out_ne hk (by decide)), uA_ne (out_ne hk (by decide)), uA_ne (out_ne hk (by decide)), uA_ne (out_ne hk (by decide)), uA_ne (out_ne hk (by decide)), uA_ne (out_ne hk (by decide)), uA_ne (out_ne hk (by decide))]
  · have hne : i ≠ n := by omega
    simp only [uA_i hne]
  · simp [uA_ne]
  · simp [uA_ne, uA_at, plA, plF]
  · simp [uA_ne, uA_at, plA, plF]
  · simp [uA_ne, uA_at, plA, plF]
  · simp [uA_ne, uA_at, plA, plF]
  · simp [uA_ne, uA_at, plA, plF]
  · simp [uA_ne, uA_at, plA, plF]
  · simp [uA_ne, uA_at, plA, plF]
  · simp [uA_ne, uA_at, plA, plF]
  · simp [uA_at, plA, plF]
theorem m_add_A4 {h0 h : sm_H} {m : Nat} {g : Nat → Int32} {ar : Nat → Nat → Int32} {Q : Nat → Option Value → sm_H → Prop} (M : MS h0 h m g ar) {n : Nat} (h26 : g 26 = nI n) (hn5 : n ≤ 500) {ps : List Pl} (hR : RT ar ps) (hps : ps.length = n) {v : Int32} {r : Nat} (f50 : g 50 = v) (f56 : g 56 = nI r) (hr : r < n) (K : ∀ h' ar', MS h0 h' m (uF g 26 (nI (n + 1))) ar' → (∀ k, ¬ (34 ≤ k ∧ k ≤ 43) → ar' k = ar k) → RT ar' (ps ++ [plA ps v 4 r []]) → Q 0 none h') : sm_wp 104 0 [.ref m, .int (nI 4), jk, jk, jk] [] h Q := by
  refine wp_pure k_104 rfl rfl ?_
  refine wm_ga 36 M k_104 rfl rfl rfl (by decide) ?_
  refine wp_pure k_104 rfl rfl ?_
  refine wm_gi 26 M k_104 rfl rfl rfl rfl h26 ?_
  refine wp_pure k_104 rfl rfl ?_
  refine wm_as 36 M k_104 rfl rfl (by decide) rfl (show n < 501 by omega) (fun h1 M1 => ?_)
  refine wp_pure k_104 rfl rfl ?_
  refine wm_ga 37 M1 k_104 rfl rfl rfl (by decide) ?_
  refine wp_pure k_104 rfl rfl ?_
  refine wm_gi 26 M1 k_104 rfl rfl rfl rfl h26 ?_
  refine wp_pure k_104 rfl rfl ?_
  refine wm_gi 50 M1 k_104 rfl rfl rfl rfl f50 ?_
  refine wm_as 37 M1 k_104 rfl rfl (by decide) rfl (show n < 501 by omega) (fun h2 M2 => ?_)
  refine wp_pure k_104 rfl rfl ?_
  refine wp_br k_104 rfl rfl rfl rfl (fun z => absurd z (show ¬ ((nI 4 : Int32) = 0) by decide)) (fun _ => ?_)
  refine wp_pure k_104 rfl rfl ?_
  refine wp_kn k_104 rfl rfl ?_
  refine wp_br k_104 rfl rfl rfl rfl (fun _ => ?_) (fun z => absurd (show ¬ nI 4 = nI 1 by decide) z)
  refine wp_kn k_104 rfl rfl ?_
  refine wp_pure k_104 rfl rfl ?_
  refine wp_pure k_104 rfl rfl ?_
  refine wp_br k_104 rfl rfl rfl rfl (fun z => absurd z (show ¬ (¬ (nI 0 : Int32) = 0) by decide)) (fun _ => ?_)
  refine wp_pure k_104 rfl rfl ?_
  refine wp_kn k_104 rfl rfl ?_
  refine wp_br k_104 rfl rfl rfl rfl (fun _ => ?_) (fun z => absurd (show ¬ nI 4 = nI 2 by decide) z)
  refine wp_pure k_104 rfl rfl ?_
  refine wm_gi 56 M2 k_104 rfl rfl rfl rfl f56 ?_
  refine wp_pure k_104 rfl rfl ?_
  refine wp_pure k_104 rfl rfl ?_
  refine wm_ga 38 M2 k_104 rfl rfl rfl (by decide) ?_
  refine wp_pure k_104 rfl rfl ?_
  refine wm_gi 26 M2 k_104 rfl rfl rfl rfl h26 ?_
  refine wp_pure k_104 rfl rfl ?_
  refine wp_km k_104 rfl rfl ?_
  refine wp_br k_104 rfl rfl rfl rfl (fun _ => ?_) (fun z => absurd (nI_nm1 (by omega)) z)
  refine wp_pure k_104 rfl rfl ?_
  refine wm_ga 38 M2 k_104 rfl rfl rfl (by decide) ?_
  refine wp_pure k_104 rfl rfl ?_
  refine wm_al 38 M2 k_104 rfl rfl (by decide) rfl (show r < 501 by omega) (v := atP ps 2 r) (by rw [uA_ne (by decide), uA_ne (by decide)]; exact (hR.xy (by omega)).1) ?_
  refine wm_as 38 M2 k_104 rfl rfl (by decide) rfl (show n < 501 by omega) (fun h3 M3 => ?_)
  refine wp_pure k_104 rfl rfl ?_
  refine wm_ga 39 M3 k_104 rfl rfl rfl (by decide) ?_
  refine wp_pure k_104 rfl rfl ?_
  refine wm_gi 26 M3 k_104 rfl rfl rfl rfl h26 ?_
  refine wp_pure k_104 rfl rfl ?_
  refine wp_km k_104 rfl rfl ?_
  refine wp_br k_104 rfl rfl rfl rfl (fun _ => ?_) (fun z => absurd (nI_nm1 (by omega)) z)
  refine wp_pure k_104 rfl rfl ?_
  refine wm_ga 39 M3 k_104 rfl rfl rfl (by decide) ?_
  refine wp_pure k_104 rfl rfl ?_
  refine wm_al 39 M3 k_104 rfl rfl (by decide) rfl (show r < 501 by omega) (v := atP ps 3 r) (by rw [uA_ne (by decide), uA_ne (by decide), uA_ne (by decide)]; exact (hR.xy (by omega)).2) ?_
  refine wm_as 39 M3 k_104 rfl rfl (by decide) rfl (show n < 501 by omega) (fun h4 M4 => ?_)
  refine wp_pure k_104 rfl rfl ?_
  refine wm_ga 40 M4 k_104 rfl rfl rfl (by decide) ?_
  refine wp_pure k_104 rfl rfl ?_
  refine wm_gi 26 M4 k_104 rfl rfl rfl rfl h26 ?_
  refine wp_pure k_104 rfl rfl ?_
  refine wp_br k_104 rfl rfl rfl rfl (fun _ => ?_) (fun z => absurd (show (nI 0 : Int32) = 0 by decide) z)
  refine wp_kn k_104 rfl rfl ?_
  refine wm_as 40 M4 k_104 rfl rfl (by decide) rfl (show n < 501 by omega) (fun h5 M5 => ?_)
  refine wp_pure k_104 rfl rfl ?_
  refine wm_ga 41 M5 k_104 rfl rfl rfl (by decide) ?_
  refine wp_pure k_104 rfl rfl ?_
  refine wm_gi 26 M5 k_104 rfl rfl rfl rfl h26 ?_
  refine wp_pure k_104 rfl rfl ?_
  refine wp_br k_104 rfl rfl rfl rfl (fun _ => ?_) (fun z => absurd (show (nI 0 : Int32) = 0 by decide) z)
  refine wp_kn k_104 rfl rfl ?_
  refine wm_as 41 M5 k_104 rfl rfl (by decide) rfl (show n < 501 by omega) (fun h6 M6 => ?_)
  refine wp_pure k_104 rfl rfl ?_
  refine wm_ga 42 M6 k_104 rfl rfl rfl (by decide) ?_
  refine wp_pure k_104 rfl rfl ?_
  refine wm_gi 26 M6 k_104 rfl rfl rfl rfl h26 ?_
  refine wp_pure k_104 rfl rfl ?_
  refine wp_kn k_104 rfl rfl ?_
  refine wp_br k_104 rfl rfl rfl rfl (fun _ => ?_) (fun z => absurd (show ¬ nI 4 = nI 1 by decide) z)
  refine wp_kn k_104 rfl rfl ?_
  refine wm_as 42 M6 k_104 rfl rfl (by decide) rfl (show n < 501 by omega) (fun h7 M7 => ?_)
  refine wp_pure k_104 rfl rfl ?_
  refine wm_ga 43 M7 k_104 rfl rfl rfl (by decide) ?_
  refine wp_pure k_104 rfl rfl ?_
  refine wm_gi 26 M7 k_104 rfl rfl rfl rfl h26 ?_
  refine wp_pure k_104 rfl rfl ?_
  refine wp_br k_104 rfl rfl rfl rfl (fun z => absurd z (show ¬ ((nI 4 : Int32) = 0) by decide)) (fun _ => ?_)
  refine wp_pure k_104 rfl rfl ?_
  refine wp_kn k_104 rfl rfl ?_
  refine wp_br k_104 rfl rfl rfl rfl (fun _ => ?_) (fun z => absurd (show ¬ nI 4 = nI 2 by decide) z)
  refine wp_pure k_104 rfl rfl ?_
  refine wm_gi 56 M7 k_104 rfl rfl rfl rfl f56 ?_
  refine wm_as 43 M7 k_104 rfl rfl (by decide) rfl (show n < 501 by omega) (fun h8 M8 => ?_)
  refine wp_pure k_104 rfl rfl ?_
  refine wm_ga 34 M8 k_104 rfl rfl rfl (by decide) ?_
  refine wp_pure k_104 rfl rfl ?_
  refine wm_gi 26 M8 k_104 rfl rfl rfl rfl h26 ?_
  refine wp_pure k_104 rfl rfl ?_
  refine wp_kn k_104 rfl rfl ?_
  refine wp_br k_104 rfl rfl rfl rfl (fun _ => ?_) (fun z => absurd (show ¬ nI 4 = nI 6 by decide) z)
  refine wp_kn k_104 rfl rfl ?_
  refine wm_as 34 M8 k_104 rfl rfl (by decide) rfl (show n < 501 by omega) (fun h9 M9 => ?_)
  refine wp_kn k_104 rfl rfl ?_
  refine wp_pure k_104 rfl rfl ?_
  refine wp_pure k_104 rfl rfl ?_
  refine wp_pure k_104 rfl rfl ?_
  refine wm_ga 34 M9 k_104 rfl rfl rfl (by decide) ?_
  refine wp_pure k_104 rfl rfl ?_
  refine wm_gi 26 M9 k_104 rfl rfl rfl rfl h26 ?_
  refine wm_al 34 M9 k_104 rfl rfl (by decide) rfl (show n < 501 by omega) (v := nI 0) uA_at ?_
  refine wp_br k_104 rfl rfl rfl rfl (fun _ => ?_) (fun z => absurd (Int32.le_refl _) z)
  refine wp_pure k_104 rfl rfl ?_
  refine wp_pure k_104 rfl rfl ?_
  refine wm_gi 26 M9 k_104 rfl rfl rfl rfl h26 ?_
  refine wp_kn k_104 rfl rfl ?_
  refine wp_addN k_104 rfl ?_
  refine wm_pi 26 M9 k_104 rfl rfl rfl rfl rfl rfl (fun h10 M10 => ?_)
  refine wp_vrt k_104 rfl rfl ?_
  refine K _ _ M10 (fun k hk => ?_) (hR.push hps (fun k h1 h2 h3 i hi => ?_) (fun i hi => ?_) ⟨?_, ?_, ?_, ?_, ?_, ?_, ?_, ?_⟩ ?_ (Nat.zero_le 4) (fun i hi => absurd hi (Nat.not_lt_zero i)))
  · rw [uA_ne (out_ne hk (by decide)), uA_ne (out_ne hk (by decide)), uA_ne (out_ne hk (by decide)), uA_ne (out_ne hk (by decide)), uA_ne (out_ne hk (by decide)), uA_ne (out_ne hk (by decide)), uA_ne (out_ne hk (by decide)), uA_ne (out_ne hk (by decide)), uA_ne (out_ne hk (by decide))]
  · have hne : i ≠ n := by omega
    simp only [uA_i hne]
  · simp [uA_ne]
  · simp [uA_ne, uA_at, plA, plF]
  · simp [uA_ne, uA_at, plA, plF]
  · simp [uA_ne, uA_at, plA, plF]
  · simp [uA_ne, uA_at, plA, plF]
  · simp [uA_ne, uA_at, plA, plF]
  · simp [uA_ne, uA_at, plA, plF]
  · simp [uA_ne, uA_at, plA, plF]
  · simp [uA_ne, uA_at, plA, plF]
  · simp [uA_at, plA, plF]
theorem m_add_A5 {h0 h : sm_H} {m : Nat} {g : Nat → Int32} {ar : Nat → Nat → Int32} {Q : Nat → Option Value → sm_H → Prop} (M : MS h0 h m g ar) {n : Nat} (h26 : g 26 = nI n) (hn5 : n ≤ 500) {ps : List Pl} (hR : RT ar ps) (hps : ps.length = n) {v : Int32} {r : Nat} (f50 : g 50 = v) (f56 : g 56 = nI r) (hr : r < n) (K : ∀ h' ar', MS h0 h' m (uF g 26 (nI (n + 1))) ar' → (∀ k, ¬ (34 ≤ k ∧ k ≤ 43) → ar' k = ar k) → RT ar' (ps ++ [plA ps v 5 r []]) → Q 0 none h') : sm_wp 104 0 [.ref m, .int (nI 5), jk, jk, jk] [] h Q := by
  refine wp_pure k_104 rfl rfl ?_
  refine wm_ga 36 M k_104 rfl rfl rfl (by decide) ?_
  refine wp_pure k_104 rfl rfl ?_
  refine wm_gi 26 M k_104 rfl rfl rfl rfl h26 ?_
  refine wp_pure k_104 rfl rfl ?_
  refine wm_as 36 M k_104 rfl rfl (by decide) rfl (show n < 501 by omega) (fun h1 M1 => ?_)
  refine wp_pure k_104 rfl rfl ?_
  refine wm_ga 37 M1 k_104 rfl rfl rfl (by decide) ?_
  refine wp_pure k_104 rfl rfl ?_
  refine wm_gi 26 M1 k_104 rfl rfl rfl rfl h26 ?_
  refine wp_pure k_104 rfl rfl ?_
  refine wm_gi 50 M1 k_104 rfl rfl rfl rfl f50 ?_
  refine wm_as 37 M1 k_104 rfl rfl (by decide) rfl (show n < 501 by omega) (fun h2 M2 => ?_)
  refine wp_pure k_104 rfl rfl ?_
  refine wp_br k_104 rfl rfl rfl rfl (fun z => absurd z (show ¬ ((nI 5 : Int32) = 0) by decide)) (fun _ => ?_)
  refine wp_pure k_104 rfl rfl ?_
  refine wp_kn k_104 rfl rfl ?_
  refine wp_br k_104 rfl rfl rfl rfl (fun _ => ?_) (fun z => absurd (show ¬ nI 5 = nI 1 by decide) z)
  refine wp_kn k_104 rfl rfl ?_
  refine wp_pure k_104 rfl rfl ?_
  refine wp_pure k_104 rfl rfl ?_
  refine wp_br k_104 rfl rfl rfl rfl (fun z => absurd z (show ¬ (¬ (nI 0 : Int32) = 0) by decide)) (fun _ => ?_)
  refine wp_pure k_104 rfl rfl ?_
  refine wp_kn k_104 rfl rfl ?_
  refine wp_br k_104 rfl rfl rfl rfl (fun _ => ?_) (fun z => absurd (show ¬ nI 5 = nI 2 by decide) z)
  refine wp_pure k_104 rfl rfl ?_
  refine wm_gi 56 M2 k_104 rfl rfl rfl rfl f56 ?_
  refine wp_pure k_104 rfl rfl ?_
  refine wp_pure k_104 rfl rfl ?_
  refine wm_ga 38 M2 k_104 rfl rfl rfl (by decide) ?_
  refine wp_pure k_104 rfl rfl ?_
  refine wm_gi 26 M2 k_104 rfl rfl rfl rfl h26 ?_
  refine wp_pure k_104 rfl rfl ?_
  refine wp_km k_104 rfl rfl ?_
  refine wp_br k_104 rfl rfl rfl rfl (fun _ => ?_) (fun z => absurd (nI_nm1 (by omega)) z)
  refine wp_pure k_104 rfl rfl ?_
  refine wm_ga 38 M2 k_104 rfl rfl rfl (by decide) ?_
  refine wp_pure k_104 rfl rfl ?_
  refine wm_al 38 M2 k_104 rfl rfl (by decide) rfl (show r < 501 by omega) (v := atP ps 2 r) (by rw [uA_ne (by decide), uA_ne (by decide)]; exact (hR.xy (by omega)).1) ?_
  refine wm_as 38 M2 k_104 rfl rfl (by decide) rfl (show n < 501 by omega) (fun h3 M3 => ?_)
  refine wp_pure k_104 rfl rfl ?_
  refine wm_ga 39 M3 k_104 rfl rfl rfl (by decide) ?_
  refine wp_pure k_104 rfl rfl ?_
  refine wm_gi 26 M3 k_104 rfl rfl rfl rfl h26 ?_
  refine wp_pure k_104 rfl rfl ?_
  refine wp_km k_104 rfl rfl ?_
  refine wp_br k_104 rfl rfl rfl rfl (fun _ => ?_) (fun z => absurd (nI_nm1 (by omega)) z)
  refine wp_pure k_104 rfl rfl ?_
  refine wm_ga 39 M3 k_104 rfl rfl rfl (by decide) ?_
  refine wp_pure k_104 rfl rfl ?_
  refine wm_al 39 M3 k_104 rfl rfl (by decide) rfl (show r < 501 by omega) (v := atP ps 3 r) (by rw [uA_ne (by decide), uA_ne (by decide), uA_ne (by decide)]; exact (hR.xy (by omega)).2) ?_
  refine wm_as 39 M3 k_104 rfl rfl (by decide) rfl (show n < 501 by omega) (fun h4 M4 => ?_)
  refine wp_pure k_104 rfl rfl ?_
  refine wm_ga 40 M4 k_104 rfl rfl rfl (by decide) ?_
  refine wp_pure k_104 rfl rfl ?_
  refine wm_gi 26 M4 k_104 rfl rfl rfl rfl h26 ?_
  refine wp_pure k_104 rfl rfl ?_
  refine wp_br k_104 rfl rfl rfl rfl (fun _ => ?_) (fun z => absurd (show (nI 0 : Int32) = 0 by decide) z)
  refine wp_kn k_104 rfl rfl ?_
  refine wm_as 40 M4 k_104 rfl rfl (by decide) rfl (show n < 501 by omega) (fun h5 M5 => ?_)
  refine wp_pure k_104 rfl rfl ?_
  refine wm_ga 41 M5 k_104 rfl rfl rfl (by decide) ?_
  refine wp_pure k_104 rfl rfl ?_
  refine wm_gi 26 M5 k_104 rfl rfl rfl rfl h26 ?_
  refine wp_pure k_104 rfl rfl ?_
  refine wp_br k_104 rfl rfl rfl rfl (fun _ => ?_) (fun z => absurd (show (nI 0 : Int32) = 0 by decide) z)
  refine wp_kn k_104 rfl rfl ?_
  refine wm_as 41 M5 k_104 rfl rfl (by decide) rfl (show n < 501 by omega) (fun h6 M6 => ?_)
  refine wp_pure k_104 rfl rfl ?_
  refine wm_ga 42 M6 k_104 rfl rfl rfl (by decide) ?_
  refine wp_pure k_104 rfl rfl ?_
  refine wm_gi 26 M6 k_104 rfl rfl rfl rfl h26 ?_
  refine wp_pure k_104 rfl rfl ?_
  refine wp_kn k_104 rfl rfl ?_
  refine wp_br k_104 rfl rfl rfl rfl (fun _ => ?_) (fun z => absurd (show ¬ nI 5 = nI 1 by decide) z)
  refine wp_kn k_104 rfl rfl ?_
  refine wm_as 42 M6 k_104 rfl rfl (by decide) rfl (show n < 501 by omega) (fun h7 M7 => ?_)
  refine wp_pure k_104 rfl rfl ?_
  refine wm_ga 43 M7 k_104 rfl rfl rfl (by decide) ?_
  refine wp_pure k_104 rfl rfl ?_
  refine wm_gi 26 M7 k_104 rfl rfl rfl rfl h26 ?_
  refine wp_pure k_104 rfl rfl ?_
  refine wp_br k_104 rfl rfl rfl rfl (fun z => absurd z (show ¬ ((nI 5 : Int32) = 0) by decide)) (fun _ => ?_)
  refine wp_pure k_104 rfl rfl ?_
  refine wp_kn k_104 rfl rfl ?_
  refine wp_br k_104 rfl rfl rfl rfl (fun _ => ?_) (fun z => absurd (show ¬ nI 5 = nI 2 by decide) z)
  refine wp_pure k_104 rfl rfl ?_
  refine wm_gi 56 M7 k_104 rfl rfl rfl rfl f56 ?_
  refine wm_as 43 M7 k_104 rfl rfl (by decide) rfl (show n < 501 by omega) (fun h8 M8 => ?_)
  refine wp_pure k_104 rfl rfl ?_
  refine wm_ga 34 M8 k_104 rfl rfl rfl (by decide) ?_
  refine wp_pure k_104 rfl rfl ?_
  refine wm_gi 26 M8 k_104 rfl rfl rfl rfl h26 ?_
  refine wp_pure k_104 rfl rfl ?_
  refine wp_kn k_104 rfl rfl ?_
  refine wp_br k_104 rfl rfl rfl rfl (fun _ => ?_) (fun z => absurd (show ¬ nI 5 = nI 6 by decide) z)
  refine wp_kn k_104 rfl rfl ?_
  refine wm_as 34 M8 k_104 rfl rfl (by decide) rfl (show n < 501 by omega) (fun h9 M9 => ?_)
  refine wp_kn k_104 rfl rfl ?_
  refine wp_pure k_104 rfl rfl ?_
  refine wp_pure k_104 rfl rfl ?_
  refine wp_pure k_104 rfl rfl ?_
  refine wm_ga 34 M9 k_104 rfl rfl rfl (by decide) ?_
  refine wp_pure k_104 rfl rfl ?_
  refine wm_gi 26 M9 k_104 rfl rfl rfl rfl h26 ?_
  refine wm_al 34 M9 k_104 rfl rfl (by decide) rfl (show n < 501 by omega) (v := nI 0) uA_at ?_
  refine wp_br k_104 rfl rfl rfl rfl (fun _ => ?_) (fun z => absurd (Int32.le_refl _) z)
  refine wp_pure k_104 rfl rfl ?_
  refine wp_pure k_104 rfl rfl ?_
  refine wm_gi 26 M9 k_104 rfl rfl rfl rfl h26 ?_
  refine wp_kn k_104 rfl rfl ?_
  refine wp_addN k_104 rfl ?_
  refine wm_pi 26 M9 k_104 rfl rfl rfl rfl rfl rfl (fun h10 M10 => ?_)
  refine wp_vrt k_104 rfl rfl ?_
  refine K _ _ M10 (fun k hk => ?_) (hR.push hps (fun k h1 h2 h3 i hi => ?_) (fun i hi => ?_) ⟨?_, ?_, ?_, ?_, ?_, ?_, ?_, ?_⟩ ?_ (Nat.zero_le 4) (fun i hi => absurd hi (Nat.not_lt_zero i)))
  · rw [uA_ne (out_ne hk (by decide)), uA_ne (out_ne hk (by decide)), uA_ne (out_ne hk (by decide)), uA_ne (out_ne hk (by decide)), uA_ne (out_ne hk (by decide)), uA_ne (out_ne hk (by decide)), uA_ne (out_ne hk (by decide)), uA_ne (out_ne hk (by decide)), uA_ne (out_ne hk (by decide))]
  · have hne : i ≠ n := by omega
    simp only [uA_i hne]
  · simp [uA_ne]
  · simp [uA_ne, uA_at, plA, plF]
  · simp [uA_ne, uA_at, plA, plF]
  · simp [uA_ne, uA_at, plA, plF]
  · simp [uA_ne, uA_at, plA, plF]
  · simp [uA_ne, uA_at, plA, plF]
  · simp [uA_ne, uA_at, plA, plF]
  · simp [uA_ne, uA_at, plA, plF]
  · simp [uA_ne, uA_at, plA, plF]
  · simp [uA_at, plA, plF]
theorem m_addE_L {h0 h : sm_H} {m : Nat} {g : Nat → Int32} {ar : Nat → Nat → Int32} {Q : Nat → Option Value → sm_H → Prop} (M : MS h0 h m g ar) {n : Nat} (h26 : g 26 = nI n) (hn5 : n ≤ 500) {l : List Nat} (hl4 : l.length ≤ 4) (h34 : ar 34 n = nI l.length) (h57 : ∀ i, i < l.length → ar 57 i = nI (l.getD i 0)) {a b c : Int32} (K : ∀ h' ar', MS h0 h' m (uF g 26 (nI (n + 1))) ar' → (∀ k, k ≠ 35 → ar' k = ar k) → (∀ j, j < 4 * n → ar' 35 j = ar 35 j) → (∀ i, i < l.length → ar' 35 (4 * n + i) = nI (l.getD i 0)) → Q 0 none h') : sm_wp 104 226 [.ref m, .int a, .int b, .int c, .int (nI 0)] [] h Q := by
  refine dn (n := l.length) (P := fun i => ∀ h1 ar1, MS h0 h1 m g ar1 → (∀ k, k ≠ 35 → ar1 k = ar k) → (∀ j, j < 4 * n → ar1 35 j = ar 35 j) → (∀ i', i' < i → ar1 35 (4 * n + i') = nI (l.getD i' 0)) → sm_wp 104 226 [.ref m, .int a, .int b, .int c, .int (nI i)] [] h1 Q) ?_ ?_ 0 (Nat.zero_le _) h ar M (fun _ _ => rfl) (fun _ _ => rfl) (fun i hi => absurd hi (Nat.not_lt_zero i))
  · intro h1 ar1 N fA fB fC
    refine wp_pure k_104 rfl rfl ?_
    refine wp_pure k_104 rfl rfl ?_
    refine wm_ga 34 N k_104 rfl rfl rfl (by decide) ?_
    refine wp_pure k_104 rfl rfl ?_
    refine wm_gi 26 N k_104 rfl rfl rfl rfl h26 ?_
    refine wm_al 34 N k_104 rfl rfl (by decide) rfl (show n < 501 by omega) (v := nI l.length) (by rw [fA 34 (by decide)]; exact h34) ?_
    refine wp_br k_104 rfl rfl rfl rfl (fun _ => ?_) (fun z => absurd (Int32.le_refl _) z)
    refine wp_pure k_104 rfl rfl ?_
    refine wp_pure k_104 rfl rfl ?_
    refine wm_gi 26 N k_104 rfl rfl rfl rfl h26 ?_
    refine wp_kn k_104 rfl rfl ?_
    refine wp_addN k_104 rfl ?_
    refine wm_pi 26 N k_104 rfl rfl rfl rfl rfl rfl (fun h1 M1 => ?_)
    exact wp_vrt k_104 rfl rfl (K _ _ M1 fA fB fC)
  · intro i hi ih h1 ar1 N fA fB fC
    refine wp_pure k_104 rfl rfl ?_
    refine wp_pure k_104 rfl rfl ?_
    refine wm_ga 34 N k_104 rfl rfl rfl (by decide) ?_
    refine wp_pure k_104 rfl rfl ?_
    refine wm_gi 26 N k_104 rfl rfl rfl rfl h26 ?_
    refine wm_al 34 N k_104 rfl rfl (by decide) rfl (show n < 501 by omega) (v := nI l.length) (by rw [fA 34 (by decide)]; exact h34) ?_
    refine wp_br k_104 rfl rfl rfl rfl (fun z => absurd z (nI_ge hi (by omega))) (fun _ => ?_)
    refine wp_pure k_104 rfl rfl ?_
    refine wm_ga 35 N k_104 rfl rfl rfl (by decide) ?_
    refine wp_kn k_104 rfl rfl ?_
    refine wp_pure k_104 rfl rfl ?_
    refine wm_gi 26 N k_104 rfl rfl rfl rfl h26 ?_
    refine wp_mulN k_104 rfl ?_
    refine wp_pure k_104 rfl rfl ?_
    refine wp_addN k_104 rfl ?_
    refine wp_pure k_104 rfl rfl ?_
    refine wm_ga 57 N k_104 rfl rfl rfl (by decide) ?_
    refine wp_pure k_104 rfl rfl ?_
    refine wm_al 57 N k_104 rfl rfl (by decide) rfl (show i < 4 by omega) (v := nI (l.getD i 0)) (by rw [fA 57 (by decide)]; exact h57 i hi) ?_
    refine wm_as 35 N k_104 rfl rfl (by decide) rfl (show ((4 * n) + i) < 2004 by omega) (fun h1 M1 => ?_)
    refine wp_inc k_104 rfl rfl rfl ?_
    refine wp_br k_104 rfl rfl rfl rfl (fun _ => ?_) (fun z => absurd trivial z)
    refine ih _ _ M1 (fun k hk => (uA_ne hk).trans (fA k hk)) (fun j hj => (uA_nn (by omega)).trans (fB j hj)) (fun i' hi' => ?_)
    by_cases e : i' = i
    · rw [e]; exact uA_at
    · exact (uA_nn (by omega)).trans (fC i' (by omega))
theorem m_add_E {h0 h : sm_H} {m : Nat} {g : Nat → Int32} {ar : Nat → Nat → Int32} {Q : Nat → Option Value → sm_H → Prop} (M : MS h0 h m g ar) {n : Nat} (h26 : g 26 = nI n) (hn5 : n ≤ 500) {ps : List Pl} (hR : RT ar ps) (hps : ps.length = n) {v : Int32} {r : Nat} {l : List Nat} (f50 : g 50 = v) (f56 : g 56 = nI r) (f58 : g 58 = nI l.length) (hr : r < n) (hl4 : l.length ≤ 4) (h57 : ∀ i, i < l.length → ar 57 i = nI (l.getD i 0)) (K : ∀ h' ar', MS h0 h' m (uF g 26 (nI (n + 1))) ar' → (∀ k, ¬ (34 ≤ k ∧ k ≤ 43) → ar' k = ar k) → RT ar' (ps ++ [plA ps v 6 r l]) → Q 0 none h') : sm_wp 104 0 [.ref m, .int (nI 6), jk, jk, jk] [] h Q := by
  refine wp_pure k_104 rfl rfl ?_
  refine wm_ga 36 M k_104 rfl rfl rfl (by decide) ?_
  refine wp_pure k_104 rfl rfl ?_
  refine wm_gi 26 M k_104 rfl rfl rfl rfl h26 ?_
  refine wp_pure k_104 rfl rfl ?_
  refine wm_as 36 M k_104 rfl rfl (by decide) rfl (show n < 501 by omega) (fun h1 M1 => ?_)
  refine wp_pure k_104 rfl rfl ?_
  refine wm_ga 37 M1 k_104 rfl rfl rfl (by decide) ?_
  refine wp_pure k_104 rfl rfl ?_
  refine wm_gi 26 M1 k_104 rfl rfl rfl rfl h26 ?_
  refine wp_pure k_104 rfl rfl ?_
  refine wm_gi 50 M1 k_104 rfl rfl rfl rfl f50 ?_
  refine wm_as 37 M1 k_104 rfl rfl (by decide) rfl (show n < 501 by omega) (fun h2 M2 => ?_)
  refine wp_pure k_104 rfl rfl ?_
  refine wp_br k_104 rfl rfl rfl rfl (fun z => absurd z (show ¬ ((nI 6 : Int32) = 0) by decide)) (fun _ => ?_)
  refine wp_pure k_104 rfl rfl ?_
  refine wp_kn k_104 rfl rfl ?_
  refine wp_br k_104 rfl rfl rfl rfl (fun _ => ?_) (fun z => absurd (show ¬ nI 6 = nI 1 by decide) z)
  refine wp_kn k_104 rfl rfl ?_
  refine wp_pure k_104 rfl rfl ?_
  refine wp_pure k_104 rfl rfl ?_
  refine wp_br k_104 rfl rfl rfl rfl (fun z => absurd z (show ¬ (¬ (nI 0 : Int32) = 0) by decide)) (fun _ => ?_)
  refine wp_pure k_104 rfl rfl ?_
  refine wp_kn k_104 rfl rfl ?_
  refine wp_br k_104 rfl rfl rfl rfl (fun _ => ?_) (fun z => absurd (show ¬ nI 6 = nI 2 by decide) z)
  refine wp_pure k_104 rfl rfl ?_
  refine wm_gi 56 M2 k_104 rfl rfl rfl rfl f56 ?_
  refine wp_pure k_104 rfl rfl ?_
  refine wp_pure k_104 rfl rfl ?_
  refine wm_ga 38 M2 k_104 rfl rfl rfl (by decide) ?_
  refine wp_pure k_104 rfl rfl ?_
  refine wm_gi 26 M2 k_104 rfl rfl rfl rfl h26 ?_
  refine wp_pure k_104 rfl rfl ?_
  refine wp_km k_104 rfl rfl ?_
  refine wp_br k_104 rfl rfl rfl rfl (fun _ => ?_) (fun z => absurd (nI_nm1 (by omega)) z)
  refine wp_pure k_104 rfl rfl ?_
  refine wm_ga 38 M2 k_104 rfl rfl rfl (by decide) ?_
  refine wp_pure k_104 rfl rfl ?_
  refine wm_al 38 M2 k_104 rfl rfl (by decide) rfl (show r < 501 by omega) (v := atP ps 2 r) (by rw [uA_ne (by decide), uA_ne (by decide)]; exact (hR.xy (by omega)).1) ?_
  refine wm_as 38 M2 k_104 rfl rfl (by decide) rfl (show n < 501 by omega) (fun h3 M3 => ?_)
  refine wp_pure k_104 rfl rfl ?_
  refine wm_ga 39 M3 k_104 rfl rfl rfl (by decide) ?_
  refine wp_pure k_104 rfl rfl ?_
  refine wm_gi 26 M3 k_104 rfl rfl rfl rfl h26 ?_
  refine wp_pure k_104 rfl rfl ?_
  refine wp_km k_104 rfl rfl ?_
  refine wp_br k_104 rfl rfl rfl rfl (fun _ => ?_) (fun z => absurd (nI_nm1 (by omega)) z)
  refine wp_pure k_104 rfl rfl ?_
  refine wm_ga 39 M3 k_104 rfl rfl rfl (by decide) ?_
  refine wp_pure k_104 rfl rfl ?_
  refine wm_al 39 M3 k_104 rfl rfl (by decide) rfl (show r < 501 by omega) (v := atP ps 3 r) (by rw [uA_ne (by decide), uA_ne (by decide), uA_ne (by decide)]; exact (hR.xy (by omega)).2) ?_
  refine wm_as 39 M3 k_104 rfl rfl (by decide) rfl (show n < 501 by omega) (fun h4 M4 => ?_)
  refine wp_pure k_104 rfl rfl ?_
  refine wm_ga 40 M4 k_104 rfl rfl rfl (by decide) ?_
  refine wp_pure k_104 rfl rfl ?_
  refine wm_gi 26 M4 k_104 rfl rfl rfl rfl h26 ?_
  refine wp_pure k_104 rfl rfl ?_
  refine wp_br k_104 rfl rfl rfl rfl (fun _ => ?_) (fun z => absurd (show (nI 0 : Int32) = 0 by decide) z)
  refine wp_kn k_104 rfl rfl ?_
  refine wm_as 40 M4 k_104 rfl rfl (by decide) rfl (show n < 501 by omega) (fun h5 M5 => ?_)
  refine wp_pure k_104 rfl rfl ?_
  refine wm_ga 41 M5 k_104 rfl rfl rfl (by decide) ?_
  refine wp_pure k_104 rfl rfl ?_
  refine wm_gi 26 M5 k_104 rfl rfl rfl rfl h26 ?_
  refine wp_pure k_104 rfl rfl ?_
  refine wp_br k_104 rfl rfl rfl rfl (fun _ => ?_) (fun z => absurd (show (nI 0 : Int32) = 0 by decide) z)
  refine wp_kn k_104 rfl rfl ?_
  refine wm_as 41 M5 k_104 rfl rfl (by decide) rfl (show n < 501 by omega) (fun h6 M6 => ?_)
  refine wp_pure k_104 rfl rfl ?_
  refine wm_ga 42 M6 k_104 rfl rfl rfl (by decide) ?_
  refine wp_pure k_104 rfl rfl ?_
  refine wm_gi 26 M6 k_104 rfl rfl rfl rfl h26 ?_
  refine wp_pure k_104 rfl rfl ?_
  refine wp_kn k_104 rfl rfl ?_
  refine wp_br k_104 rfl rfl rfl rfl (fun _ => ?_) (fun z => absurd (show ¬ nI 6 = nI 1 by decide) z)
  refine wp_kn k_104 rfl rfl ?_
  refine wm_as 42 M6 k_104 rfl rfl (by decide) rfl (show n < 501 by omega) (fun h7 M7 => ?_)
  refine wp_pure k_104 rfl rfl ?_
  refine wm_ga 43 M7 k_104 rfl rfl rfl (by decide) ?_
  refine wp_pure k_104 rfl rfl ?_
  refine wm_gi 26 M7 k_104 rfl rfl rfl rfl h26 ?_
  refine wp_pure k_104 rfl rfl ?_
  refine wp_br k_104 rfl rfl rfl rfl (fun z => absurd z (show ¬ ((nI 6 : Int32) = 0) by decide)) (fun _ => ?_)
  refine wp_pure k_104 rfl rfl ?_
  refine wp_kn k_104 rfl rfl ?_
  refine wp_br k_104 rfl rfl rfl rfl (fun _ => ?_) (fun z => absurd (show ¬ nI 6 = nI 2 by decide) z)
  refine wp_pure k_104 rfl rfl ?_
  refine wm_gi 56 M7 k_104 rfl rfl rfl rfl f56 ?_
  refine wm_as 43 M7 k_104 rfl rfl (by decide) rfl (show n < 501 by omega) (fun h8 M8 => ?_)
  refine wp_pure k_104 rfl rfl ?_
  refine wm_ga 34 M8 k_104 rfl rfl rfl (by decide) ?_
  refine wp_pure k_104 rfl rfl ?_
  refine wm_gi 26 M8 k_104 rfl rfl rfl rfl h26 ?_
  refine wp_pure k_104 rfl rfl ?_
  refine wp_kn k_104 rfl rfl ?_
  refine wp_br k_104 rfl rfl rfl rfl (fun z => absurd z (show ¬ (¬ nI 6 = nI 6) by decide)) (fun _ => ?_)
  refine wp_pure k_104 rfl rfl ?_
  refine wm_gi 58 M8 k_104 rfl rfl rfl rfl f58 ?_
  refine wp_br k_104 rfl rfl rfl rfl (fun _ => ?_) (fun z => absurd trivial z)
  refine wm_as 34 M8 k_104 rfl rfl (by decide) rfl (show n < 501 by omega) (fun h9 M9 => ?_)
  refine wp_kn k_104 rfl rfl ?_
  refine wp_pure k_104 rfl rfl ?_
  refine m_addE_L M9 h26 hn5 hl4 uA_at (fun i hi => ?_) (fun hX arX MX fA fB fC => K hX arX MX (fun k hk => ?_) (hR.push hps (fun k h1 h2 h3 i hi => ?_) (fun i hi => ?_) ⟨?_, ?_, ?_, ?_, ?_, ?_, ?_, ?_⟩ ?_ hl4 fC))
  · rw [uA_ne (by decide), uA_ne (by decide), uA_ne (by decide), uA_ne (by decide), uA_ne (by decide), uA_ne (by decide), uA_ne (by decide), uA_ne (by decide), uA_ne (by decide)]; exact h57 i hi
  · rw [fA k (out_ne hk (by decide)), uA_ne (out_ne hk (by decide)), uA_ne (out_ne hk (by decide)), uA_ne (out_ne hk (by decide)), uA_ne (out_ne hk (by decide)), uA_ne (out_ne hk (by decide)), uA_ne (out_ne hk (by decide)), uA_ne (out_ne hk (by decide)), uA_ne (out_ne hk (by decide)), uA_ne (out_ne hk (by decide))]
  · have hne : i ≠ n := by omega
    rw [fA k h3]
    simp only [uA_i hne]
  · rw [fB i hi]; simp [uA_ne]
  · rw [fA 37 (by decide)]; simp [uA_ne, uA_at, plA, plF]
  · rw [fA 36 (by decide)]; simp [uA_ne, uA_at, plA, plF]
  · rw [fA 38 (by decide)]; simp [uA_ne, uA_at, plA, plF]
  · rw [fA 39 (by decide)]; simp [uA_ne, uA_at, plA, plF]
  · rw [fA 40 (by decide)]; simp [uA_ne, uA_at, plA, plF]
  · rw [fA 41 (by decide)]; simp [uA_ne, uA_at, plA, plF]
  · rw [fA 42 (by decide)]; simp [uA_ne, uA_at, plA, plF]
  · rw [fA 43 (by decide)]; simp [uA_ne, uA_at, plA, plF]
  · rw [fA 34 (by decide)]; simp [uA_at, plA]
