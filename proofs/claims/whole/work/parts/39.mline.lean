/-- what a line adds -/
def addL (E : List Pl × List (Nat × Nat × Bool) × List (Nat × Nat)) (r : LR) : List Pl × List (Nat × Nat × Bool) × List (Nat × Nat) := match r with
  | .inl P => (E.1 ++ [P], E.2.1, E.2.2)
  | .inr (.inl w) => (E.1, E.2.1 ++ [w], E.2.2)
  | .inr (.inr v) => (E.1, E.2.1, E.2.2 ++ [v])
def RWs (ar : Nat → Nat → Int32) (ws : List (Nat × Nat × Bool)) : Prop := ∀ i a b t, i < 60 → ws[i]? = some (a, b, t) → ar 28 i = nI a ∧ ar 29 i = nI b ∧ ar 30 i = nI t.toNat
def RVs (ar : Nat → Nat → Int32) (vs : List (Nat × Nat)) : Prop := ∀ i a b, i < 60 → vs[i]? = some (a, b) → ar 32 i = nI a ∧ ar 33 i = nI b
/-- the reference's fields while it reads -/
def RM (g : Nat → Int32) (ar : Nat → Nat → Int32) (E : List Pl × List (Nat × Nat × Bool) × List (Nat × Nat)) : Prop := g 26 = nI E.1.length ∧ RT ar E.1 ∧ g 27 = nI E.2.1.length ∧ g 31 = nI E.2.2.length ∧ g 25 = nI (decide (60 < E.2.1.length + E.2.2.length)).toNat ∧ RWs ar E.2.1 ∧ RVs ar E.2.2
def gSc : List Nat := [23, 24, 25, 26, 27, 31, 48, 49, 50, 51, 52, 53, 54, 55, 56, 58, 59, 60, 61]
def arF (ar ar' : Nat → Nat → Int32) : Prop := ∀ k, (k < 28 ∨ 43 < k) → k ≠ 57 → ar' k = ar k
theorem RWs.same {ar ar' : Nat → Nat → Int32} {ws : List (Nat × Nat × Bool)} (h : RWs ar ws) (e : ar' 28 = ar 28 ∧ ar' 29 = ar 29 ∧ ar' 30 = ar 30) : RWs ar' ws := by
  intro i a b t hi hw
  rw [e.1, e.2.1, e.2.2]
  exact h i a b t hi hw
theorem RVs.same {ar ar' : Nat → Nat → Int32} {vs : List (Nat × Nat)} (h : RVs ar vs) (e : ar' 32 = ar 32 ∧ ar' 33 = ar 33) : RVs ar' vs := by
  intro i a b hi hw
  rw [e.1, e.2]
  exact h i a b hi hw
theorem RWs.push {ar ar' : Nat → Nat → Int32} {ws : List (Nat × Nat × Bool)} {w : Nat × Nat × Bool} (h : RWs ar ws) (e : ∀ i, i < ws.length → ar' 28 i = ar 28 i ∧ ar' 29 i = ar 29 i ∧ ar' 30 i = ar 30 i) (e2 : ws.length < 60 → ar' 28 ws.length = nI w.1 ∧ ar' 29 ws.length = nI w.2.1 ∧ ar' 30 ws.length = nI w.2.2.toNat) : RWs ar' (ws ++ [w]) := by
  intro i a b t hi hw
  by_cases hl : i < ws.length
  · rw [List.getElem?_append_left hl] at hw
    rw [(e i hl).1, (e i hl).2.1, (e i hl).2.2]
    exact h i a b t hi hw
  · have h2 := (List.getElem?_eq_some_iff.mp hw).1
    rw [List.length_append] at h2
    have h3 : i = ws.length := by have : i < ws.length + 1 := h2; omega
    subst h3
    rw [List.getElem?_append_right (Nat.le_refl _), Nat.sub_self] at hw
    cases hw
    exact e2 hi
theorem RVs.push {ar ar' : Nat → Nat → Int32} {vs : List (Nat × Nat)} {w : Nat × Nat} (h : RVs ar vs) (e : ∀ i, i < vs.length → ar' 32 i = ar 32 i ∧ ar' 33 i = ar 33 i) (e2 : vs.length < 60 → ar' 32 vs.length = nI w.1 ∧ ar' 33 vs.length = nI w.2) : RVs ar' (vs ++ [w]) := by
  intro i a b hi hw
  by_cases hl : i < vs.length
  · rw [List.getElem?_append_left hl] at hw
    rw [(e i hl).1, (e i hl).2]
    exact h i a b hi hw
  · have h2 := (List.getElem?_eq_some_iff.mp hw).1
    rw [List.length_append] at h2
    have h3 : i = vs.length := by have : i < vs.length + 1 := h2; omega
    subst h3
    rw [List.getElem?_append_right (Nat.le_refl _), Nat.sub_self] at hw
    cases hw
    exact e2 hi
/-- a place is added -/
theorem RM.place {g g' : Nat → Int32} {ar ar' : Nat → Nat → Int32} {E : List Pl × List (Nat × Nat × Bool) × List (Nat × Nat)} {P : Pl} (h : RM g ar E) (h26 : g' 26 = nI (E.1.length + 1)) (hR : RT ar' (E.1 ++ [P])) (hg : g' 27 = g 27 ∧ g' 31 = g 31 ∧ g' 25 = g 25) (ha : ∀ k, k = 28 ∨ k = 29 ∨ k = 30 ∨ k = 32 ∨ k = 33 → ar' k = ar k) : RM g' ar' (addL E (.inl P)) := by
  obtain ⟨a, b, c, d, f, i, j⟩ := h
  refine ⟨?_, hR, hg.1.trans c, hg.2.1.trans d, hg.2.2.trans f, i.same ⟨ha 28 (by omega), ha 29 (by omega), ha 30 (by omega)⟩, j.same ⟨ha 32 (by omega), ha 33 (by omega)⟩⟩
  rw [h26]
  show _ = nI (E.1 ++ [P]).length
  rw [List.length_append]
  rfl
theorem m_line_R {h0 h : sm_H} {m : Nat} {g : Nat → Int32} {ar : Nat → Nat → Int32} {Q : Nat → Option Value → sm_H → Prop} (M : MS h0 h m g ar) {len p : Nat} (hn : g 2 = nI len) (hl : len ≤ 3000) (hp : g 23 = nI p) (hpl : p < len) {E : List Pl × List (Nat × Nat × Bool) × List (Nat × Nat)} (hE : RM g ar E) (h5 : E.1.length ≤ 500) (hc : tk (ar 1) len p = nI 82) (K1 : ∀ h' g' ar' r q, MS h0 h' m g' ar' → eqx gSc g g' → arF ar ar' → lineM (ar 1) len E.1 p = .ok (r, q) → g' 23 = nI q → RM g' ar' (addL E r) → Q 0 (some (.int (nI 1))) h') (K0 : ∀ h' g' ar' q, MS h0 h' m g' ar' → eqx gSc g g' → arF ar ar' → lineM (ar 1) len E.1 p = .error q → g' 24 = nI q → Q 0 (some (.int (nI 0))) h') : sm_wp 85 0 [.ref m, jk, jk] [] h Q := by
  refine wp_pure k_85 rfl rfl ?_
  refine wm_iv k_85 rfl rfl M [] rfl (r := []) (Nat.le_of_ble_eq_true rfl) (Nat.le_of_ble_eq_true rfl) rfl ?_
  refine m_next M hn hl hp (by omega) ⟨rfl, ?_⟩
  rw [Option.toList, hc]
  refine wp_pure k_85 rfl rfl ?_
  refine wp_pure k_85 rfl rfl ?_
  refine wp_is k_85 rfl (by decide) [.int (nI 82)] rfl (r := []) (Nat.le_of_ble_eq_true rfl) (Nat.le_of_ble_eq_true rfl) rfl ?_
  refine wp_pure k_87 rfl rfl ?_
  refine wp_kn k_87 rfl rfl ?_
  refine wp_br k_87 rfl rfl rfl rfl (fun z => absurd z (show ¬ (¬ nI 82 = nI 82) by decide)) (fun _ => ?_)
  refine wp_kn k_87 rfl rfl ?_
  refine wp_br k_87 rfl rfl rfl rfl (fun _ => ?_) (fun z => absurd trivial z)
  refine wp_irt k_87 rfl rfl rfl ⟨rfl, ?_⟩
  refine wp_pure k_85 rfl rfl ?_
  refine wp_pure k_85 rfl rfl ?_
  refine wp_km k_85 rfl rfl ?_
  refine wp_br k_85 rfl rfl rfl rfl (fun _ => ?_) (fun z => absurd (nI_nm1 (by omega)) z)
  refine wp_pure k_85 rfl rfl ?_
  refine wp_pure k_85 rfl rfl ?_
  refine wm_gi 23 M k_85 rfl rfl rfl rfl hp ?_
  refine wp_kn k_85 rfl rfl ?_
  refine wp_addN k_85 rfl ?_
  refine wm_pi 23 M k_85 rfl rfl rfl rfl rfl rfl (fun h1 M1 => ?_)
  refine wp_pure k_85 rfl rfl ?_
  refine wp_km k_85 rfl rfl ?_
  refine wp_br k_85 rfl rfl rfl rfl (fun z => absurd z (nI_nm1 (by omega))) (fun _ => ?_)
  refine wp_pure k_85 rfl rfl ?_
  refine wp_pure k_85 rfl rfl ?_
  refine wm_iv k_85 rfl rfl M1 [.int (nI 0)] rfl (r := []) (Nat.le_of_ble_eq_true rfl) (Nat.le_of_ble_eq_true rfl) rfl ?_
  refine wp_pure k_89 rfl rfl ?_
  refine wp_br k_89 rfl rfl rfl rfl (fun z => absurd z (show ¬ (¬ (nI 0 : Int32) = 0) by decide)) (fun _ => ?_)
  refine wp_pure k_89 rfl rfl ?_
  refine wm_iv k_89 rfl rfl M1 [] rfl (r := []) (Nat.le_of_ble_eq_true rfl) (Nat.le_of_ble_eq_true rfl) rfl ?_
  refine m_rack M1 ((uF_ne (by decide)).trans hn) hl uF_at (by omega) ((uF_ne (by decide)).trans hE.1) (by omega) (fun h2 g2 v2 x2 y2 w2 hh2 q2 M2 e2 z2 a2 b2 c2 d2 f2 i2 => ⟨rfl, ?_⟩) (fun h3 g3 q3 M3 e3 z3 a3 => ⟨rfl, ?_⟩)
  · refine wp_br k_89 rfl rfl rfl rfl (fun _ => ?_) (fun z => absurd trivial z)
    refine wp_irt k_89 rfl rfl rfl ⟨rfl, ?_⟩
    refine wp_br k_85 rfl rfl rfl rfl (fun _ => ?_) (fun z => absurd (show ¬ (nI 1 : Int32) = 0 by decide) z)
    refine wp_pure k_85 rfl rfl ?_
    refine wp_pure k_85 rfl rfl ?_
    refine wm_iv k_85 rfl rfl M2 [.int (nI 0)] rfl (r := []) (Nat.le_of_ble_eq_true rfl) (Nat.le_of_ble_eq_true rfl) rfl ?_
    refine m_add_R M2 ((e2 26 (by decide)).trans ((uF_ne (by decide)).trans hE.1)) (by omega) hE.2.1 rfl b2 c2 d2 f2 i2 (fun h4 ar4 M4 f4 r4 => ⟨rfl, ?_⟩)
    refine wp_kn k_85 rfl rfl ?_
    exact wp_irt k_85 rfl rfl rfl (K1 _ _ _ (.inl (plR v2 x2 y2 w2 hh2)) _ M4 ((((eqx.refl _ _).u (by decide)).t e2 (by decide)).u (by decide)) (fun k h1 h2 => (f4 k (by omega))) (by unfold lineM; rw [if_pos hc, ← rackM_congr hE.2.1.nm, z2]) ((uF_ne (by decide)).trans a2) (hE.place uF_at r4 ⟨(((((eqx.refl _ _).u (by decide)).t e2 (by decide)).u (by decide)) : eqx [23, 24, 26, 48, 49, 50, 51, 52, 53, 54, 55, 56, 58, 59, 60, 61] g _) 27 (by decide), (((((eqx.refl _ _).u (by decide)).t e2 (by decide)).u (by decide)) : eqx [23, 24, 26, 48, 49, 50, 51, 52, 53, 54, 55, 56, 58, 59, 60, 61] g _) 31 (by decide), (((((eqx.refl _ _).u (by decide)).t e2 (by decide)).u (by decide)) : eqx [23, 24, 26, 48, 49, 50, 51, 52, 53, 54, 55, 56, 58, 59, 60, 61] g _) 25 (by decide)⟩ (fun k hk => (f4 k (by omega)))))
  · refine wp_br k_89 rfl rfl rfl rfl (fun _ => ?_) (fun z => absurd trivial z)
    refine wp_irt k_89 rfl rfl rfl ⟨rfl, ?_⟩
    refine wp_br k_85 rfl rfl rfl rfl (fun z => absurd z (show ¬ (¬ (nI 0 : Int32) = 0) by decide)) (fun _ => ?_)
    refine wp_kn k_85 rfl rfl ?_
    exact wp_irt k_85 rfl rfl rfl (K0 _ _ _ _ M3 (((eqx.refl _ _).u (by decide)).t e3 (by decide)) (fun _ _ _ => rfl) (by unfold lineM; rw [if_pos hc, ← rackM_congr hE.2.1.nm, z3]) a3)
theorem m_line_B {h0 h : sm_H} {m : Nat} {g : Nat → Int32} {ar : Nat → Nat → Int32} {Q : Nat → Option Value → sm_H → Prop} (M : MS h0 h m g ar) {len p : Nat} (hn : g 2 = nI len) (hl : len ≤ 3000) (hp : g 23 = nI p) (hpl : p < len) {E : List Pl × List (Nat × Nat × Bool) × List (Nat × Nat)} (hE : RM g ar E) (h5 : E.1.length ≤ 500) (hc : tk (ar 1) len p = nI 66) (K1 : ∀ h' g' ar' r q, MS h0 h' m g' ar' → eqx gSc g g' → arF ar ar' → lineM (ar 1) len E.1 p = .ok (r, q) → g' 23 = nI q → RM g' ar' (addL E r) → Q 0 (some (.int (nI 1))) h') (K0 : ∀ h' g' ar' q, MS h0 h' m g' ar' → eqx gSc g g' → arF ar ar' → lineM (ar 1) len E.1 p = .error q → g' 24 = nI q → Q 0 (some (.int (nI 0))) h') : sm_wp 85 0 [.ref m, jk, jk] [] h Q := by
  refine wp_pure k_85 rfl rfl ?_
  refine wm_iv k_85 rfl rfl M [] rfl (r := []) (Nat.le_of_ble_eq_true rfl) (Nat.le_of_ble_eq_true rfl) rfl ?_
  refine m_next M hn hl hp (by omega) ⟨rfl, ?_⟩
  rw [Option.toList, hc]
  refine wp_pure k_85 rfl rfl ?_
  refine wp_pure k_85 rfl rfl ?_
  refine wp_is k_85 rfl (by decide) [.int (nI 66)] rfl (r := []) (Nat.le_of_ble_eq_true rfl) (Nat.le_of_ble_eq_true rfl) rfl ?_
  refine wp_pure k_87 rfl rfl ?_
  refine wp_kn k_87 rfl rfl ?_
  refine wp_br k_87 rfl rfl rfl rfl (fun _ => ?_) (fun z => absurd (show ¬ nI 66 = nI 82 by decide) z)
  refine wp_pure k_87 rfl rfl ?_
  refine wp_kn k_87 rfl rfl ?_
  refine wp_br k_87 rfl rfl rfl rfl (fun z => absurd z (show ¬ (¬ nI 66 = nI 66) by decide)) (fun _ => ?_)
  refine wp_kn k_87 rfl rfl ?_
  refine wp_br k_87 rfl rfl rfl rfl (fun _ => ?_) (fun z => absurd trivial z)
  refine wp_irt k_87 rfl rfl rfl ⟨rfl, ?_⟩
  refine wp_pure k_85 rfl rfl ?_
  refine wp_pure k_85 rfl rfl ?_
  refine wp_km k_85 rfl rfl ?_
  refine wp_br k_85 rfl rfl rfl rfl (fun _ => ?_) (fun z => absurd (nI_nm1 (by omega)) z)
  refine wp_pure k_85 rfl rfl ?_
  refine wp_pure k_85 rfl rfl ?_
  refine wm_gi 23 M k_85 rfl rfl rfl rfl hp ?_
  refine wp_kn k_85 rfl rfl ?_
  refine wp_addN k_85 rfl ?_
  refine wm_pi 23 M k_85 rfl rfl rfl rfl rfl rfl (fun h1 M1 => ?_)
  refine wp_pure k_85 rfl rfl ?_
  refine wp_km k_85 rfl rfl ?_
  refine wp_br k_85 rfl rfl rfl rfl (fun z => absurd z (nI_nm1 (by omega))) (fun _ => ?_)
  refine wp_pure k_85 rfl rfl ?_
  refine wp_pure k_85 rfl rfl ?_
  refine wm_iv k_85 rfl rfl M1 [.int (nI 1)] rfl (r := []) (Nat.le_of_ble_eq_true rfl) (Nat.le_of_ble_eq_true rfl) rfl ?_
  refine wp_pure k_89 rfl rfl ?_
  refine wp_br k_89 rfl rfl rfl rfl (fun _ => ?_) (fun z => absurd (show ¬ (nI 1 : Int32) = 0 by decide) z)
  refine wp_pure k_89 rfl rfl ?_
  refine wp_kn k_89 rfl rfl ?_
  refine wp_br k_89 rfl rfl rfl rfl (fun z => absurd z (show ¬ (¬ nI 1 = nI 1) by decide)) (fun _ => ?_)
  refine wp_pure k_89 rfl rfl ?_
  refine wm_iv k_89 rfl rfl M1 [] rfl (r := []) (Nat.le_of_ble_eq_true rfl) (Nat.le_of_ble_eq_true rfl) rfl ?_
  refine m_bin M1 ((uF_ne (by decide)).trans hn) hl uF_at (by omega) ((uF_ne (by decide)).trans hE.1) (by omega) (fun h2 g2 v2 r2 l2 x2 y2 w2 hh2 q2 M2 e2 z2 a2 b2 c2 d2 f2 i2 j2 n2 => ⟨rfl, ?_⟩) (fun h3 g3 q3 M3 e3 z3 a3 => ⟨rfl, ?_⟩)
  · refine wp_br k_89 rfl rfl rfl rfl (fun _ => ?_) (fun z => absurd trivial z)
    refine wp_irt k_89 rfl rfl rfl ⟨rfl, ?_⟩
    refine wp_br k_85 rfl rfl rfl rfl (fun _ => ?_) (fun z => absurd (show ¬ (nI 1 : Int32) = 0 by decide) z)
    refine wp_pure k_85 rfl rfl ?_
    refine wp_pure k_85 rfl rfl ?_
    refine wm_iv k_85 rfl rfl M2 [.int (nI 1)] rfl (r := []) (Nat.le_of_ble_eq_true rfl) (Nat.le_of_ble_eq_true rfl) rfl ?_
    refine m_add_B M2 ((e2 26 (by decide)).trans ((uF_ne (by decide)).trans hE.1)) (by omega) hE.2.1 rfl b2 f2 i2 j2 n2 d2 c2 (fun h4 ar4 M4 f4 r4 => ⟨rfl, ?_⟩)
    refine wp_kn k_85 rfl rfl ?_
    exact wp_irt k_85 rfl rfl rfl (K1 _ _ _ (.inl (plB v2 r2 l2 x2 y2 w2 hh2)) _ M4 ((((eqx.refl _ _).u (by decide)).t e2 (by decide)).u (by decide)) (fun k h1 h2 => (f4 k (by omega))) (by unfold lineM; rw [if_neg (show ¬ tk (ar 1) len p = nI 82 by rw [hc]; decide), if_pos hc, ← binM_congr hE.2.1.nm hE.2.1.kd, z2]) ((uF_ne (by decide)).trans a2) (hE.place uF_at r4 ⟨(((((eqx.refl _ _).u (by decide)).t e2 (by decide)).u (by decide)) : eqx [23, 24, 26, 48, 49, 50, 51, 52, 53, 54, 55, 56, 58, 59, 60, 61] g _) 27 (by decide), (((((eqx.refl _ _).u (by decide)).t e2 (by decide)).u (by decide)) : eqx [23, 24, 26, 48, 49, 50, 51, 52, 53, 54, 55, 56, 58, 59, 60, 61] g _) 31 (by decide), (((((eqx.refl _ _).u (by decide)).t e2 (by decide)).u (by decide)) : eqx [23, 24, 26, 48, 49, 50, 51, 52, 53, 54, 55, 56, 58, 59, 60, 61] g _) 25 (by decide)⟩ (fun k hk => (f4 k (by omega)))))
  · refine wp_br k_89 rfl rfl rfl rfl (fun _ => ?_) (fun z => absurd trivial z)
    refine wp_irt k_89 rfl rfl rfl ⟨rfl, ?_⟩
    refine wp_br k_85 rfl rfl rfl rfl (fun z => absurd z (show ¬ (¬ (nI 0 : Int32) = 0) by decide)) (fun _ => ?_)
    refine wp_kn k_85 rfl rfl ?_
    exact wp_irt k_85 rfl rfl rfl (K0 _ _ _ _ M3 (((eqx.refl _ _).u (by decide)).t e3 (by decide)) (fun _ _ _ => rfl) (by unfold lineM; rw [if_neg (show ¬ tk (ar 1) len p = nI 82 by rw [hc]; decide), if_pos hc, ← binM_congr hE.2.1.nm hE.2.1.kd, z3]) a3)
theorem m_line_P {h0 h : sm_H} {m : Nat} {g : Nat → Int32} {ar : Nat → Nat → Int32} {Q : Nat → Option Value → sm_H → Prop} (M : MS h0 h m g ar) {len p : Nat} (hn : g 2 = nI len) (hl : len ≤ 3000) (hp : g 23 = nI p) (hpl : p < len) {E : List Pl × List (Nat × Nat × Bool) × List (Nat × Nat)} (hE : RM g ar E) (h5 : E.1.length ≤ 500) (hc : tk (ar 1) len p = nI 80) (K1 : ∀ h' g' ar' r q, MS h0 h' m g' ar' → eqx gSc g g' → arF ar ar' → lineM (ar 1) len E.1 p = .ok (r, q) → g' 23 = nI q → RM g' ar' (addL E r) → Q 0 (some (.int (nI 1))) h') (K0 : ∀ h' g' ar' q, MS h0 h' m g' ar' → eqx gSc g g' → arF ar ar' → lineM (ar 1) len E.1 p = .error q → g' 24 = nI q → Q 0 (some (.int (nI 0))) h') : sm_wp 85 0 [.ref m, jk, jk] [] h Q := by
  refine wp_pure k_85 rfl rfl ?_
  refine wm_iv k_85 rfl rfl M [] rfl (r := []) (Nat.le_of_ble_eq_true rfl) (Nat.le_of_ble_eq_true rfl) rfl ?_
  refine m_next M hn hl hp (by omega) ⟨rfl, ?_⟩
  rw [Option.toList, hc]
  refine wp_pure k_85 rfl rfl ?_
  refine wp_pure k_85 rfl rfl ?_
  refine wp_is k_85 rfl (by decide) [.int (nI 80)] rfl (r := []) (Nat.le_of_ble_eq_true rfl) (Nat.le_of_ble_eq_true rfl) rfl ?_
  refine wp_pure k_87 rfl rfl ?_
  refine wp_kn k_87 rfl rfl ?_
  refine wp_br k_87 rfl rfl rfl rfl (fun _ => ?_) (fun z => absurd (show ¬ nI 80 = nI 82 by decide) z)
  refine wp_pure k_87 rfl rfl ?_
  refine wp_kn k_87 rfl rfl ?_
  refine wp_br k_87 rfl rfl rfl rfl (fun _ => ?_) (fun z => absurd (show ¬ nI 80 = nI 66 by decide) z)
  refine wp_pure k_87 rfl rfl ?_
  refine wp_kn k_87 rfl rfl ?_
  refine wp_br k_87 rfl rfl rfl rfl (fun z => absurd z (show ¬ (¬ nI 80 = nI 80) by decide)) (fun _ => ?_)
  refine wp_kn k_87 rfl rfl ?_
  refine wp_br k_87 rfl rfl rfl rfl (fun _ => ?_) (fun z => absurd trivial z)
  refine wp_irt k_87 rfl rfl rfl ⟨rfl, ?_⟩
  refine wp_pure k_85 rfl rfl ?_
  refine wp_pure k_85 rfl rfl ?_
  refine wp_km k_85 rfl rfl ?_
  refine wp_br k_85 rfl rfl rfl rfl (fun _ => ?_) (fun z => absurd (nI_nm1 (by omega)) z)
  refine wp_pure k_85 rfl rfl ?_
  refine wp_pure k_85 rfl rfl ?_
  refine wm_gi 23 M k_85 rfl rfl rfl rfl hp ?_
  refine wp_kn k_85 rfl rfl ?_
  refine wp_addN k_85 rfl ?_
  refine wm_pi 23 M k_85 rfl rfl rfl rfl rfl rfl (fun h1 M1 => ?_)
  refine wp_pure k_85 rfl rfl ?_
  refine wp_km k_85 rfl rfl ?_
  refine wp_br k_85 rfl rfl rfl rfl (fun z => absurd z (nI_nm1 (by omega))) (fun _ => ?_)
  refine wp_pure k_85 rfl rfl ?_
  refine wp_pure k_85 rfl rfl ?_
  refine wm_iv k_85 rfl rfl M1 [.int (nI 2)] rfl (r := []) (Nat.le_of_ble_eq_true rfl) (Nat.le_of_ble_eq_true rfl) rfl ?_
  refine wp_pure k_89 rfl rfl ?_
  refine wp_br k_89 rfl rfl rfl rfl (fun _ => ?_) (fun z => absurd (show ¬ (nI 2 : Int32) = 0 by decide) z)
  refine wp_pure k_89 rfl rfl ?_
  refine wp_kn k_89 rfl rfl ?_
  refine wp_br k_89 rfl rfl rfl rfl (fun _ => ?_) (fun z => absurd (show ¬ nI 2 = nI 1 by decide) z)
  refine wp_pure k_89 rfl rfl ?_
  refine wp_kn k_89 rfl rfl ?_
  refine wp_br k_89 rfl rfl rfl rfl (fun z => absurd z (show ¬ (¬ nI 2 = nI 2) by decide)) (fun _ => ?_)
  refine wp_pure k_89 rfl rfl ?_
  refine wm_iv k_89 rfl rfl M1 [] rfl (r := []) (Nat.le_of_ble_eq_true rfl) (Nat.le_of_ble_eq_true rfl) rfl ?_
  refine m_piece M1 ((uF_ne (by decide)).trans hn) hl uF_at (by omega) ((uF_ne (by decide)).trans hE.1) (by omega) (fun h2 g2 v2 x2 y2 q2 M2 e2 z2 a2 b2 c2 d2 => ⟨rfl, ?_⟩) (fun h3 g3 q3 M3 e3 z3 a3 => ⟨rfl, ?_⟩)
  · refine wp_br k_89 rfl rfl rfl rfl (fun _ => ?_) (fun z => absurd trivial z)
    refine wp_irt k_89 rfl rfl rfl ⟨rfl, ?_⟩
    refine wp_br k_85 rfl rfl rfl rfl (fun _ => ?_) (fun z => absurd (show ¬ (nI 1 : Int32) = 0 by decide) z)
    refine wp_pure k_85 rfl rfl ?_
    refine wp_pure k_85 rfl rfl ?_
    refine wm_iv k_85 rfl rfl M2 [.int (nI 2)] rfl (r := []) (Nat.le_of_ble_eq_true rfl) (Nat.le_of_ble_eq_true rfl) rfl ?_
    refine m_add_P M2 ((e2 26 (by decide)).trans ((uF_ne (by decide)).trans hE.1)) (by omega) hE.2.1 rfl b2 c2 d2 (fun h4 ar4 M4 f4 r4 => ⟨rfl, ?_⟩)
    refine wp_kn k_85 rfl rfl ?_
    exact wp_irt k_85 rfl rfl rfl (K1 _ _ _ (.inl (plP v2 x2 y2)) _ M4 ((((eqx.refl _ _).u (by decide)).t e2 (by decide)).u (by decide)) (fun k h1 h2 => (f4 k (by omega))) (by unfold lineM; rw [if_neg (show ¬ tk (ar 1) len p = nI 82 by rw [hc]; decide), if_neg (show ¬ tk (ar 1) len p = nI 66 by rw [hc]; decide), if_pos hc, ← pieceM_congr hE.2.1.nm, z2]) ((uF_ne (by decide)).trans a2) (hE.place uF_at r4 ⟨(((((eqx.refl _ _).u (by decide)).t e2 (by decide)).u (by decide)) : eqx [23, 24, 26, 48, 49, 50, 51, 52, 53, 54, 55, 56, 58, 59, 60, 61] g _) 27 (by decide), (((((eqx.refl _ _).u (by decide)).t e2 (by decide)).u (by decide)) : eqx [23, 24, 26, 48, 49, 50, 51, 52, 53, 54, 55, 56, 58, 59, 60, 61] g _) 31 (by decide), (((((eqx.refl _ _).u (by decide)).t e2 (by decide)).u (by decide)) : eqx [23, 24, 26, 48, 49, 50, 51, 52, 53, 54, 55, 56, 58, 59, 60, 61] g _) 25 (by decide)⟩ (fun k hk => (f4 k (by omega)))))
  · refine wp_br k_89 rfl rfl rfl rfl (fun _ => ?_) (fun z => absurd trivial z)
    refine wp_irt k_89 rfl rfl rfl ⟨rfl, ?_⟩
    refine wp_br k_85 rfl rfl rfl rfl (fun z => absurd z (show ¬ (¬ (nI 0 : Int32) = 0) by decide)) (fun _ => ?_)
    refine wp_kn k_85 rfl rfl ?_
    exact wp_irt k_85 rfl rfl rfl (K0 _ _ _ _ M3 (((eqx.refl _ _).u (by decide)).t e3 (by decide)) (fun _ _ _ => rfl) (by unfold lineM; rw [if_neg (show ¬ tk (ar 1) len p = nI 82 by rw [hc]; decide), if_neg (show ¬ tk (ar 1) len p = nI 66 by rw [hc]; decide), if_pos hc, ← pieceM_congr hE.2.1.nm, z3]) a3)
theorem m_line_D {h0 h : sm_H} {m : Nat} {g : Nat → Int32} {ar : Nat → Nat → Int32} {Q : Nat → Option Value → sm_H → Prop} (M : MS h0 h m g ar) {len p : Nat} (hn : g 2 = nI len) (hl : len ≤ 3000) (hp : g 23 = nI p) (hpl : p < len) {E : List Pl × List (Nat × Nat × Bool) × List (Nat × Nat)} (hE : RM g ar E) (h5 : E.1.length ≤ 500) (hc : tk (ar 1) len p = nI 68) (K1 : ∀ h' g' ar' r q, MS h0 h' m g' ar' → eqx gSc g g' → arF ar ar' → lineM (ar 1) len E.1 p = .ok (r, q) → g' 23 = nI q → RM g' ar' (addL E r) → Q 0 (some (.int (nI 1))) h') (K0 : ∀ h' g' ar' q, MS h0 h' m g' ar' → eqx gSc g g' → arF ar ar' → lineM (ar 1) len E.1 p = .error q → g' 24 = nI q → Q 0 (some (.int (nI 0))) h') : sm_wp 85 0 [.ref m, jk, jk] [] h Q := by
  refine wp_pure k_85 rfl rfl ?_
  refine wm_iv k_85 rfl rfl M [] rfl (r := []) (Nat.le_of_ble_eq_true rfl) (Nat.le_of_ble_eq_true rfl) rfl ?_
  refine m_next M hn hl hp (by omega) ⟨rfl, ?_⟩
  rw [Option.toList, hc]
  refine wp_pure k_85 rfl rfl ?_
  refine wp_pure k_85 rfl rfl ?_
  refine wp_is k_85 rfl (by decide) [.int (nI 68)] rfl (r := []) (Nat.le_of_ble_eq_true rfl) (Nat.le_of_ble_eq_true rfl) rfl ?_
  refine wp_pure k_87 rfl rfl ?_
  refine wp_kn k_87 rfl rfl ?_
  refine wp_br k_87 rfl rfl rfl rfl (fun _ => ?_) (fun z => absurd (show ¬ nI 68 = nI 82 by decide) z)
  refine wp_pure k_87 rfl rfl ?_
  refine wp_kn k_87 rfl rfl ?_
  refine wp_br k_87 rfl rfl rfl rfl (fun _ => ?_) (fun z => absurd (show ¬ nI 68 = nI 66 by decide) z)
  refine wp_pure k_87 rfl rfl ?_
  refine wp_kn k_87 rfl rfl ?_
  refine wp_br k_87 rfl rfl rfl rfl (fun _ => ?_) (fun z => absurd (show ¬ nI 68 = nI 80 by decide) z)
  refine wp_pure k_87 rfl rfl ?_
  refine wp_kn k_87 rfl rfl ?_
  refine wp_br k_87 rfl rfl rfl rfl (fun z => absurd z (show ¬ (¬ nI 68 = nI 68) by decide)) (fun _ => ?_)
  refine wp_kn k_87 rfl rfl ?_
  refine wp_br k_87 rfl rfl rfl rfl (fun _ => ?_) (fun z => absurd trivial z)
  refine wp_irt k_87 rfl rfl rfl ⟨rfl, ?_⟩
  refine wp_pure k_85 rfl rfl ?_
  refine wp_pure k_85 rfl rfl ?_
  refine wp_km k_85 rfl rfl ?_
  refine wp_br k_85 rfl rfl rfl rfl (fun _ => ?_) (fun z => absurd (nI_nm1 (by omega)) z)
  refine wp_pure k_85 rfl rfl ?_
  refine wp_pure k_85 rfl rfl ?_
  refine wm_gi 23 M k_85 rfl rfl rfl rfl hp ?_
  refine wp_kn k_85 rfl rfl ?_
  refine wp_addN k_85 rfl ?_
  refine wm_pi 23 M k_85 rfl rfl rfl rfl rfl rfl (fun h1 M1 => ?_)
  refine wp_pure k_85 rfl rfl ?_
  refine wp_km k_85 rfl rfl ?_
  refine wp_br k_85 rfl rfl rfl rfl (fun z => absurd z (nI_nm1 (by omega))) (fun _ => ?_)
  refine wp_pure k_85 rfl rfl ?_
  refine wp_pure k_85 rfl rfl ?_
  refine wm_iv k_85 rfl rfl M1 [.int (nI 3)] rfl (r := []) (Nat.le_of_ble_eq_true rfl) (Nat.le_of_ble_eq_true rfl) rfl ?_
  refine wp_pure k_89 rfl rfl ?_
  refine wp_br k_89 rfl rfl rfl rfl (fun _ => ?_) (fun z => absurd (show ¬ (nI 3 : Int32) = 0 by decide) z)
  refine wp_pure k_89 rfl rfl ?_
  refine wp_kn k_89 rfl rfl ?_
  refine wp_br k_89 rfl rfl rfl rfl (fun _ => ?_) (fun z => absurd (show ¬ nI 3 = nI 1 by decide) z)
  refine wp_pure k_89 rfl rfl ?_
  refine wp_kn k_89 rfl rfl ?_
  refine wp_br k_89 rfl rfl rfl rfl (fun _ => ?_) (fun z => absurd (show ¬ nI 3 = nI 2 by decide) z)
  refine wp_pure k_89 rfl rfl ?_
  refine wp_kn k_89 rfl rfl ?_
  refine wp_br k_89 rfl rfl rfl rfl (fun _ => ?_) (fun z => absurd (show ¬ nI 3 = nI 6 by decide) z)
  refine wp_pure k_89 rfl rfl ?_
  refine wm_iv k_89 rfl rfl M1 [] rfl (r := []) (Nat.le_of_ble_eq_true rfl) (Nat.le_of_ble_eq_true rfl) rfl ?_
  refine m_atp M1 ((uF_ne (by decide)).trans hn) hl uF_at (by omega) ((uF_ne (by decide)).trans hE.1) (by omega) (fun h2 g2 v2 r2 q2 M2 e2 z2 a2 b2 c2 => ⟨rfl, ?_⟩) (fun h3 g3 q3 M3 e3 z3 a3 => ⟨rfl, ?_⟩)
  · refine wp_irt k_89 rfl rfl rfl ⟨rfl, ?_⟩
    refine wp_br k_85 rfl rfl rfl rfl (fun _ => ?_) (fun z => absurd (show ¬ (nI 1 : Int32) = 0 by decide) z)
    refine wp_pure k_85 rfl rfl ?_
    refine wp_pure k_85 rfl rfl ?_
    refine wm_iv k_85 rfl rfl M2 [.int (nI 3)] rfl (r := []) (Nat.le_of_ble_eq_true rfl) (Nat.le_of_ble_eq_true rfl) rfl ?_
    refine m_add_A3 M2 ((e2 26 (by decide)).trans ((uF_ne (by decide)).trans hE.1)) (by omega) hE.2.1 rfl b2 c2 (atpM_ok z2).2.2.1 (fun h4 ar4 M4 f4 r4 => ⟨rfl, ?_⟩)
    refine wp_kn k_85 rfl rfl ?_
    exact wp_irt k_85 rfl rfl rfl (K1 _ _ _ (.inl (plA E.1 v2 3 r2 [])) _ M4 ((((eqx.refl _ _).u (by decide)).t e2 (by decide)).u (by decide)) (fun k h1 h2 => (f4 k (by omega))) (by unfold lineM; rw [if_neg (show ¬ tk (ar 1) len p = nI 82 by rw [hc]; decide), if_neg (show ¬ tk (ar 1) len p = nI 66 by rw [hc]; decide), if_neg (show ¬ tk (ar 1) len p = nI 80 by rw [hc]; decide), if_pos hc, atL, ← atpM_congr hE.2.1.nm hE.2.1.kd, z2]) ((uF_ne (by decide)).trans a2) (hE.place uF_at r4 ⟨(((((eqx.refl _ _).u (by decide)).t e2 (by decide)).u (by decide)) : eqx [23, 24, 26, 48, 49, 50, 51, 52, 53, 54, 55, 56, 58, 59, 60, 61] g _) 27 (by decide), (((((eqx.refl _ _).u (by decide)).t e2 (by decide)).u (by decide)) : eqx [23, 24, 26, 48, 49, 50, 51, 52, 53, 54, 55, 56, 58, 59, 60, 61] g _) 31 (by decide), (((((eqx.refl _ _).u (by decide)).t e2 (by decide)).u (by decide)) : eqx [23, 24, 26, 48, 49, 50, 51, 52, 53, 54, 55, 56, 58, 59, 60, 61] g _) 25 (by decide)⟩ (fun k hk => (f4 k (by omega)))))
  · refine wp_irt k_89 rfl rfl rfl ⟨rfl, ?_⟩
    refine wp_br k_85 rfl rfl rfl rfl (fun z => absurd z (show ¬ (¬ (nI 0 : Int32) = 0) by decide)) (fun _ => ?_)
    refine wp_kn k_85 rfl rfl ?_
    exact wp_irt k_85 rfl rfl rfl (K0 _ _ _ _ M3 (((eqx.refl _ _).u (by decide)).t e3 (by decide)) (fun _ _ _ => rfl) (by unfold lineM; rw [if_neg (show ¬ tk (ar 1) len p = nI 82 by rw [hc]; decide), if_neg (show ¬ tk (ar 1) len p = nI 66 by rw [hc]; decide), if_neg (show ¬ tk (ar 1) len p = nI 80 by rw [hc]; decide), if_pos hc, atL, ← atpM_congr hE.2.1.nm hE.2.1.kd, z3]) a3)
theorem m_line_S {h0 h : sm_H} {m : Nat} {g : Nat → Int32} {ar : Nat → Nat → Int32} {Q : Nat → Option Value → sm_H → Prop} (M : MS h0 h m g ar) {len p : Nat} (hn : g 2 = nI len) (hl : len ≤ 3000) (hp : g 23 = nI p) (hpl : p < len) {E : List Pl × List (Nat × Nat × Bool) × List (Nat × Nat)} (hE : RM g ar E) (h5 : E.1.length ≤ 500) (hc : tk (ar 1) len p = nI 83) (K1 : ∀ h' g' ar' r q, MS h0 h' m g' ar' → eqx gSc g g' → arF ar ar' → lineM (ar 1) len E.1 p = .ok (r, q) → g' 23 = nI q → RM g' ar' (addL E r) → Q 0 (some (.int (nI 1))) h') (K0 : ∀ h' g' ar' q, MS h0 h' m g' ar' → eqx gSc g g' → arF ar ar' → lineM (ar 1) len E.1 p = .error q → g' 24 = nI q → Q 0 (some (.int (nI 0))) h') : sm_wp 85 0 [.ref m, jk, jk] [] h Q := by
  refine wp_pure k_85 rfl rfl ?_
  refine wm_iv k_85 rfl rfl M [] rfl (r := []) (Nat.le_of_ble_eq_true rfl) (Nat.le_of_ble_eq_true rfl) rfl ?_
  refine m_next M hn hl hp (by omega) ⟨rfl, ?_⟩
  rw [Option.toList, hc]
  refine wp_pure k_85 rfl rfl ?_
  refine wp_pure k_85 rfl rfl ?_
  refine wp_is k_85 rfl (by decide) [.int (nI 83)] rfl (r := []) (Nat.le_of_ble_eq_true rfl) (Nat.le_of_ble_eq_true rfl) rfl ?_
  refine wp_pure k_87 rfl rfl ?_
  refine wp_kn k_87 rfl rfl ?_
  refine wp_br k_87 rfl rfl rfl rfl (fun _ => ?_) (fun z => absurd (show ¬ nI 83 = nI 82 by decide) z)
  refine wp_pure k_87 rfl rfl ?_
  refine wp_kn k_87 rfl rfl ?_
  refine wp_br k_87 rfl rfl rfl rfl (fun _ => ?_) (fun z => absurd (show ¬ nI 83 = nI 66 by decide) z)
  refine wp_pure k_87 rfl rfl ?_
  refine wp_kn k_87 rfl rfl ?_
  refine wp_br k_87 rfl rfl rfl rfl (fun _ => ?_) (fun z => absurd (show ¬ nI 83 = nI 80 by decide) z)
  refine wp_pure k_87 rfl rfl ?_
  refine wp_kn k_87 rfl rfl ?_
  refine wp_br k_87 rfl rfl rfl rfl (fun _ => ?_) (fun z => absurd (show ¬ nI 83 = nI 68 by decide) z)
  refine wp_pure k_87 rfl rfl ?_
  refine wp_kn k_87 rfl rfl ?_
  refine wp_br k_87 rfl rfl rfl rfl (fun z => absurd z (show ¬ (¬ nI 83 = nI 83) by decide)) (fun _ => ?_)
  refine wp_kn k_87 rfl rfl ?_
  refine wp_br k_87 rfl rfl rfl rfl (fun _ => ?_) (fun z => absurd trivial z)
  refine wp_irt k_87 rfl rfl rfl ⟨rfl, ?_⟩
  refine wp_pure k_85 rfl rfl ?_
  refine wp_pure k_85 rfl rfl ?_
  refine wp_km k_85 rfl rfl ?_
  refine wp_br k_85 rfl rfl rfl rfl (fun _ => ?_) (fun z => absurd (nI_nm1 (by omega)) z)
  refine wp_pure k_85 rfl rfl ?_
  refine wp_pure k_85 rfl rfl ?_
  refine wm_gi 23 M k_85 rfl rfl rfl rfl hp ?_
  refine wp_kn k_85 rfl rfl ?_
  refine wp_addN k_85 rfl ?_
  refine wm_pi 23 M k_85 rfl rfl rfl rfl rfl rfl (fun h1 M1 => ?_)
  refine wp_pure k_85 rfl rfl ?_
  refine wp_km k_85 rfl rfl ?_
  refine wp_br k_85 rfl rfl rfl rfl (fun z => absurd z (nI_nm1 (by omega))) (fun _ => ?_)
  refine wp_pure k_85 rfl rfl ?_
  refine wp_pure k_85 rfl rfl ?_
  refine wm_iv k_85 rfl rfl M1 [.int (nI 4)] rfl (r := []) (Nat.le_of_ble_eq_true rfl) (Nat.le_of_ble_eq_true rfl) rfl ?_
  refine wp_pure k_89 rfl rfl ?_
  refine wp_br k_89 rfl rfl rfl rfl (fun _ => ?_) (fun z => absurd (show ¬ (nI 4 : Int32) = 0 by decide) z)
  refine wp_pure k_89 rfl rfl ?_
  refine wp_kn k_89 rfl rfl ?_
  refine wp_br k_89 rfl rfl rfl rfl (fun _ => ?_) (fun z => absurd (show ¬ nI 4 = nI 1 by decide) z)
  refine wp_pure k_89 rfl rfl ?_
  refine wp_kn k_89 rfl rfl ?_
  refine wp_br k_89 rfl rfl rfl rfl (fun _ => ?_) (fun z => absurd (show ¬ nI 4 = nI 2 by decide) z)
  refine wp_pure k_89 rfl rfl ?_
  refine wp_kn k_89 rfl rfl ?_
  refine wp_br k_89 rfl rfl rfl rfl (fun _ => ?_) (fun z => absurd (show ¬ nI 4 = nI 6 by decide) z)
  refine wp_pure k_89 rfl rfl ?_
  refine wm_iv k_89 rfl rfl M1 [] rfl (r := []) (Nat.le_of_ble_eq_true rfl) (Nat.le_of_ble_eq_true rfl) rfl ?_
  refine m_atp M1 ((uF_ne (by decide)).trans hn) hl uF_at (by omega) ((uF_ne (by decide)).trans hE.1) (by omega) (fun h2 g2 v2 r2 q2 M2 e2 z2 a2 b2 c2 => ⟨rfl, ?_⟩) (fun h3 g3 q3 M3 e3 z3 a3 => ⟨rfl, ?_⟩)
  · refine wp_irt k_89 rfl rfl rfl ⟨rfl, ?_⟩
    refine wp_br k_85 rfl rfl rfl rfl (fun _ => ?_) (fun z => absurd (show ¬ (nI 1 : Int32) = 0 by decide) z)
    refine wp_pure k_85 rfl rfl ?_
    refine wp_pure k_85 rfl rfl ?_
    refine wm_iv k_85 rfl rfl M2 [.int (nI 4)] rfl (r := []) (Nat.le_of_ble_eq_true rfl) (Nat.le_of_ble_eq_true rfl) rfl ?_
    refine m_add_A4 M2 ((e2 26 (by decide)).trans ((uF_ne (by decide)).trans hE.1)) (by omega) hE.2.1 rfl b2 c2 (atpM_ok z2).2.2.1 (fun h4 ar4 M4 f4 r4 => ⟨rfl, ?_⟩)
    refine wp_kn k_85 rfl rfl ?_
    exact wp_irt k_85 rfl rfl rfl (K1 _ _ _ (.inl (plA E.1 v2 4 r2 [])) _ M4 ((((eqx.refl _ _).u (by decide)).t e2 (by decide)).u (by decide)) (fun k h1 h2 => (f4 k (by omega))) (by unfold lineM; rw [if_neg (show ¬ tk (ar 1) len p = nI 82 by rw [hc]; decide), if_neg (show ¬ tk (ar 1) len p = nI 66 by rw [hc]; decide), if_neg (show ¬ tk (ar 1) len p = nI 80 by rw [hc]; decide), if_neg (show ¬ tk (ar 1) len p = nI 68 by rw [hc]; decide), if_pos hc, atL, ← atpM_congr hE.2.1.nm hE.2.1.kd, z2]) ((uF_ne (by decide)).trans a2) (hE.place uF_at r4 ⟨(((((eqx.refl _ _).u (by decide)).t e2 (by decide)).u (by decide)) : eqx [23, 24, 26, 48, 49, 50, 51, 52, 53, 54, 55, 56, 58, 59, 60, 61] g _) 27 (by decide), (((((eqx.refl _ _).u (by decide)).t e2 (by decide)).u (by decide)) : eqx [23, 24, 26, 48, 49, 50, 51, 52, 53, 54, 55, 56, 58, 59, 60, 61] g _) 31 (by decide), (((((eqx.refl _ _).u (by decide)).t e2 (by decide)).u (by decide)) : eqx [23, 24, 26, 48, 49, 50, 51, 52, 53, 54, 55, 56, 58, 59, 60, 61] g _) 25 (by decide)⟩ (fun k hk => (f4 k (by omega)))))
  · refine wp_irt k_89 rfl rfl rfl ⟨rfl, ?_⟩
    refine wp_br k_85 rfl rfl rfl rfl (fun z => absurd z (show ¬ (¬ (nI 0 : Int32) = 0) by decide)) (fun _ => ?_)
    refine wp_kn k_85 rfl rfl ?_
    exact wp_irt k_85 rfl rfl rfl (K0 _ _ _ _ M3 (((eqx.refl _ _).u (by decide)).t e3 (by decide)) (fun _ _ _ => rfl) (by unfold lineM; rw [if_neg (show ¬ tk (ar 1) len p = nI 82 by rw [hc]; decide), if_neg (show ¬ tk (ar 1) len p = nI 66 by rw [hc]; decide), if_neg (show ¬ tk (ar 1) len p = nI 80 by rw [hc]; decide), if_neg (show ¬ tk (ar 1) len p = nI 68 by rw [hc]; decide), if_pos hc, atL, ← atpM_congr hE.2.1.nm hE.2.1.kd, z3]) a3)
theorem m_line_C {h0 h : sm_H} {m : Nat} {g : Nat → Int32} {ar : Nat → Nat → Int32} {Q : Nat → Option Value → sm_H → Prop} (M : MS h0 h m g ar) {len p : Nat} (hn : g 2 = nI len) (hl : len ≤ 3000) (hp : g 23 = nI p) (hpl : p < len) {E : List Pl × List (Nat × Nat × Bool) × List (Nat × Nat)} (hE : RM g ar E) (h5 : E.1.length ≤ 500) (hc : tk (ar 1) len p = nI 67) (K1 : ∀ h' g' ar' r q, MS h0 h' m g' ar' → eqx gSc g g' → arF ar ar' → lineM (ar 1) len E.1 p = .ok (r, q) → g' 23 = nI q → RM g' ar' (addL E r) → Q 0 (some (.int (nI 1))) h') (K0 : ∀ h' g' ar' q, MS h0 h' m g' ar' → eqx gSc g g' → arF ar ar' → lineM (ar 1) len E.1 p = .error q → g' 24 = nI q → Q 0 (some (.int (nI 0))) h') : sm_wp 85 0 [.ref m, jk, jk] [] h Q := by
  refine wp_pure k_85 rfl rfl ?_
  refine wm_iv k_85 rfl rfl M [] rfl (r := []) (Nat.le_of_ble_eq_true rfl) (Nat.le_of_ble_eq_true rfl) rfl ?_
  refine m_next M hn hl hp (by omega) ⟨rfl, ?_⟩
  rw [Option.toList, hc]
  refine wp_pure k_85 rfl rfl ?_
  refine wp_pure k_85 rfl rfl ?_
  refine wp_is k_85 rfl (by decide) [.int (nI 67)] rfl (r := []) (Nat.le_of_ble_eq_true rfl) (Nat.le_of_ble_eq_true rfl) rfl ?_
  refine wp_pure k_87 rfl rfl ?_
  refine wp_kn k_87 rfl rfl ?_
  refine wp_br k_87 rfl rfl rfl rfl (fun _ => ?_) (fun z => absurd (show ¬ nI 67 = nI 82 by decide) z)
  refine wp_pure k_87 rfl rfl ?_
  refine wp_kn k_87 rfl rfl ?_
  refine wp_br k_87 rfl rfl rfl rfl (fun _ => ?_) (fun z => absurd (show ¬ nI 67 = nI 66 by decide) z)
  refine wp_pure k_87 rfl rfl ?_
  refine wp_kn k_87 rfl rfl ?_
  refine wp_br k_87 rfl rfl rfl rfl (fun _ => ?_) (fun z => absurd (show ¬ nI 67 = nI 80 by decide) z)
  refine wp_pure k_87 rfl rfl ?_
  refine wp_kn k_87 rfl rfl ?_
  refine wp_br k_87 rfl rfl rfl rfl (fun _ => ?_) (fun z => absurd (show ¬ nI 67 = nI 68 by decide) z)
  refine wp_pure k_87 rfl rfl ?_
  refine wp_kn k_87 rfl rfl ?_
  refine wp_br k_87 rfl rfl rfl rfl (fun _ => ?_) (fun z => absurd (show ¬ nI 67 = nI 83 by decide) z)
  refine wp_pure k_87 rfl rfl ?_
  refine wp_kn k_87 rfl rfl ?_
  refine wp_br k_87 rfl rfl rfl rfl (fun z => absurd z (show ¬ (¬ nI 67 = nI 67) by decide)) (fun _ => ?_)
  refine wp_kn k_87 rfl rfl ?_
  refine wp_br k_87 rfl rfl rfl rfl (fun _ => ?_) (fun z => absurd trivial z)
  refine wp_irt k_87 rfl rfl rfl ⟨rfl, ?_⟩
  refine wp_pure k_85 rfl rfl ?_
  refine wp_pure k_85 rfl rfl ?_
  refine wp_km k_85 rfl rfl ?_
  refine wp_br k_85 rfl rfl rfl rfl (fun _ => ?_) (fun z => absurd (nI_nm1 (by omega)) z)
  refine wp_pure k_85 rfl rfl ?_
  refine wp_pure k_85 rfl rfl ?_
  refine wm_gi 23 M k_85 rfl rfl rfl rfl hp ?_
  refine wp_kn k_85 rfl rfl ?_
  refine wp_addN k_85 rfl ?_
  refine wm_pi 23 M k_85 rfl rfl rfl rfl rfl rfl (fun h1 M1 => ?_)
  refine wp_pure k_85 rfl rfl ?_
  refine wp_km k_85 rfl rfl ?_
  refine wp_br k_85 rfl rfl rfl rfl (fun z => absurd z (nI_nm1 (by omega))) (fun _ => ?_)
  refine wp_pure k_85 rfl rfl ?_
  refine wp_pure k_85 rfl rfl ?_
  refine wm_iv k_85 rfl rfl M1 [.int (nI 5)] rfl (r := []) (Nat.le_of_ble_eq_true rfl) (Nat.le_of_ble_eq_true rfl) rfl ?_
  refine wp_pure k_89 rfl rfl ?_
  refine wp_br k_89 rfl rfl rfl rfl (fun _ => ?_) (fun z => absurd (show ¬ (nI 5 : Int32) = 0 by decide) z)
  refine wp_pure k_89 rfl rfl ?_
  refine wp_kn k_89 rfl rfl ?_
  refine wp_br k_89 rfl rfl rfl rfl (fun _ => ?_) (fun z => absurd (show ¬ nI 5 = nI 1 by decide) z)
  refine wp_pure k_89 rfl rfl ?_
  refine wp_kn k_89 rfl rfl ?_
  refine wp_br k_89 rfl rfl rfl rfl (fun _ => ?_) (fun z => absurd (show ¬ nI 5 = nI 2 by decide) z)
  refine wp_pure k_89 rfl rfl ?_
  refine wp_kn k_89 rfl rfl ?_
  refine wp_br k_89 rfl rfl rfl rfl (fun _ => ?_) (fun z => absurd (show ¬ nI 5 = nI 6 by decide) z)
  refine wp_pure k_89 rfl rfl ?_
  refine wm_iv k_89 rfl rfl M1 [] rfl (r := []) (Nat.le_of_ble_eq_true rfl) (Nat.le_of_ble_eq_true rfl) rfl ?_
  refine m_atp M1 ((uF_ne (by decide)).trans hn) hl uF_at (by omega) ((uF_ne (by decide)).trans hE.1) (by omega) (fun h2 g2 v2 r2 q2 M2 e2 z2 a2 b2 c2 => ⟨rfl, ?_⟩) (fun h3 g3 q3 M3 e3 z3 a3 => ⟨rfl, ?_⟩)
  · refine wp_irt k_89 rfl rfl rfl ⟨rfl, ?_⟩
    refine wp_br k_85 rfl rfl rfl rfl (fun _ => ?_) (fun z => absurd (show ¬ (nI 1 : Int32) = 0 by decide) z)
    refine wp_pure k_85 rfl rfl ?_
    refine wp_pure k_85 rfl rfl ?_
    refine wm_iv k_85 rfl rfl M2 [.int (nI 5)] rfl (r := []) (Nat.le_of_ble_eq_true rfl) (Nat.le_of_ble_eq_true rfl) rfl ?_
    refine m_add_A5 M2 ((e2 26 (by decide)).trans ((uF_ne (by decide)).trans hE.1)) (by omega) hE.2.1 rfl b2 c2 (atpM_ok z2).2.2.1 (fun h4 ar4 M4 f4 r4 => ⟨rfl, ?_⟩)
    refine wp_kn k_85 rfl rfl ?_
    exact wp_irt k_85 rfl rfl rfl (K1 _ _ _ (.inl (plA E.1 v2 5 r2 [])) _ M4 ((((eqx.refl _ _).u (by decide)).t e2 (by decide)).u (by decide)) (fun k h1 h2 => (f4 k (by omega))) (by unfold lineM; rw [if_neg (show ¬ tk (ar 1) len p = nI 82 by rw [hc]; decide), if_neg (show ¬ tk (ar 1) len p = nI 66 by rw [hc]; decide), if_neg (show ¬ tk (ar 1) len p = nI 80 by rw [hc]; decide), if_neg (show ¬ tk (ar 1) len p = nI 68 by rw [hc]; decide), if_neg (show ¬ tk (ar 1) len p = nI 83 by rw [hc]; decide), if_pos hc, atL, ← atpM_congr hE.2.1.nm hE.2.1.kd, z2]) ((uF_ne (by decide)).trans a2) (hE.place uF_at r4 ⟨(((((eqx.refl _ _).u (by decide)).t e2 (by decide)).u (by decide)) : eqx [23, 24, 26, 48, 49, 50, 51, 52, 53, 54, 55, 56, 58, 59, 60, 61] g _) 27 (by decide), (((((eqx.refl _ _).u (by decide)).t e2 (by decide)).u (by decide)) : eqx [23, 24, 26, 48, 49, 50, 51, 52, 53, 54, 55, 56, 58, 59, 60, 61] g _) 31 (by decide), (((((eqx.refl _ _).u (by decide)).t e2 (by decide)).u (by decide)) : eqx [23, 24, 26, 48, 49, 50, 51, 52, 53, 54, 55, 56, 58, 59, 60, 61] g _) 25 (by decide)⟩ (fun k hk => (f4 k (by omega)))))
  · refine wp_irt k_89 rfl rfl rfl ⟨rfl, ?_⟩
    refine wp_br k_85 rfl rfl rfl rfl (fun z => absurd z (show ¬ (¬ (nI 0 : Int32) = 0) by decide)) (fun _ => ?_)
    refine wp_kn k_85 rfl rfl ?_
    exact wp_irt k_85 rfl rfl rfl (K0 _ _ _ _ M3 (((eqx.refl _ _).u (by decide)).t e3 (by decide)) (fun _ _ _ => rfl) (by unfold lineM; rw [if_neg (show ¬ tk (ar 1) len p = nI 82 by rw [hc]; decide), if_neg (show ¬ tk (ar 1) len p = nI 66 by rw [hc]; decide), if_neg (show ¬ tk (ar 1) len p = nI 80 by rw [hc]; decide), if_neg (show ¬ tk (ar 1) len p = nI 68 by rw [hc]; decide), if_neg (show ¬ tk (ar 1) len p = nI 83 by rw [hc]; decide), if_pos hc, atL, ← atpM_congr hE.2.1.nm hE.2.1.kd, z3]) a3)
theorem m_line_E {h0 h : sm_H} {m : Nat} {g : Nat → Int32} {ar : Nat → Nat → Int32} {Q : Nat → Option Value → sm_H → Prop} (M : MS h0 h m g ar) {len p : Nat} (hn : g 2 = nI len) (hl : len ≤ 3000) (hp : g 23 = nI p) (hpl : p < len) {E : List Pl × List (Nat × Nat × Bool) × List (Nat × Nat)} (hE : RM g ar E) (h5 : E.1.length ≤ 500) (hc : tk (ar 1) len p = nI 69) (K1 : ∀ h' g' ar' r q, MS h0 h' m g' ar' → eqx gSc g g' → arF ar ar' → lineM (ar 1) len E.1 p = .ok (r, q) → g' 23 = nI q → RM g' ar' (addL E r) → Q 0 (some (.int (nI 1))) h') (K0 : ∀ h' g' ar' q, MS h0 h' m g' ar' → eqx gSc g g' → arF ar ar' → lineM (ar 1) len E.1 p = .error q → g' 24 = nI q → Q 0 (some (.int (nI 0))) h') : sm_wp 85 0 [.ref m, jk, jk] [] h Q := by
  refine wp_pure k_85 rfl rfl ?_
  refine wm_iv k_85 rfl rfl M [] rfl (r := []) (Nat.le_of_ble_eq_true rfl) (Nat.le_of_ble_eq_true rfl) rfl ?_
  refine m_next M hn hl hp (by omega) ⟨rfl, ?_⟩
  rw [Option.toList, hc]
  refine wp_pure k_85 rfl rfl ?_
  refine wp_pure k_85 rfl rfl ?_
  refine wp_is k_85 rfl (by decide) [.int (nI 69)] rfl (r := []) (Nat.le_of_ble_eq_true rfl) (Nat.le_of_ble_eq_true rfl) rfl ?_
  refine wp_pure k_87 rfl rfl ?_
  refine wp_kn k_87 rfl rfl ?_
  refine wp_br k_87 rfl rfl rfl rfl (fun _ => ?_) (fun z => absurd (show ¬ nI 69 = nI 82 by decide) z)
  refine wp_pure k_87 rfl rfl ?_
  refine wp_kn k_87 rfl rfl ?_
  refine wp_br k_87 rfl rfl rfl rfl (fun _ => ?_) (fun z => absurd (show ¬ nI 69 = nI 66 by decide) z)
  refine wp_pure k_87 rfl rfl ?_
  refine wp_kn k_87 rfl rfl ?_
  refine wp_br k_87 rfl rfl rfl rfl (fun _ => ?_) (fun z => absurd (show ¬ nI 69 = nI 80 by decide) z)
  refine wp_pure k_87 rfl rfl ?_
  refine wp_kn k_87 rfl rfl ?_
  refine wp_br k_87 rfl rfl rfl rfl (fun _ => ?_) (fun z => absurd (show ¬ nI 69 = nI 68 by decide) z)
  refine wp_pure k_87 rfl rfl ?_
  refine wp_kn k_87 rfl rfl ?_
  refine wp_br k_87 rfl rfl rfl rfl (fun _ => ?_) (fun z => absurd (show ¬ nI 69 = nI 83 by decide) z)
  refine wp_pure k_87 rfl rfl ?_
  refine wp_kn k_87 rfl rfl ?_
  refine wp_br k_87 rfl rfl rfl rfl (fun _ => ?_) (fun z => absurd (show ¬ nI 69 = nI 67 by decide) z)
  refine wp_pure k_87 rfl rfl ?_
  refine wp_kn k_87 rfl rfl ?_
  refine wp_br k_87 rfl rfl rfl rfl (fun z => absurd z (show ¬ (¬ nI 69 = nI 69) by decide)) (fun _ => ?_)
  refine wp_kn k_87 rfl rfl ?_
  refine wp_br k_87 rfl rfl rfl rfl (fun _ => ?_) (fun z => absurd trivial z)
  refine wp_irt k_87 rfl rfl rfl ⟨rfl, ?_⟩
  refine wp_pure k_85 rfl rfl ?_
  refine wp_pure k_85 rfl rfl ?_
  refine wp_km k_85 rfl rfl ?_
  refine wp_br k_85 rfl rfl rfl rfl (fun _ => ?_) (fun z => absurd (nI_nm1 (by omega)) z)
  refine wp_pure k_85 rfl rfl ?_
  refine wp_pure k_85 rfl rfl ?_
  refine wm_gi 23 M k_85 rfl rfl rfl rfl hp ?_
  refine wp_kn k_85 rfl rfl ?_
  refine wp_addN k_85 rfl ?_
  refine wm_pi 23 M k_85 rfl rfl rfl rfl rfl rfl (fun h1 M1 => ?_)
  refine wp_pure k_85 rfl rfl ?_
  refine wp_km k_85 rfl rfl ?_
  refine wp_br k_85 rfl rfl rfl rfl (fun z => absurd z (nI_nm1 (by omega))) (fun _ => ?_)
  refine wp_pure k_85 rfl rfl ?_
  refine wp_pure k_85 rfl rfl ?_
  refine wm_iv k_85 rfl rfl M1 [.int (nI 6)] rfl (r := []) (Nat.le_of_ble_eq_true rfl) (Nat.le_of_ble_eq_true rfl) rfl ?_
  refine wp_pure k_89 rfl rfl ?_
  refine wp_br k_89 rfl rfl rfl rfl (fun _ => ?_) (fun z => absurd (show ¬ (nI 6 : Int32) = 0 by decide) z)
  refine wp_pure k_89 rfl rfl ?_
  refine wp_kn k_89 rfl rfl ?_
  refine wp_br k_89 rfl rfl rfl rfl (fun _ => ?_) (fun z => absurd (show ¬ nI 6 = nI 1 by decide) z)
  refine wp_pure k_89 rfl rfl ?_
  refine wp_kn k_89 rfl rfl ?_
  refine wp_br k_89 rfl rfl rfl rfl (fun _ => ?_) (fun z => absurd (show ¬ nI 6 = nI 2 by decide) z)
  refine wp_pure k_89 rfl rfl ?_
  refine wp_kn k_89 rfl rfl ?_
  refine wp_br k_89 rfl rfl rfl rfl (fun z => absurd z (show ¬ (¬ nI 6 = nI 6) by decide)) (fun _ => ?_)
  refine wp_pure k_89 rfl rfl ?_
  refine wm_iv k_89 rfl rfl M1 [] rfl (r := []) (Nat.le_of_ble_eq_true rfl) (Nat.le_of_ble_eq_true rfl) rfl ?_
  refine m_lift M1 ((uF_ne (by decide)).trans hn) hl uF_at (by omega) ((uF_ne (by decide)).trans hE.1) (by omega) (fun h2 g2 ar2 v2 l2 q2 M2 e2 t2 z2 a2 b2 c2 d2 s2 => ⟨rfl, ?_⟩) (fun h3 g3 ar3 q3 M3 e3 t3 z3 a3 => ⟨rfl, ?_⟩)
  · refine wp_br k_89 rfl rfl rfl rfl (fun _ => ?_) (fun z => absurd trivial z)
    refine wp_irt k_89 rfl rfl rfl ⟨rfl, ?_⟩
    refine wp_br k_85 rfl rfl rfl rfl (fun _ => ?_) (fun z => absurd (show ¬ (nI 1 : Int32) = 0 by decide) z)
    refine wp_pure k_85 rfl rfl ?_
    refine wp_pure k_85 rfl rfl ?_
    refine wm_iv k_85 rfl rfl M2 [.int (nI 6)] rfl (r := []) (Nat.le_of_ble_eq_true rfl) (Nat.le_of_ble_eq_true rfl) rfl ?_
    refine m_add_E M2 ((e2 26 (by decide)).trans ((uF_ne (by decide)).trans hE.1)) (by omega) (hE.2.1.same (fun k a b => t2 k (by omega))) rfl b2 d2 c2 ((lftM_ok z2).2.2.2.2.1 _ (List.getD_eq_getElem?_getD ▸ (by have o := (lftM_ok z2).2.2.1; rw [List.getElem?_eq_getElem (show 0 < l2.length by omega)]; exact List.getElem_mem _))).1 (lftM_ok z2).2.2.2.1 s2 (fun h4 ar4 M4 f4 r4 => ⟨rfl, ?_⟩)
    refine wp_kn k_85 rfl rfl ?_
    exact wp_irt k_85 rfl rfl rfl (K1 _ _ _ (.inl (plA E.1 v2 6 (l2.getD 0 0) l2)) _ M4 ((((eqx.refl _ _).u (by decide)).t e2 (by decide)).u (by decide)) (fun k h1 h2 => (f4 k (by omega)).trans (t2 k h2)) (by unfold lineM; rw [if_neg (show ¬ tk (ar 1) len p = nI 82 by rw [hc]; decide), if_neg (show ¬ tk (ar 1) len p = nI 66 by rw [hc]; decide), if_neg (show ¬ tk (ar 1) len p = nI 80 by rw [hc]; decide), if_neg (show ¬ tk (ar 1) len p = nI 68 by rw [hc]; decide), if_neg (show ¬ tk (ar 1) len p = nI 83 by rw [hc]; decide), if_neg (show ¬ tk (ar 1) len p = nI 67 by rw [hc]; decide), if_pos hc, ← lftM_congr hE.2.1.nm hE.2.1.kd, z2]) ((uF_ne (by decide)).trans a2) (hE.place uF_at r4 ⟨(((((eqx.refl _ _).u (by decide)).t e2 (by decide)).u (by decide)) : eqx [23, 24, 26, 48, 49, 50, 51, 52, 53, 54, 55, 56, 58, 59, 60, 61] g _) 27 (by decide), (((((eqx.refl _ _).u (by decide)).t e2 (by decide)).u (by decide)) : eqx [23, 24, 26, 48, 49, 50, 51, 52, 53, 54, 55, 56, 58, 59, 60, 61] g _) 31 (by decide), (((((eqx.refl _ _).u (by decide)).t e2 (by decide)).u (by decide)) : eqx [23, 24, 26, 48, 49, 50, 51, 52, 53, 54, 55, 56, 58, 59, 60, 61] g _) 25 (by decide)⟩ (fun k hk => (f4 k (by omega)).trans (t2 k (by omega)))))
  · refine wp_br k_89 rfl rfl rfl rfl (fun _ => ?_) (fun z => absurd trivial z)
    refine wp_irt k_89 rfl rfl rfl ⟨rfl, ?_⟩
    refine wp_br k_85 rfl rfl rfl rfl (fun z => absurd z (show ¬ (¬ (nI 0 : Int32) = 0) by decide)) (fun _ => ?_)
    refine wp_kn k_85 rfl rfl ?_
    exact wp_irt k_85 rfl rfl rfl (K0 _ _ _ _ M3 (((eqx.refl _ _).u (by decide)).t e3 (by decide)) (fun k h1 h2 => t3 k h2) (by unfold lineM; rw [if_neg (show ¬ tk (ar 1) len p = nI 82 by rw [hc]; decide), if_neg (show ¬ tk (ar 1) len p = nI 66 by rw [hc]; decide), if_neg (show ¬ tk (ar 1) len p = nI 80 by rw [hc]; decide), if_neg (show ¬ tk (ar 1) len p = nI 68 by rw [hc]; decide), if_neg (show ¬ tk (ar 1) len p = nI 83 by rw [hc]; decide), if_neg (show ¬ tk (ar 1) len p = nI 67 by rw [hc]; decide), if_pos hc, ← lftM_congr hE.2.1.nm hE.2.1.kd, z3]) a3)
theorem RM.way {g g' : Nat → Int32} {ar ar' : Nat → Nat → Int32} {E : List Pl × List (Nat × Nat × Bool) × List (Nat × Nat)} {w : Nat × Nat × Bool} (h : RM g ar E) (h26 : g' 26 = g 26) (hR : ∀ k, 34 ≤ k → k ≤ 43 → ar' k = ar k) (h27 : g' 27 = nI (E.2.1.length + 1)) (h31 : g' 31 = nI E.2.2.length) (h25 : g' 25 = nI (decide (60 < E.2.1.length + 1 + E.2.2.length)).toNat)
    (e : ∀ i, i < E.2.1.length → ar' 28 i = ar 28 i ∧ ar' 29 i = ar 29 i ∧ ar' 30 i = ar 30 i) (e2 : E.2.1.length < 60 → ar' 28 E.2.1.length = nI w.1 ∧ ar' 29 E.2.1.length = nI w.2.1 ∧ ar' 30 E.2.1.length = nI w.2.2.toNat) (hv : ar' 32 = ar 32 ∧ ar' 33 = ar 33) : RM g' ar' (addL E (.inr (.inl w))) := by
  obtain ⟨a, b, c, d, f, i, j⟩ := h
  have el : (E.2.1 ++ [w]).length = E.2.1.length + 1 := by rw [List.length_append]; rfl
  refine ⟨h26.trans a, b.same hR, ?_, h31, ?_, i.push e e2, j.same hv⟩
  · show _ = nI (E.2.1 ++ [w]).length
    rw [el]; exact h27
  · show _ = nI (decide (60 < (E.2.1 ++ [w]).length + E.2.2.length)).toNat
    rw [el]; exact h25
theorem RM.srv {g g' : Nat → Int32} {ar ar' : Nat → Nat → Int32} {E : List Pl × List (Nat × Nat × Bool) × List (Nat × Nat)} {w : Nat × Nat} (h : RM g ar E) (h26 : g' 26 = g 26) (hR : ∀ k, 34 ≤ k → k ≤ 43 → ar' k = ar k) (h27 : g' 27 = nI E.2.1.length) (h31 : g' 31 = nI (E.2.2.length + 1)) (h25 : g' 25 = nI (decide (60 < E.2.1.length + (E.2.2.length + 1))).toNat)
    (e : ∀ i, i < E.2.2.length → ar' 32 i = ar 32 i ∧ ar' 33 i = ar 33 i) (e2 : E.2.2.length < 60 → ar' 32 E.2.2.length = nI w.1 ∧ ar' 33 E.2.2.length = nI w.2) (hv : ar' 28 = ar 28 ∧ ar' 29 = ar 29 ∧ ar' 30 = ar 30) : RM g' ar' (addL E (.inr (.inr w))) := by
  obtain ⟨a, b, c, d, f, i, j⟩ := h
  have el : (E.2.2 ++ [w]).length = E.2.2.length + 1 := by rw [List.length_append]; rfl
  refine ⟨h26.trans a, b.same hR, h27, ?_, ?_, i.same hv, j.push e e2⟩
  · show _ = nI (E.2.2 ++ [w]).length
    rw [el]; exact h31
  · show _ = nI (decide (60 < E.2.1.length + (E.2.2 ++ [w]).length)).toNat
    rw [el]; exact h25
theorem m_line_W {h0 h : sm_H} {m : Nat} {g : Nat → Int32} {ar : Nat → Nat → Int32} {Q : Nat → Option Value → sm_H → Prop} (M : MS h0 h m g ar) {len p : Nat} (hn : g 2 = nI len) (hl : len ≤ 3000) (hp : g 23 = nI p) (hpl : p < len) {E : List Pl × List (Nat × Nat × Bool) × List (Nat × Nat)} (hE : RM g ar E) (h5 : E.1.length ≤ 500) (hw3 : E.2.1.length + E.2.2.length ≤ 3000) (hc : tk (ar 1) len p = nI 87) (K1 : ∀ h' g' ar' r q, MS h0 h' m g' ar' → eqx gSc g g' → arF ar ar' → lineM (ar 1) len E.1 p = .ok (r, q) → g' 23 = nI q → RM g' ar' (addL E r) → Q 0 (some (.int (nI 1))) h') (K0 : ∀ h' g' ar' q, MS h0 h' m g' ar' → eqx gSc g g' → arF ar ar' → lineM (ar 1) len E.1 p = .error q → g' 24 = nI q → Q 0 (some (.int (nI 0))) h') : sm_wp 85 0 [.ref m, jk, jk] [] h Q := by
  by_cases hf : 60 < E.2.1.length + E.2.2.length
  · have h25 : g 25 = nI 1 := by rw [hE.2.2.2.2.1, decide_eq_true hf]; rfl
    refine wp_pure k_85 rfl rfl ?_
    refine wm_iv k_85 rfl rfl M [] rfl (r := []) (Nat.le_of_ble_eq_true rfl) (Nat.le_of_ble_eq_true rfl) rfl ?_
    refine m_next M hn hl hp (by omega) ⟨rfl, ?_⟩
    rw [Option.toList, hc]
    refine wp_pure k_85 rfl rfl ?_
    refine wp_pure k_85 rfl rfl ?_
    refine wp_is k_85 rfl (by decide) [.int (nI 87)] rfl (r := []) (Nat.le_of_ble_eq_true rfl) (Nat.le_of_ble_eq_true rfl) rfl ?_
    refine wp_pure k_87 rfl rfl ?_
    refine wp_kn k_87 rfl rfl ?_
    refine wp_br k_87 rfl rfl rfl rfl (fun _ => ?_) (fun z => absurd (show ¬ nI 87 = nI 82 by decide) z)
    refine wp_pure k_87 rfl rfl ?_
    refine wp_kn k_87 rfl rfl ?_
    refine wp_br k_87 rfl rfl rfl rfl (fun _ => ?_) (fun z => absurd (show ¬ nI 87 = nI 66 by decide) z)
    refine wp_pure k_87 rfl rfl ?_
    refine wp_kn k_87 rfl rfl ?_
    refine wp_br k_87 rfl rfl rfl rfl (fun _ => ?_) (fun z => absurd (show ¬ nI 87 = nI 80 by decide) z)
    refine wp_pure k_87 rfl rfl ?_
    refine wp_kn k_87 rfl rfl ?_
    refine wp_br k_87 rfl rfl rfl rfl (fun _ => ?_) (fun z => absurd (show ¬ nI 87 = nI 68 by decide) z)
    refine wp_pure k_87 rfl rfl ?_
    refine wp_kn k_87 rfl rfl ?_
    refine wp_br k_87 rfl rfl rfl rfl (fun _ => ?_) (fun z => absurd (show ¬ nI 87 = nI 83 by decide) z)
    refine wp_pure k_87 rfl rfl ?_
    refine wp_kn k_87 rfl rfl ?_
    refine wp_br k_87 rfl rfl rfl rfl (fun _ => ?_) (fun z => absurd (show ¬ nI 87 = nI 67 by decide) z)
    refine wp_pure k_87 rfl rfl ?_
    refine wp_kn k_87 rfl rfl ?_
    refine wp_br k_87 rfl rfl rfl rfl (fun _ => ?_) (fun z => absurd (show ¬ nI 87 = nI 69 by decide) z)
    refine wp_km k_87 rfl rfl ?_
    refine wp_irt k_87 rfl rfl rfl ⟨rfl, ?_⟩
    refine wp_pure k_85 rfl rfl ?_
    refine wp_pure k_85 rfl rfl ?_
    refine wp_km k_85 rfl rfl ?_
    refine wp_br k_85 rfl rfl rfl rfl (fun z => absurd rfl z) (fun _ => ?_)
    refine wp_pure k_85 rfl rfl ?_
    refine wp_kn k_85 rfl rfl ?_
    refine wp_br k_85 rfl rfl rfl rfl (fun _ => ?_) (fun z => absurd (show nI 87 = nI 87 by decide) z)
    refine wp_pure k_85 rfl rfl ?_
    refine wp_pure k_85 rfl rfl ?_
    refine wm_gi 23 M k_85 rfl rfl rfl rfl hp ?_
    refine wp_kn k_85 rfl rfl ?_
    refine wp_addN k_85 rfl ?_
    refine wm_pi 23 M k_85 rfl rfl rfl rfl rfl rfl (fun h1 M1 => ?_)
    refine wp_pure k_85 rfl rfl ?_
    refine wp_km k_85 rfl rfl ?_
    refine wp_br k_85 rfl rfl rfl rfl (fun _ => ?_) (fun z => absurd (rfl) z)
    refine wp_pure k_85 rfl rfl ?_
    refine wp_kn k_85 rfl rfl ?_
    refine wp_br k_85 rfl rfl rfl rfl (fun z => absurd z (show ¬ (¬ nI 87 = nI 87) by decide)) (fun _ => ?_)
    refine wp_pure k_85 rfl rfl ?_
    refine wm_iv k_85 rfl rfl M1 [] rfl (r := []) (Nat.le_of_ble_eq_true rfl) (Nat.le_of_ble_eq_true rfl) rfl ?_
    refine m_way M1 ((uF_ne (by decide)).trans hn) hl uF_at (by omega) ((uF_ne (by decide)).trans hE.1) (by omega) (fun h2 g2 u2 v2 bt2 q2 M2 e2 z2 a2 b2 c2 d2 => ⟨rfl, ?_⟩) (fun h3 g3 q3 M3 e3 z3 a3 => ⟨rfl, ?_⟩)
    · refine wp_br k_85 rfl rfl rfl rfl (fun z => absurd z (show ¬ ((nI 1 : Int32) = 0) by decide)) (fun _ => ?_)
      refine wp_br k_85 rfl rfl rfl rfl (fun _ => ?_) (fun z => absurd trivial z)
      refine wp_pure k_85 rfl rfl ?_
      refine wp_kn k_85 rfl rfl ?_
      refine wp_br k_85 rfl rfl rfl rfl (fun z => absurd z (show ¬ (¬ nI 87 = nI 87) by decide)) (fun _ => ?_)
      refine wp_pure k_85 rfl rfl ?_
      refine wm_gi 27 M2 k_85 rfl rfl rfl rfl ((e2 27 (by decide)).trans ((uF_ne (by decide)).trans hE.2.2.1)) ?_
      refine wp_kn k_85 rfl rfl ?_
      refine wp_br k_85 rfl rfl rfl rfl (fun (z105 : nI 60 ≤ nI E.2.1.length) => ?_) (fun (z105 : ¬ (nI 60 ≤ nI E.2.1.length)) => ?_)
      · have y105 : 60 ≤ E.2.1.length := yLe (by omega) (by omega) z105
        refine wp_pure k_85 rfl rfl ?_
        refine wp_kn k_85 rfl rfl ?_
        refine wp_br k_85 rfl rfl rfl rfl (fun _ => ?_) (fun z => absurd (show ¬ nI 87 = nI 65 by decide) z)
        refine wp_pure k_85 rfl rfl ?_
        refine wp_pure k_85 rfl rfl ?_
        refine wm_gi 27 M2 k_85 rfl rfl rfl rfl ((e2 27 (by decide)).trans ((uF_ne (by decide)).trans hE.2.2.1)) ?_
        refine wp_pure k_85 rfl rfl ?_
        refine wp_kn k_85 rfl rfl ?_
        refine wp_br k_85 rfl rfl rfl rfl (fun z => absurd z (show ¬ (¬ nI 87 = nI 87) by decide)) (fun _ => ?_)
        refine wp_kn k_85 rfl rfl ?_
        refine wp_br k_85 rfl rfl rfl rfl (fun _ => ?_) (fun z => absurd trivial z)
        refine wp_addN k_85 rfl ?_
        refine wm_pi 27 M2 k_85 rfl rfl rfl rfl rfl rfl (fun h4 M4 => ?_)
        refine wp_pure k_85 rfl rfl ?_
        refine wp_pure k_85 rfl rfl ?_
        refine wm_gi 31 M4 k_85 rfl rfl rfl rfl ((uF_ne (by decide)).trans ((e2 31 (by decide)).trans ((uF_ne (by decide)).trans hE.2.2.2.1))) ?_
        refine wp_pure k_85 rfl rfl ?_
        refine wp_kn k_85 rfl rfl ?_
        refine wp_br k_85 rfl rfl rfl rfl (fun _ => ?_) (fun z => absurd (show ¬ nI 87 = nI 65 by decide) z)
        refine wp_kn k_85 rfl rfl ?_
        refine wp_addN k_85 rfl ?_
        refine wm_pi 31 M4 k_85 rfl rfl rfl rfl rfl rfl (fun h5 M5 => ?_)
        refine wp_pure k_85 rfl rfl ?_
        refine wp_pure k_85 rfl rfl ?_
        refine wm_gi 25 M5 k_85 rfl rfl rfl rfl ((uF_ne (by decide)).trans ((uF_ne (by decide)).trans ((e2 25 (by decide)).trans ((uF_ne (by decide)).trans h25)))) ?_
        refine wp_br k_85 rfl rfl rfl rfl (fun _ => ?_) (fun z => absurd (show ¬ (nI 1 : Int32) = 0 by decide) z)
        refine wp_kn k_85 rfl rfl ?_
        refine wp_br k_85 rfl rfl rfl rfl (fun _ => ?_) (fun z => absurd trivial z)
        refine wm_pi 25 M5 k_85 rfl rfl rfl rfl rfl rfl (fun h6 M6 => ?_)
        refine wp_kn k_85 rfl rfl ?_
        exact wp_irt k_85 rfl rfl rfl (K1 _ _ _ (.inr (.inl (u2, v2, bt2))) _ M6 ((((((eqx.refl _ _).u (by decide)).t e2 (by decide)).u (by decide)).u (by decide)).u (by decide)) (fun _ _ _ => rfl) (by unfold lineM; rw [if_neg (show ¬ tk (ar 1) len p = nI 82 by rw [hc]; decide), if_neg (show ¬ tk (ar 1) len p = nI 66 by rw [hc]; decide), if_neg (show ¬ tk (ar 1) len p = nI 80 by rw [hc]; decide), if_neg (show ¬ tk (ar 1) len p = nI 68 by rw [hc]; decide), if_neg (show ¬ tk (ar 1) len p = nI 83 by rw [hc]; decide), if_neg (show ¬ tk (ar 1) len p = nI 67 by rw [hc]; decide), if_neg (show ¬ tk (ar 1) len p = nI 69 by rw [hc]; decide), if_pos hc, ← wayM_congr hE.2.1.nm hE.2.1.kd, z2]) ((uF_ne (by decide)).trans ((uF_ne (by decide)).trans ((uF_ne (by decide)).trans a2))) (hE.way ((((((((eqx.refl _ _).u (by decide)).t e2 (by decide)).u (by decide)).u (by decide)).u (by decide)) : eqx [23, 24, 25, 27, 31, 48, 49, 59, 60, 61] g _) 26 (by decide)) (fun _ _ _ => rfl) ((uF_ne (by decide)).trans ((uF_ne (by decide)).trans uF_at)) ((uF_ne (by decide)).trans uF_at) (by rw [decide_eq_true (by omega)]; exact uF_at) (fun _ _ => ⟨rfl, rfl, rfl⟩) (fun q => absurd q (by omega)) ⟨rfl, rfl⟩))
      · have y105 : E.2.1.length < 60 := yNLe (by omega) (by omega) z105
        refine wp_pure k_85 rfl rfl ?_
        refine wm_ga 28 M2 k_85 rfl rfl rfl (by decide) ?_
        refine wp_pure k_85 rfl rfl ?_
        refine wm_gi 27 M2 k_85 rfl rfl rfl rfl ((e2 27 (by decide)).trans ((uF_ne (by decide)).trans hE.2.2.1)) ?_
        refine wp_pure k_85 rfl rfl ?_
        refine wm_gi 59 M2 k_85 rfl rfl rfl rfl b2 ?_
        refine wm_as 28 M2 k_85 rfl rfl (by decide) rfl (show E.2.1.length < 60 by omega) (fun h7 M7 => ?_)
        refine wp_pure k_85 rfl rfl ?_
        refine wm_ga 29 M7 k_85 rfl rfl rfl (by decide) ?_
        refine wp_pure k_85 rfl rfl ?_
        refine wm_gi 27 M7 k_85 rfl rfl rfl rfl ((e2 27 (by decide)).trans ((uF_ne (by decide)).trans hE.2.2.1)) ?_
        refine wp_pure k_85 rfl rfl ?_
        refine wm_gi 60 M7 k_85 rfl rfl rfl rfl c2 ?_
        refine wm_as 29 M7 k_85 rfl rfl (by decide) rfl (show E.2.1.length < 60 by omega) (fun h8 M8 => ?_)
        refine wp_pure k_85 rfl rfl ?_
        refine wm_ga 30 M8 k_85 rfl rfl rfl (by decide) ?_
        refine wp_pure k_85 rfl rfl ?_
        refine wm_gi 27 M8 k_85 rfl rfl rfl rfl ((e2 27 (by decide)).trans ((uF_ne (by decide)).trans hE.2.2.1)) ?_
        refine wp_pure k_85 rfl rfl ?_
        refine wm_gi 61 M8 k_85 rfl rfl rfl rfl d2 ?_
        refine wm_bs 30 M8 k_85 rfl rfl (by decide) rfl (show E.2.1.length < 60 by omega) (by cases bt2 <;> rfl) (fun h9 M9 => ?_)
        refine wp_pure k_85 rfl rfl ?_
        refine wp_kn k_85 rfl rfl ?_
        refine wp_br k_85 rfl rfl rfl rfl (fun _ => ?_) (fun z => absurd (show ¬ nI 87 = nI 65 by decide) z)
        refine wp_pure k_85 rfl rfl ?_
        refine wp_pure k_85 rfl rfl ?_
        refine wm_gi 27 M9 k_85 rfl rfl rfl rfl ((e2 27 (by decide)).trans ((uF_ne (by decide)).trans hE.2.2.1)) ?_
        refine wp_pure k_85 rfl rfl ?_
        refine wp_kn k_85 rfl rfl ?_
        refine wp_br k_85 rfl rfl rfl rfl (fun z => absurd z (show ¬ (¬ nI 87 = nI 87) by decide)) (fun _ => ?_)
        refine wp_kn k_85 rfl rfl ?_
        refine wp_br k_85 rfl rfl rfl rfl (fun _ => ?_) (fun z => absurd trivial z)
        refine wp_addN k_85 rfl ?_
        refine wm_pi 27 M9 k_85 rfl rfl rfl rfl rfl rfl (fun h10 M10 => ?_)
        refine wp_pure k_85 rfl rfl ?_
        refine wp_pure k_85 rfl rfl ?_
        refine wm_gi 31 M10 k_85 rfl rfl rfl rfl ((uF_ne (by decide)).trans ((e2 31 (by decide)).trans ((uF_ne (by decide)).trans hE.2.2.2.1))) ?_
        refine wp_pure k_85 rfl rfl ?_
        refine wp_kn k_85 rfl rfl ?_
        refine wp_br k_85 rfl rfl rfl rfl (fun _ => ?_) (fun z => absurd (show ¬ nI 87 = nI 65 by decide) z)
        refine wp_kn k_85 rfl rfl ?_
        refine wp_addN k_85 rfl ?_
        refine wm_pi 31 M10 k_85 rfl rfl rfl rfl rfl rfl (fun h11 M11 => ?_)
        refine wp_pure k_85 rfl rfl ?_
        refine wp_pure k_85 rfl rfl ?_
        refine wm_gi 25 M11 k_85 rfl rfl rfl rfl ((uF_ne (by decide)).trans ((uF_ne (by decide)).trans ((e2 25 (by decide)).trans ((uF_ne (by decide)).trans h25)))) ?_
        refine wp_br k_85 rfl rfl rfl rfl (fun _ => ?_) (fun z => absurd (show ¬ (nI 1 : Int32) = 0 by decide) z)
        refine wp_kn k_85 rfl rfl ?_
        refine wp_br k_85 rfl rfl rfl rfl (fun _ => ?_) (fun z => absurd trivial z)
        refine wm_pi 25 M11 k_85 rfl rfl rfl rfl rfl rfl (fun h12 M12 => ?_)
        refine wp_kn k_85 rfl rfl ?_
        exact wp_irt k_85 rfl rfl rfl (K1 _ _ _ (.inr (.inl (u2, v2, bt2))) _ M12 ((((((eqx.refl _ _).u (by decide)).t e2 (by decide)).u (by decide)).u (by decide)).u (by decide)) (fun k h1 h2 => by rw [uA_ne (by omega), uA_ne (by omega), uA_ne (by omega)]) (by unfold lineM; rw [if_neg (show ¬ tk (ar 1) len p = nI 82 by rw [hc]; decide), if_neg (show ¬ tk (ar 1) len p = nI 66 by rw [hc]; decide), if_neg (show ¬ tk (ar 1) len p = nI 80 by rw [hc]; decide), if_neg (show ¬ tk (ar 1) len p = nI 68 by rw [hc]; decide), if_neg (show ¬ tk (ar 1) len p = nI 83 by rw [hc]; decide), if_neg (show ¬ tk (ar 1) len p = nI 67 by rw [hc]; decide), if_neg (show ¬ tk (ar 1) len p = nI 69 by rw [hc]; decide), if_pos hc, ← wayM_congr hE.2.1.nm hE.2.1.kd, z2]) ((uF_ne (by decide)).trans ((uF_ne (by decide)).trans ((uF_ne (by decide)).trans a2))) (hE.way ((((((((eqx.refl _ _).u (by decide)).t e2 (by decide)).u (by decide)).u (by decide)).u (by decide)) : eqx [23, 24, 25, 27, 31, 48, 49, 59, 60, 61] g _) 26 (by decide)) (fun k h1 h2 => by rw [uA_ne (by omega), uA_ne (by omega), uA_ne (by omega)]) ((uF_ne (by decide)).trans ((uF_ne (by decide)).trans uF_at)) ((uF_ne (by decide)).trans uF_at) (by rw [decide_eq_true (by omega)]; exact uF_at) (fun i hi => ⟨by rw [uA_i (by omega), uA_i (by omega), uA_i (by omega)], by rw [uA_i (by omega), uA_i (by omega), uA_i (by omega)], by rw [uA_i (by omega), uA_i (by omega), uA_i (by omega)]⟩) (fun _ => ⟨by rw [uA_ne (by decide), uA_ne (by decide), uA_at], by rw [uA_ne (by decide), uA_at], uA_at⟩) ⟨by rw [uA_ne (by decide), uA_ne (by decide), uA_ne (by decide)], by rw [uA_ne (by decide), uA_ne (by decide), uA_ne (by decide)]⟩))
    · refine wp_br k_85 rfl rfl rfl rfl (fun _ => ?_) (fun z => absurd (show (nI 0 : Int32) = 0 by decide) z)
      refine wp_kn k_85 rfl rfl ?_
      exact wp_irt k_85 rfl rfl rfl (K0 _ _ _ _ M3 (((eqx.refl _ _).u (by decide)).t e3 (by decide)) (fun _ _ _ => rfl) (by unfold lineM; rw [if_neg (show ¬ tk (ar 1) len p = nI 82 by rw [hc]; decide), if_neg (show ¬ tk (ar 1) len p = nI 66 by rw [hc]; decide), if_neg (show ¬ tk (ar 1) len p = nI 80 by rw [hc]; decide), if_neg (show ¬ tk (ar 1) len p = nI 68 by rw [hc]; decide), if_neg (show ¬ tk (ar 1) len p = nI 83 by rw [hc]; decide), if_neg (show ¬ tk (ar 1) len p = nI 67 by rw [hc]; decide), if_neg (show ¬ tk (ar 1) len p = nI 69 by rw [hc]; decide), if_pos hc, ← wayM_congr hE.2.1.nm hE.2.1.kd, z3]) a3)
  · have h25 : g 25 = nI 0 := by rw [hE.2.2.2.2.1, decide_eq_false hf]; rfl
    refine wp_pure k_85 rfl rfl ?_
    refine wm_iv k_85 rfl rfl M [] rfl (r := []) (Nat.le_of_ble_eq_true rfl) (Nat.le_of_ble_eq_true rfl) rfl ?_
    refine m_next M hn hl hp (by omega) ⟨rfl, ?_⟩
    rw [Option.toList, hc]
    refine wp_pure k_85 rfl rfl ?_
    refine wp_pure k_85 rfl rfl ?_
    refine wp_is k_85 rfl (by decide) [.int (nI 87)] rfl (r := []) (Nat.le_of_ble_eq_true rfl) (Nat.le_of_ble_eq_true rfl) rfl ?_
    refine wp_pure k_87 rfl rfl ?_
    refine wp_kn k_87 rfl rfl ?_
    refine wp_br k_87 rfl rfl rfl rfl (fun _ => ?_) (fun z => absurd (show ¬ nI 87 = nI 82 by decide) z)
    refine wp_pure k_87 rfl rfl ?_
    refine wp_kn k_87 rfl rfl ?_
    refine wp_br k_87 rfl rfl rfl rfl (fun _ => ?_) (fun z => absurd (show ¬ nI 87 = nI 66 by decide) z)
    refine wp_pure k_87 rfl rfl ?_
    refine wp_kn k_87 rfl rfl ?_
    refine wp_br k_87 rfl rfl rfl rfl (fun _ => ?_) (fun z => absurd (show ¬ nI 87 = nI 80 by decide) z)
    refine wp_pure k_87 rfl rfl ?_
    refine wp_kn k_87 rfl rfl ?_
    refine wp_br k_87 rfl rfl rfl rfl (fun _ => ?_) (fun z => absurd (show ¬ nI 87 = nI 68 by decide) z)
    refine wp_pure k_87 rfl rfl ?_
    refine wp_kn k_87 rfl rfl ?_
    refine wp_br k_87 rfl rfl rfl rfl (fun _ => ?_) (fun z => absurd (show ¬ nI 87 = nI 83 by decide) z)
    refine wp_pure k_87 rfl rfl ?_
    refine wp_kn k_87 rfl rfl ?_
    refine wp_br k_87 rfl rfl rfl rfl (fun _ => ?_) (fun z => absurd (show ¬ nI 87 = nI 67 by decide) z)
    refine wp_pure k_87 rfl rfl ?_
    refine wp_kn k_87 rfl rfl ?_
    refine wp_br k_87 rfl rfl rfl rfl (fun _ => ?_) (fun z => absurd (show ¬ nI 87 = nI 69 by decide) z)
    refine wp_km k_87 rfl rfl ?_
    refine wp_irt k_87 rfl rfl rfl ⟨rfl, ?_⟩
    refine wp_pure k_85 rfl rfl ?_
    refine wp_pure k_85 rfl rfl ?_
    refine wp_km k_85 rfl rfl ?_
    refine wp_br k_85 rfl rfl rfl rfl (fun z => absurd rfl z) (fun _ => ?_)
    refine wp_pure k_85 rfl rfl ?_
    refine wp_kn k_85 rfl rfl ?_
    refine wp_br k_85 rfl rfl rfl rfl (fun _ => ?_) (fun z => absurd (show nI 87 = nI 87 by decide) z)
    refine wp_pure k_85 rfl rfl ?_
    refine wp_pure k_85 rfl rfl ?_
    refine wm_gi 23 M k_85 rfl rfl rfl rfl hp ?_
    refine wp_kn k_85 rfl rfl ?_
    refine wp_addN k_85 rfl ?_
    refine wm_pi 23 M k_85 rfl rfl rfl rfl rfl rfl (fun h1 M1 => ?_)
    refine wp_pure k_85 rfl rfl ?_
    refine wp_km k_85 rfl rfl ?_
    refine wp_br k_85 rfl rfl rfl rfl (fun _ => ?_) (fun z => absurd (rfl) z)
    refine wp_pure k_85 rfl rfl ?_
    refine wp_kn k_85 rfl rfl ?_
    refine wp_br k_85 rfl rfl rfl rfl (fun z => absurd z (show ¬ (¬ nI 87 = nI 87) by decide)) (fun _ => ?_)
    refine wp_pure k_85 rfl rfl ?_
    refine wm_iv k_85 rfl rfl M1 [] rfl (r := []) (Nat.le_of_ble_eq_true rfl) (Nat.le_of_ble_eq_true rfl) rfl ?_
    refine m_way M1 ((uF_ne (by decide)).trans hn) hl uF_at (by omega) ((uF_ne (by decide)).trans hE.1) (by omega) (fun h2 g2 u2 v2 bt2 q2 M2 e2 z2 a2 b2 c2 d2 => ⟨rfl, ?_⟩) (fun h3 g3 q3 M3 e3 z3 a3 => ⟨rfl, ?_⟩)
    · refine wp_br k_85 rfl rfl rfl rfl (fun z => absurd z (show ¬ ((nI 1 : Int32) = 0) by decide)) (fun _ => ?_)
      refine wp_br k_85 rfl rfl rfl rfl (fun _ => ?_) (fun z => absurd trivial z)
      refine wp_pure k_85 rfl rfl ?_
      refine wp_kn k_85 rfl rfl ?_
      refine wp_br k_85 rfl rfl rfl rfl (fun z => absurd z (show ¬ (¬ nI 87 = nI 87) by decide)) (fun _ => ?_)
      refine wp_pure k_85 rfl rfl ?_
      refine wm_gi 27 M2 k_85 rfl rfl rfl rfl ((e2 27 (by decide)).trans ((uF_ne (by decide)).trans hE.2.2.1)) ?_
      refine wp_kn k_85 rfl rfl ?_
      refine wp_br k_85 rfl rfl rfl rfl (fun (z105 : nI 60 ≤ nI E.2.1.length) => ?_) (fun (z105 : ¬ (nI 60 ≤ nI E.2.1.length)) => ?_)
      · have y105 : 60 ≤ E.2.1.length := yLe (by omega) (by omega) z105
        refine wp_pure k_85 rfl rfl ?_
        refine wp_kn k_85 rfl rfl ?_
        refine wp_br k_85 rfl rfl rfl rfl (fun _ => ?_) (fun z => absurd (show ¬ nI 87 = nI 65 by decide) z)
        refine wp_pure k_85 rfl rfl ?_
        refine wp_pure k_85 rfl rfl ?_
        refine wm_gi 27 M2 k_85 rfl rfl rfl rfl ((e2 27 (by decide)).trans ((uF_ne (by decide)).trans hE.2.2.1)) ?_
        refine wp_pure k_85 rfl rfl ?_
        refine wp_kn k_85 rfl rfl ?_
        refine wp_br k_85 rfl rfl rfl rfl (fun z => absurd z (show ¬ (¬ nI 87 = nI 87) by decide)) (fun _ => ?_)
        refine wp_kn k_85 rfl rfl ?_
        refine wp_br k_85 rfl rfl rfl rfl (fun _ => ?_) (fun z => absurd trivial z)
        refine wp_addN k_85 rfl ?_
        refine wm_pi 27 M2 k_85 rfl rfl rfl rfl rfl rfl (fun h4 M4 => ?_)
        refine wp_pure k_85 rfl rfl ?_
        refine wp_pure k_85 rfl rfl ?_
        refine wm_gi 31 M4 k_85 rfl rfl rfl rfl ((uF_ne (by decide)).trans ((e2 31 (by decide)).trans ((uF_ne (by decide)).trans hE.2.2.2.1))) ?_
        refine wp_pure k_85 rfl rfl ?_
        refine wp_kn k_85 rfl rfl ?_
        refine wp_br k_85 rfl rfl rfl rfl (fun _ => ?_) (fun z => absurd (show ¬ nI 87 = nI 65 by decide) z)
        refine wp_kn k_85 rfl rfl ?_
        refine wp_addN k_85 rfl ?_
        refine wm_pi 31 M4 k_85 rfl rfl rfl rfl rfl rfl (fun h5 M5 => ?_)
        refine wp_pure k_85 rfl rfl ?_
        refine wp_pure k_85 rfl rfl ?_
        refine wm_gi 25 M5 k_85 rfl rfl rfl rfl ((uF_ne (by decide)).trans ((uF_ne (by decide)).trans ((e2 25 (by decide)).trans ((uF_ne (by decide)).trans h25)))) ?_
        refine wp_br k_85 rfl rfl rfl rfl (fun z => absurd z (show ¬ (¬ (nI 0 : Int32) = 0) by decide)) (fun _ => ?_)
        refine wp_pure k_85 rfl rfl ?_
        refine wm_gi 27 M5 k_85 rfl rfl rfl rfl ((uF_ne (by decide)).trans uF_at) ?_
        refine wp_pure k_85 rfl rfl ?_
        refine wm_gi 31 M5 k_85 rfl rfl rfl rfl uF_at ?_
        refine wp_addN k_85 rfl ?_
        refine wp_kn k_85 rfl rfl ?_
        refine wp_br k_85 rfl rfl rfl rfl (fun (z247 : nI ((((E.2.1.length) + 1)) + (((E.2.2.length) + 0))) ≤ nI 60) => ?_) (fun (z247 : ¬ (nI ((((E.2.1.length) + 1)) + (((E.2.2.length) + 0))) ≤ nI 60)) => ?_)
        · have y247 : ((((E.2.1.length) + 1)) + (((E.2.2.length) + 0))) ≤ 60 := yLe (by omega) (by omega) z247
          refine wp_kn k_85 rfl rfl ?_
          refine wm_pi 25 M5 k_85 rfl rfl rfl rfl rfl rfl (fun h6 M6 => ?_)
          refine wp_kn k_85 rfl rfl ?_
          exact wp_irt k_85 rfl rfl rfl (K1 _ _ _ (.inr (.inl (u2, v2, bt2))) _ M6 ((((((eqx.refl _ _).u (by decide)).t e2 (by decide)).u (by decide)).u (by decide)).u (by decide)) (fun _ _ _ => rfl) (by unfold lineM; rw [if_neg (show ¬ tk (ar 1) len p = nI 82 by rw [hc]; decide), if_neg (show ¬ tk (ar 1) len p = nI 66 by rw [hc]; decide), if_neg (show ¬ tk (ar 1) len p = nI 80 by rw [hc]; decide), if_neg (show ¬ tk (ar 1) len p = nI 68 by rw [hc]; decide), if_neg (show ¬ tk (ar 1) len p = nI 83 by rw [hc]; decide), if_neg (show ¬ tk (ar 1) len p = nI 67 by rw [hc]; decide), if_neg (show ¬ tk (ar 1) len p = nI 69 by rw [hc]; decide), if_pos hc, ← wayM_congr hE.2.1.nm hE.2.1.kd, z2]) ((uF_ne (by decide)).trans ((uF_ne (by decide)).trans ((uF_ne (by decide)).trans a2))) (hE.way ((((((((eqx.refl _ _).u (by decide)).t e2 (by decide)).u (by decide)).u (by decide)).u (by decide)) : eqx [23, 24, 25, 27, 31, 48, 49, 59, 60, 61] g _) 26 (by decide)) (fun _ _ _ => rfl) ((uF_ne (by decide)).trans ((uF_ne (by decide)).trans uF_at)) ((uF_ne (by decide)).trans uF_at) (by rw [decide_eq_false (by omega)]; exact uF_at) (fun _ _ => ⟨rfl, rfl, rfl⟩) (fun q => absurd q (by omega)) ⟨rfl, rfl⟩))
        · have y247 : 60 < ((((E.2.1.length) + 1)) + (((E.2.2.length) + 0))) := yNLe (by omega) (by omega) z247
          refine wp_kn k_85 rfl rfl ?_
          refine wp_br k_85 rfl rfl rfl rfl (fun _ => ?_) (fun z => absurd trivial z)
          refine wm_pi 25 M5 k_85 rfl rfl rfl rfl rfl rfl (fun h7 M7 => ?_)
          refine wp_kn k_85 rfl rfl ?_
          exact wp_irt k_85 rfl rfl rfl (K1 _ _ _ (.inr (.inl (u2, v2, bt2))) _ M7 ((((((eqx.refl _ _).u (by decide)).t e2 (by decide)).u (by decide)).u (by decide)).u (by decide)) (fun _ _ _ => rfl) (by unfold lineM; rw [if_neg (show ¬ tk (ar 1) len p = nI 82 by rw [hc]; decide), if_neg (show ¬ tk (ar 1) len p = nI 66 by rw [hc]; decide), if_neg (show ¬ tk (ar 1) len p = nI 80 by rw [hc]; decide), if_neg (show ¬ tk (ar 1) len p = nI 68 by rw [hc]; decide), if_neg (show ¬ tk (ar 1) len p = nI 83 by rw [hc]; decide), if_neg (show ¬ tk (ar 1) len p = nI 67 by rw [hc]; decide), if_neg (show ¬ tk (ar 1) len p = nI 69 by rw [hc]; decide), if_pos hc, ← wayM_congr hE.2.1.nm hE.2.1.kd, z2]) ((uF_ne (by decide)).trans ((uF_ne (by decide)).trans ((uF_ne (by decide)).trans a2))) (hE.way ((((((((eqx.refl _ _).u (by decide)).t e2 (by decide)).u (by decide)).u (by decide)).u (by decide)) : eqx [23, 24, 25, 27, 31, 48, 49, 59, 60, 61] g _) 26 (by decide)) (fun _ _ _ => rfl) ((uF_ne (by decide)).trans ((uF_ne (by decide)).trans uF_at)) ((uF_ne (by decide)).trans uF_at) (by rw [decide_eq_true (by omega)]; exact uF_at) (fun _ _ => ⟨rfl, rfl, rfl⟩) (fun q => absurd q (by omega)) ⟨rfl, rfl⟩))
      · have y105 : E.2.1.length < 60 := yNLe (by omega) (by omega) z105
        refine wp_pure k_85 rfl rfl ?_
        refine wm_ga 28 M2 k_85 rfl rfl rfl (by decide) ?_
        refine wp_pure k_85 rfl rfl ?_
        refine wm_gi 27 M2 k_85 rfl rfl rfl rfl ((e2 27 (by decide)).trans ((uF_ne (by decide)).trans hE.2.2.1)) ?_
        refine wp_pure k_85 rfl rfl ?_
        refine wm_gi 59 M2 k_85 rfl rfl rfl rfl b2 ?_
        refine wm_as 28 M2 k_85 rfl rfl (by decide) rfl (show E.2.1.length < 60 by omega) (fun h8 M8 => ?_)
        refine wp_pure k_85 rfl rfl ?_
        refine wm_ga 29 M8 k_85 rfl rfl rfl (by decide) ?_
        refine wp_pure k_85 rfl rfl ?_
        refine wm_gi 27 M8 k_85 rfl rfl rfl rfl ((e2 27 (by decide)).trans ((uF_ne (by decide)).trans hE.2.2.1)) ?_
        refine wp_pure k_85 rfl rfl ?_
        refine wm_gi 60 M8 k_85 rfl rfl rfl rfl c2 ?_
        refine wm_as 29 M8 k_85 rfl rfl (by decide) rfl (show E.2.1.length < 60 by omega) (fun h9 M9 => ?_)
        refine wp_pure k_85 rfl rfl ?_
        refine wm_ga 30 M9 k_85 rfl rfl rfl (by decide) ?_
        refine wp_pure k_85 rfl rfl ?_
        refine wm_gi 27 M9 k_85 rfl rfl rfl rfl ((e2 27 (by decide)).trans ((uF_ne (by decide)).trans hE.2.2.1)) ?_
        refine wp_pure k_85 rfl rfl ?_
        refine wm_gi 61 M9 k_85 rfl rfl rfl rfl d2 ?_
        refine wm_bs 30 M9 k_85 rfl rfl (by decide) rfl (show E.2.1.length < 60 by omega) (by cases bt2 <;> rfl) (fun h10 M10 => ?_)
        refine wp_pure k_85 rfl rfl ?_
        refine wp_kn k_85 rfl rfl ?_
        refine wp_br k_85 rfl rfl rfl rfl (fun _ => ?_) (fun z => absurd (show ¬ nI 87 = nI 65 by decide) z)
        refine wp_pure k_85 rfl rfl ?_
        refine wp_pure k_85 rfl rfl ?_
        refine wm_gi 27 M10 k_85 rfl rfl rfl rfl ((e2 27 (by decide)).trans ((uF_ne (by decide)).trans hE.2.2.1)) ?_
        refine wp_pure k_85 rfl rfl ?_
        refine wp_kn k_85 rfl rfl ?_
        refine wp_br k_85 rfl rfl rfl rfl (fun z => absurd z (show ¬ (¬ nI 87 = nI 87) by decide)) (fun _ => ?_)
        refine wp_kn k_85 rfl rfl ?_
        refine wp_br k_85 rfl rfl rfl rfl (fun _ => ?_) (fun z => absurd trivial z)
        refine wp_addN k_85 rfl ?_
        refine wm_pi 27 M10 k_85 rfl rfl rfl rfl rfl rfl (fun h11 M11 => ?_)
        refine wp_pure k_85 rfl rfl ?_
        refine wp_pure k_85 rfl rfl ?_
        refine wm_gi 31 M11 k_85 rfl rfl rfl rfl ((uF_ne (by decide)).trans ((e2 31 (by decide)).trans ((uF_ne (by decide)).trans hE.2.2.2.1))) ?_
        refine wp_pure k_85 rfl rfl ?_
        refine wp_kn k_85 rfl rfl ?_
        refine wp_br k_85 rfl rfl rfl rfl (fun _ => ?_) (fun z => absurd (show ¬ nI 87 = nI 65 by decide) z)
        refine wp_kn k_85 rfl rfl ?_
        refine wp_addN k_85 rfl ?_
        refine wm_pi 31 M11 k_85 rfl rfl rfl rfl rfl rfl (fun h12 M12 => ?_)
        refine wp_pure k_85 rfl rfl ?_
        refine wp_pure k_85 rfl rfl ?_
        refine wm_gi 25 M12 k_85 rfl rfl rfl rfl ((uF_ne (by decide)).trans ((uF_ne (by decide)).trans ((e2 25 (by decide)).trans ((uF_ne (by decide)).trans h25)))) ?_
        refine wp_br k_85 rfl rfl rfl rfl (fun z => absurd z (show ¬ (¬ (nI 0 : Int32) = 0) by decide)) (fun _ => ?_)
        refine wp_pure k_85 rfl rfl ?_
        refine wm_gi 27 M12 k_85 rfl rfl rfl rfl ((uF_ne (by decide)).trans uF_at) ?_
        refine wp_pure k_85 rfl rfl ?_
        refine wm_gi 31 M12 k_85 rfl rfl rfl rfl uF_at ?_
        refine wp_addN k_85 rfl ?_
        refine wp_kn k_85 rfl rfl ?_
        refine wp_br k_85 rfl rfl rfl rfl (fun (z247 : nI ((((E.2.1.length) + 1)) + (((E.2.2.length) + 0))) ≤ nI 60) => ?_) (fun (z247 : ¬ (nI ((((E.2.1.length) + 1)) + (((E.2.2.length) + 0))) ≤ nI 60)) => ?_)
        · have y247 : ((((E.2.1.length) + 1)) + (((E.2.2.length) + 0))) ≤ 60 := yLe (by omega) (by omega) z247
          refine wp_kn k_85 rfl rfl ?_
          refine wm_pi 25 M12 k_85 rfl rfl rfl rfl rfl rfl (fun h13 M13 => ?_)
          refine wp_kn k_85 rfl rfl ?_
          exact wp_irt k_85 rfl rfl rfl (K1 _ _ _ (.inr (.inl (u2, v2, bt2))) _ M13 ((((((eqx.refl _ _).u (by decide)).t e2 (by decide)).u (by decide)).u (by decide)).u (by decide)) (fun k h1 h2 => by rw [uA_ne (by omega), uA_ne (by omega), uA_ne (by omega)]) (by unfold lineM; rw [if_neg (show ¬ tk (ar 1) len p = nI 82 by rw [hc]; decide), if_neg (show ¬ tk (ar 1) len p = nI 66 by rw [hc]; decide), if_neg (show ¬ tk (ar 1) len p = nI 80 by rw [hc]; decide), if_neg (show ¬ tk (ar 1) len p = nI 68 by rw [hc]; decide), if_neg (show ¬ tk (ar 1) len p = nI 83 by rw [hc]; decide), if_neg (show ¬ tk (ar 1) len p = nI 67 by rw [hc]; decide), if_neg (show ¬ tk (ar 1) len p = nI 69 by rw [hc]; decide), if_pos hc, ← wayM_congr hE.2.1.nm hE.2.1.kd, z2]) ((uF_ne (by decide)).trans ((uF_ne (by decide)).trans ((uF_ne (by decide)).trans a2))) (hE.way ((((((((eqx.refl _ _).u (by decide)).t e2 (by decide)).u (by decide)).u (by decide)).u (by decide)) : eqx [23, 24, 25, 27, 31, 48, 49, 59, 60, 61] g _) 26 (by decide)) (fun k h1 h2 => by rw [uA_ne (by omega), uA_ne (by omega), uA_ne (by omega)]) ((uF_ne (by decide)).trans ((uF_ne (by decide)).trans uF_at)) ((uF_ne (by decide)).trans uF_at) (by rw [decide_eq_false (by omega)]; exact uF_at) (fun i hi => ⟨by rw [uA_i (by omega), uA_i (by omega), uA_i (by omega)], by rw [uA_i (by omega), uA_i (by omega), uA_i (by omega)], by rw [uA_i (by omega), uA_i (by omega), uA_i (by omega)]⟩) (fun _ => ⟨by rw [uA_ne (by decide), uA_ne (by decide), uA_at], by rw [uA_ne (by decide), uA_at], uA_at⟩) ⟨by rw [uA_ne (by decide), uA_ne (by decide), uA_ne (by decide)], by rw [uA_ne (by decide), uA_ne (by decide), uA_ne (by decide)]⟩))
        · have y247 : 60 < ((((E.2.1.length) + 1)) + (((E.2.2.length) + 0))) := yNLe (by omega) (by omega) z247
          refine wp_kn k_85 rfl rfl ?_
          refine wp_br k_85 rfl rfl rfl rfl (fun _ => ?_) (fun z => absurd trivial z)
          refine wm_pi 25 M12 k_85 rfl rfl rfl rfl rfl rfl (fun h14 M14 => ?_)
          refine wp_kn k_85 rfl rfl ?_
          exact wp_irt k_85 rfl rfl rfl (K1 _ _ _ (.inr (.inl (u2, v2, bt2))) _ M14 ((((((eqx.refl _ _).u (by decide)).t e2 (by decide)).u (by decide)).u (by decide)).u (by decide)) (fun k h1 h2 => by rw [uA_ne (by omega), uA_ne (by omega), uA_ne (by omega)]) (by unfold lineM; rw [if_neg (show ¬ tk (ar 1) len p = nI 82 by rw [hc]; decide), if_neg (show ¬ tk (ar 1) len p = nI 66 by rw [hc]; decide), if_neg (show ¬ tk (ar 1) len p = nI 80 by rw [hc]; decide), if_neg (show ¬ tk (ar 1) len p = nI 68 by rw [hc]; decide), if_neg (show ¬ tk (ar 1) len p = nI 83 by rw [hc]; decide), if_neg (show ¬ tk (ar 1) len p = nI 67 by rw [hc]; decide), if_neg (show ¬ tk (ar 1) len p = nI 69 by rw [hc]; decide), if_pos hc, ← wayM_congr hE.2.1.nm hE.2.1.kd, z2]) ((uF_ne (by decide)).trans ((uF_ne (by decide)).trans ((uF_ne (by decide)).trans a2))) (hE.way ((((((((eqx.refl _ _).u (by decide)).t e2 (by decide)).u (by decide)).u (by decide)).u (by decide)) : eqx [23, 24, 25, 27, 31, 48, 49, 59, 60, 61] g _) 26 (by decide)) (fun k h1 h2 => by rw [uA_ne (by omega), uA_ne (by omega), uA_ne (by omega)]) ((uF_ne (by decide)).trans ((uF_ne (by decide)).trans uF_at)) ((uF_ne (by decide)).trans uF_at) (by rw [decide_eq_true (by omega)]; exact uF_at) (fun i hi => ⟨by rw [uA_i (by omega), uA_i (by omega), uA_i (by omega)], by rw [uA_i (by omega), uA_i (by omega), uA_i (by omega)], by rw [uA_i (by omega), uA_i (by omega), uA_i (by omega)]⟩) (fun _ => ⟨by rw [uA_ne (by decide), uA_ne (by decide), uA_at], by rw [uA_ne (by decide), uA_at], uA_at⟩) ⟨by rw [uA_ne (by decide), uA_ne (by decide), uA_ne (by decide)], by rw [uA_ne (by decide), uA_ne (by decide), uA_ne (by decide)]⟩))
    · refine wp_br k_85 rfl rfl rfl rfl (fun _ => ?_) (fun z => absurd (show (nI 0 : Int32) = 0 by decide) z)
      refine wp_kn k_85 rfl rfl ?_
      exact wp_irt k_85 rfl rfl rfl (K0 _ _ _ _ M3 (((eqx.refl _ _).u (by decide)).t e3 (by decide)) (fun _ _ _ => rfl) (by unfold lineM; rw [if_neg (show ¬ tk (ar 1) len p = nI 82 by rw [hc]; decide), if_neg (show ¬ tk (ar 1) len p = nI 66 by rw [hc]; decide), if_neg (show ¬ tk (ar 1) len p = nI 80 by rw [hc]; decide), if_neg (show ¬ tk (ar 1) len p = nI 68 by rw [hc]; decide), if_neg (show ¬ tk (ar 1) len p = nI 83 by rw [hc]; decide), if_neg (show ¬ tk (ar 1) len p = nI 67 by rw [hc]; decide), if_neg (show ¬ tk (ar 1) len p = nI 69 by rw [hc]; decide), if_pos hc, ← wayM_congr hE.2.1.nm hE.2.1.kd, z3]) a3)
theorem m_line_A {h0 h : sm_H} {m : Nat} {g : Nat → Int32} {ar : Nat → Nat → Int32} {Q : Nat → Option Value → sm_H → Prop} (M : MS h0 h m g ar) {len p : Nat} (hn : g 2 = nI len) (hl : len ≤ 3000) (hp : g 23 = nI p) (hpl : p < len) {E : List Pl × List (Nat × Nat × Bool) × List (Nat × Nat)} (hE : RM g ar E) (h5 : E.1.length ≤ 500) (hw3 : E.2.1.length + E.2.2.length ≤ 3000) (hc : tk (ar 1) len p = nI 65) (K1 : ∀ h' g' ar' r q, MS h0 h' m g' ar' → eqx gSc g g' → arF ar ar' → lineM (ar 1) len E.1 p = .ok (r, q) → g' 23 = nI q → RM g' ar' (addL E r) → Q 0 (some (.int (nI 1))) h') (K0 : ∀ h' g' ar' q, MS h0 h' m g' ar' → eqx gSc g g' → arF ar ar' → lineM (ar 1) len E.1 p = .error q → g' 24 = nI q → Q 0 (some (.int (nI 0))) h') : sm_wp 85 0 [.ref m, jk, jk] [] h Q := by
  by_cases hf : 60 < E.2.1.length + E.2.2.length
  · have h25 : g 25 = nI 1 := by rw [hE.2.2.2.2.1, decide_eq_true hf]; rfl
    refine wp_pure k_85 rfl rfl ?_
    refine wm_iv k_85 rfl rfl M [] rfl (r := []) (Nat.le_of_ble_eq_true rfl) (Nat.le_of_ble_eq_true rfl) rfl ?_
    refine m_next M hn hl hp (by omega) ⟨rfl, ?_⟩
    rw [Option.toList, hc]
    refine wp_pure k_85 rfl rfl ?_
    refine wp_pure k_85 rfl rfl ?_
    refine wp_is k_85 rfl (by decide) [.int (nI 65)] rfl (r := []) (Nat.le_of_ble_eq_true rfl) (Nat.le_of_ble_eq_true rfl) rfl ?_
    refine wp_pure k_87 rfl rfl ?_
    refine wp_kn k_87 rfl rfl ?_
    refine wp_br k_87 rfl rfl rfl rfl (fun _ => ?_) (fun z => absurd (show ¬ nI 65 = nI 82 by decide) z)
    refine wp_pure k_87 rfl rfl ?_
    refine wp_kn k_87 rfl rfl ?_
    refine wp_br k_87 rfl rfl rfl rfl (fun _ => ?_) (fun z => absurd (show ¬ nI 65 = nI 66 by decide) z)
    refine wp_pure k_87 rfl rfl ?_
    refine wp_kn k_87 rfl rfl ?_
    refine wp_br k_87 rfl rfl rfl rfl (fun _ => ?_) (fun z => absurd (show ¬ nI 65 = nI 80 by decide) z)
    refine wp_pure k_87 rfl rfl ?_
    refine wp_kn k_87 rfl rfl ?_
    refine wp_br k_87 rfl rfl rfl rfl (fun _ => ?_) (fun z => absurd (show ¬ nI 65 = nI 68 by decide) z)
    refine wp_pure k_87 rfl rfl ?_
    refine wp_kn k_87 rfl rfl ?_
    refine wp_br k_87 rfl rfl rfl rfl (fun _ => ?_) (fun z => absurd (show ¬ nI 65 = nI 83 by decide) z)
    refine wp_pure k_87 rfl rfl ?_
    refine wp_kn k_87 rfl rfl ?_
    refine wp_br k_87 rfl rfl rfl rfl (fun _ => ?_) (fun z => absurd (show ¬ nI 65 = nI 67 by decide) z)
    refine wp_pure k_87 rfl rfl ?_
    refine wp_kn k_87 rfl rfl ?_
    refine wp_br k_87 rfl rfl rfl rfl (fun _ => ?_) (fun z => absurd (show ¬ nI 65 = nI 69 by decide) z)
    refine wp_km k_87 rfl rfl ?_
    refine wp_irt k_87 rfl rfl rfl ⟨rfl, ?_⟩
    refine wp_pure k_85 rfl rfl ?_
    refine wp_pure k_85 rfl rfl ?_
    refine wp_km k_85 rfl rfl ?_
    refine wp_br k_85 rfl rfl rfl rfl (fun z => absurd rfl z) (fun _ => ?_)
    refine wp_pure k_85 rfl rfl ?_
    refine wp_kn k_85 rfl rfl ?_
    refine wp_br k_85 rfl rfl rfl rfl (fun z => absurd z (show ¬ (nI 65 = nI 87) by decide)) (fun _ => ?_)
    refine wp_pure k_85 rfl rfl ?_
    refine wp_kn k_85 rfl rfl ?_
    refine wp_br k_85 rfl rfl rfl rfl (fun _ => ?_) (fun z => absurd (show nI 65 = nI 65 by decide) z)
    refine wp_pure k_85 rfl rfl ?_
    refine wp_pure k_85 rfl rfl ?_
    refine wm_gi 23 M k_85 rfl rfl rfl rfl hp ?_
    refine wp_kn k_85 rfl rfl ?_
    refine wp_addN k_85 rfl ?_
    refine wm_pi 23 M k_85 rfl rfl rfl rfl rfl rfl (fun h1 M1 => ?_)
    refine wp_pure k_85 rfl rfl ?_
    refine wp_km k_85 rfl rfl ?_
    refine wp_br k_85 rfl rfl rfl rfl (fun _ => ?_) (fun z => absurd (rfl) z)
    refine wp_pure k_85 rfl rfl ?_
    refine wp_kn k_85 rfl rfl ?_
    refine wp_br k_85 rfl rfl rfl rfl (fun _ => ?_) (fun z => absurd (show ¬ nI 65 = nI 87 by decide) z)
    refine wp_pure k_85 rfl rfl ?_
    refine wm_iv k_85 rfl rfl M1 [] rfl (r := []) (Nat.le_of_ble_eq_true rfl) (Nat.le_of_ble_eq_true rfl) rfl ?_
    refine m_srv M1 ((uF_ne (by decide)).trans hn) hl uF_at (by omega) ((uF_ne (by decide)).trans hE.1) (by omega) (fun h2 g2 u2 v2 q2 M2 e2 z2 a2 b2 c2 => ⟨rfl, ?_⟩) (fun h3 g3 q3 M3 e3 z3 a3 => ⟨rfl, ?_⟩)
    · refine wp_br k_85 rfl rfl rfl rfl (fun _ => ?_) (fun z => absurd (show ¬ (nI 1 : Int32) = 0 by decide) z)
      refine wp_pure k_85 rfl rfl ?_
      refine wp_kn k_85 rfl rfl ?_
      refine wp_br k_85 rfl rfl rfl rfl (fun _ => ?_) (fun z => absurd (show ¬ nI 65 = nI 87 by decide) z)
      refine wp_pure k_85 rfl rfl ?_
      refine wp_kn k_85 rfl rfl ?_
      refine wp_br k_85 rfl rfl rfl rfl (fun z => absurd z (show ¬ (¬ nI 65 = nI 65) by decide)) (fun _ => ?_)
      refine wp_pure k_85 rfl rfl ?_
      refine wm_gi 31 M2 k_85 rfl rfl rfl rfl ((e2 31 (by decide)).trans ((uF_ne (by decide)).trans hE.2.2.2.1)) ?_
      refine wp_kn k_85 rfl rfl ?_
      refine wp_br k_85 rfl rfl rfl rfl (fun (z159 : nI 60 ≤ nI E.2.2.length) => ?_) (fun (z159 : ¬ (nI 60 ≤ nI E.2.2.length)) => ?_)
      · have y159 : 60 ≤ E.2.2.length := yLe (by omega) (by omega) z159
        refine wp_pure k_85 rfl rfl ?_
        refine wp_pure k_85 rfl rfl ?_
        refine wm_gi 27 M2 k_85 rfl rfl rfl rfl ((e2 27 (by decide)).trans ((uF_ne (by decide)).trans hE.2.2.1)) ?_
        refine wp_pure k_85 rfl rfl ?_
        refine wp_kn k_85 rfl rfl ?_
        refine wp_br k_85 rfl rfl rfl rfl (fun _ => ?_) (fun z => absurd (show ¬ nI 65 = nI 87 by decide) z)
        refine wp_kn k_85 rfl rfl ?_
        refine wp_addN k_85 rfl ?_
        refine wm_pi 27 M2 k_85 rfl rfl rfl rfl rfl rfl (fun h4 M4 => ?_)
        refine wp_pure k_85 rfl rfl ?_
        refine wp_pure k_85 rfl rfl ?_
        refine wm_gi 31 M4 k_85 rfl rfl rfl rfl ((uF_ne (by decide)).trans ((e2 31 (by decide)).trans ((uF_ne (by decide)).trans hE.2.2.2.1))) ?_
        refine wp_pure k_85 rfl rfl ?_
        refine wp_kn k_85 rfl rfl ?_
        refine wp_br k_85 rfl rfl rfl rfl (fun z => absurd z (show ¬ (¬ nI 65 = nI 65) by decide)) (fun _ => ?_)
        refine wp_kn k_85 rfl rfl ?_
        refine wp_br k_85 rfl rfl rfl rfl (fun _ => ?_) (fun z => absurd trivial z)
        refine wp_addN k_85 rfl ?_
        refine wm_pi 31 M4 k_85 rfl rfl rfl rfl rfl rfl (fun h5 M5 => ?_)
        refine wp_pure k_85 rfl rfl ?_
        refine wp_pure k_85 rfl rfl ?_
        refine wm_gi 25 M5 k_85 rfl rfl rfl rfl ((uF_ne (by decide)).trans ((uF_ne (by decide)).trans ((e2 25 (by decide)).trans ((uF_ne (by decide)).trans h25)))) ?_
        refine wp_br k_85 rfl rfl rfl rfl (fun _ => ?_) (fun z => absurd (show ¬ (nI 1 : Int32) = 0 by decide) z)
        refine wp_kn k_85 rfl rfl ?_
        refine wp_br k_85 rfl rfl rfl rfl (fun _ => ?_) (fun z => absurd trivial z)
        refine wm_pi 25 M5 k_85 rfl rfl rfl rfl rfl rfl (fun h6 M6 => ?_)
        refine wp_kn k_85 rfl rfl ?_
        exact wp_irt k_85 rfl rfl rfl (K1 _ _ _ (.inr (.inr (u2, v2))) _ M6 ((((((eqx.refl _ _).u (by decide)).t e2 (by decide)).u (by decide)).u (by decide)).u (by decide)) (fun _ _ _ => rfl) (by unfold lineM; rw [if_neg (show ¬ tk (ar 1) len p = nI 82 by rw [hc]; decide), if_neg (show ¬ tk (ar 1) len p = nI 66 by rw [hc]; decide), if_neg (show ¬ tk (ar 1) len p = nI 80 by rw [hc]; decide), if_neg (show ¬ tk (ar 1) len p = nI 68 by rw [hc]; decide), if_neg (show ¬ tk (ar 1) len p = nI 83 by rw [hc]; decide), if_neg (show ¬ tk (ar 1) len p = nI 67 by rw [hc]; decide), if_neg (show ¬ tk (ar 1) len p = nI 69 by rw [hc]; decide), if_neg (show ¬ tk (ar 1) len p = nI 87 by rw [hc]; decide), if_pos hc, ← srvM_congr hE.2.1.nm hE.2.1.kd, z2]) ((uF_ne (by decide)).trans ((uF_ne (by decide)).trans ((uF_ne (by decide)).trans a2))) (hE.srv ((((((((eqx.refl _ _).u (by decide)).t e2 (by decide)).u (by decide)).u (by decide)).u (by decide)) : eqx [23, 24, 25, 27, 31, 48, 49, 59, 60, 61] g _) 26 (by decide)) (fun _ _ _ => rfl) ((uF_ne (by decide)).trans ((uF_ne (by decide)).trans uF_at)) ((uF_ne (by decide)).trans uF_at) (by rw [decide_eq_true (by omega)]; exact uF_at) (fun _ _ => ⟨rfl, rfl⟩) (fun q => absurd q (by omega)) ⟨rfl, rfl, rfl⟩))
      · have y159 : E.2.2.length < 60 := yNLe (by omega) (by omega) z159
        refine wp_pure k_85 rfl rfl ?_
        refine wm_ga 32 M2 k_85 rfl rfl rfl (by decide) ?_
        refine wp_pure k_85 rfl rfl ?_
        refine wm_gi 31 M2 k_85 rfl rfl rfl rfl ((e2 31 (by decide)).trans ((uF_ne (by decide)).trans hE.2.2.2.1)) ?_
        refine wp_pure k_85 rfl rfl ?_
        refine wm_gi 59 M2 k_85 rfl rfl rfl rfl b2 ?_
        refine wm_as 32 M2 k_85 rfl rfl (by decide) rfl (show E.2.2.length < 60 by omega) (fun h7 M7 => ?_)
        refine wp_pure k_85 rfl rfl ?_
        refine wm_ga 33 M7 k_85 rfl rfl rfl (by decide) ?_
        refine wp_pure k_85 rfl rfl ?_
        refine wm_gi 31 M7 k_85 rfl rfl rfl rfl ((e2 31 (by decide)).trans ((uF_ne (by decide)).trans hE.2.2.2.1)) ?_
        refine wp_pure k_85 rfl rfl ?_
        refine wm_gi 60 M7 k_85 rfl rfl rfl rfl c2 ?_
        refine wm_as 33 M7 k_85 rfl rfl (by decide) rfl (show E.2.2.length < 60 by omega) (fun h8 M8 => ?_)
        refine wp_pure k_85 rfl rfl ?_
        refine wp_pure k_85 rfl rfl ?_
        refine wm_gi 27 M8 k_85 rfl rfl rfl rfl ((e2 27 (by decide)).trans ((uF_ne (by decide)).trans hE.2.2.1)) ?_
        refine wp_pure k_85 rfl rfl ?_
        refine wp_kn k_85 rfl rfl ?_
        refine wp_br k_85 rfl rfl rfl rfl (fun _ => ?_) (fun z => absurd (show ¬ nI 65 = nI 87 by decide) z)
        refine wp_kn k_85 rfl rfl ?_
        refine wp_addN k_85 rfl ?_
        refine wm_pi 27 M8 k_85 rfl rfl rfl rfl rfl rfl (fun h9 M9 => ?_)
        refine wp_pure k_85 rfl rfl ?_
        refine wp_pure k_85 rfl rfl ?_
        refine wm_gi 31 M9 k_85 rfl rfl rfl rfl ((uF_ne (by decide)).trans ((e2 31 (by decide)).trans ((uF_ne (by decide)).trans hE.2.2.2.1))) ?_
        refine wp_pure k_85 rfl rfl ?_
        refine wp_kn k_85 rfl rfl ?_
        refine wp_br k_85 rfl rfl rfl rfl (fun z => absurd z (show ¬ (¬ nI 65 = nI 65) by decide)) (fun _ => ?_)
        refine wp_kn k_85 rfl rfl ?_
        refine wp_br k_85 rfl rfl rfl rfl (fun _ => ?_) (fun z => absurd trivial z)
        refine wp_addN k_85 rfl ?_
        refine wm_pi 31 M9 k_85 rfl rfl rfl rfl rfl rfl (fun h10 M10 => ?_)
        refine wp_pure k_85 rfl rfl ?_
        refine wp_pure k_85 rfl rfl ?_
        refine wm_gi 25 M10 k_85 rfl rfl rfl rfl ((uF_ne (by decide)).trans ((uF_ne (by decide)).trans ((e2 25 (by decide)).trans ((uF_ne (by decide)).trans h25)))) ?_
        refine wp_br k_85 rfl rfl rfl rfl (fun _ => ?_) (fun z => absurd (show ¬ (nI 1 : Int32) = 0 by decide) z)
        refine wp_kn k_85 rfl rfl ?_
        refine wp_br k_85 rfl rfl rfl rfl (fun _ => ?_) (fun z => absurd trivial z)
        refine wm_pi 25 M10 k_85 rfl rfl rfl rfl rfl rfl (fun h11 M11 => ?_)
        refine wp_kn k_85 rfl rfl ?_
        exact wp_irt k_85 rfl rfl rfl (K1 _ _ _ (.inr (.inr (u2, v2))) _ M11 ((((((eqx.refl _ _).u (by decide)).t e2 (by decide)).u (by decide)).u (by decide)).u (by decide)) (fun k h1 h2 => by rw [uA_ne (by omega), uA_ne (by omega)]) (by unfold lineM; rw [if_neg (show ¬ tk (ar 1) len p = nI 82 by rw [hc]; decide), if_neg (show ¬ tk (ar 1) len p = nI 66 by rw [hc]; decide), if_neg (show ¬ tk (ar 1) len p = nI 80 by rw [hc]; decide), if_neg (show ¬ tk (ar 1) len p = nI 68 by rw [hc]; decide), if_neg (show ¬ tk (ar 1) len p = nI 83 by rw [hc]; decide), if_neg (show ¬ tk (ar 1) len p = nI 67 by rw [hc]; decide), if_neg (show ¬ tk (ar 1) len p = nI 69 by rw [hc]; decide), if_neg (show ¬ tk (ar 1) len p = nI 87 by rw [hc]; decide), if_pos hc, ← srvM_congr hE.2.1.nm hE.2.1.kd, z2]) ((uF_ne (by decide)).trans ((uF_ne (by decide)).trans ((uF_ne (by decide)).trans a2))) (hE.srv ((((((((eqx.refl _ _).u (by decide)).t e2 (by decide)).u (by decide)).u (by decide)).u (by decide)) : eqx [23, 24, 25, 27, 31, 48, 49, 59, 60, 61] g _) 26 (by decide)) (fun k h1 h2 => by rw [uA_ne (by omega), uA_ne (by omega)]) ((uF_ne (by decide)).trans ((uF_ne (by decide)).trans uF_at)) ((uF_ne (by decide)).trans uF_at) (by rw [decide_eq_true (by omega)]; exact uF_at) (fun i hi => ⟨by rw [uA_i (by omega), uA_i (by omega)], by rw [uA_i (by omega), uA_i (by omega)]⟩) (fun _ => ⟨by rw [uA_ne (by decide), uA_at], uA_at⟩) ⟨by rw [uA_ne (by decide), uA_ne (by decide)], by rw [uA_ne (by decide), uA_ne (by decide)], by rw [uA_ne (by decide), uA_ne (by decide)]⟩))
    · refine wp_br k_85 rfl rfl rfl rfl (fun z => absurd z (show ¬ (¬ (nI 0 : Int32) = 0) by decide)) (fun _ => ?_)
      refine wp_kn k_85 rfl rfl ?_
      exact wp_irt k_85 rfl rfl rfl (K0 _ _ _ _ M3 (((eqx.refl _ _).u (by decide)).t e3 (by decide)) (fun _ _ _ => rfl) (by unfold lineM; rw [if_neg (show ¬ tk (ar 1) len p = nI 82 by rw [hc]; decide), if_neg (show ¬ tk (ar 1) len p = nI 66 by rw [hc]; decide), if_neg (show ¬ tk (ar 1) len p = nI 80 by rw [hc]; decide), if_neg (show ¬ tk (ar 1) len p = nI 68 by rw [hc]; decide), if_neg (show ¬ tk (ar 1) len p = nI 83 by rw [hc]; decide), if_neg (show ¬ tk (ar 1) len p = nI 67 by rw [hc]; decide), if_neg (show ¬ tk (ar 1) len p = nI 69 by rw [hc]; decide), if_neg (show ¬ tk (ar 1) len p = nI 87 by rw [hc]; decide), if_pos hc, ← srvM_congr hE.2.1.nm hE.2.1.kd, z3]) a3)
  · have h25 : g 25 = nI 0 := by rw [hE.2.2.2.2.1, decide_eq_false hf]; rfl
    refine wp_pure k_85 rfl rfl ?_
    refine wm_iv k_85 rfl rfl M [] rfl (r := []) (Nat.le_of_ble_eq_true rfl) (Nat.le_of_ble_eq_true rfl) rfl ?_
    refine m_next M hn hl hp (by omega) ⟨rfl, ?_⟩
    rw [Option.toList, hc]
    refine wp_pure k_85 rfl rfl ?_
    refine wp_pure k_85 rfl rfl ?_
    refine wp_is k_85 rfl (by decide) [.int (nI 65)] rfl (r := []) (Nat.le_of_ble_eq_true rfl) (Nat.le_of_ble_eq_true rfl) rfl ?_
    refine wp_pure k_87 rfl rfl ?_
    refine wp_kn k_87 rfl rfl ?_
    refine wp_br k_87 rfl rfl rfl rfl (fun _ => ?_) (fun z => absurd (show ¬ nI 65 = nI 82 by decide) z)
    refine wp_pure k_87 rfl rfl ?_
    refine wp_kn k_87 rfl rfl ?_
    refine wp_br k_87 rfl rfl rfl rfl (fun _ => ?_) (fun z => absurd (show ¬ nI 65 = nI 66 by decide) z)
    refine wp_pure k_87 rfl rfl ?_
    refine wp_kn k_87 rfl rfl ?_
    refine wp_br k_87 rfl rfl rfl rfl (fun _ => ?_) (fun z => absurd (show ¬ nI 65 = nI 80 by decide) z)
    refine wp_pure k_87 rfl rfl ?_
    refine wp_kn k_87 rfl rfl ?_
    refine wp_br k_87 rfl rfl rfl rfl (fun _ => ?_) (fun z => absurd (show ¬ nI 65 = nI 68 by decide) z)
    refine wp_pure k_87 rfl rfl ?_
    refine wp_kn k_87 rfl rfl ?_
    refine wp_br k_87 rfl rfl rfl rfl (fun _ => ?_) (fun z => absurd (show ¬ nI 65 = nI 83 by decide) z)
    refine wp_pure k_87 rfl rfl ?_
    refine wp_kn k_87 rfl rfl ?_
    refine wp_br k_87 rfl rfl rfl rfl (fun _ => ?_) (fun z => absurd (show ¬ nI 65 = nI 67 by decide) z)
    refine wp_pure k_87 rfl rfl ?_
    refine wp_kn k_87 rfl rfl ?_
    refine wp_br k_87 rfl rfl rfl rfl (fun _ => ?_) (fun z => absurd (show ¬ nI 65 = nI 69 by decide) z)
    refine wp_km k_87 rfl rfl ?_
    refine wp_irt k_87 rfl rfl rfl ⟨rfl, ?_⟩
    refine wp_pure k_85 rfl rfl ?_
    refine wp_pure k_85 rfl rfl ?_
    refine wp_km k_85 rfl rfl ?_
    refine wp_br k_85 rfl rfl rfl rfl (fun z => absurd rfl z) (fun _ => ?_)
    refine wp_pure k_85 rfl rfl ?_
    refine wp_kn k_85 rfl rfl ?_
    refine wp_br k_85 rfl rfl rfl rfl (fun z => absurd z (show ¬ (nI 65 = nI 87) by decide)) (fun _ => ?_)
    refine wp_pure k_85 rfl rfl ?_
    refine wp_kn k_85 rfl rfl ?_
    refine wp_br k_85 rfl rfl rfl rfl (fun _ => ?_) (fun z => absurd (show nI 65 = nI 65 by decide) z)
    refine wp_pure k_85 rfl rfl ?_
    refine wp_pure k_85 rfl rfl ?_
    refine wm_gi 23 M k_85 rfl rfl rfl rfl hp ?_
    refine wp_kn k_85 rfl rfl ?_
    refine wp_addN k_85 rfl ?_
    refine wm_pi 23 M k_85 rfl rfl rfl rfl rfl rfl (fun h1 M1 => ?_)
    refine wp_pure k_85 rfl rfl ?_
    refine wp_km k_85 rfl rfl ?_
    refine wp_br k_85 rfl rfl rfl rfl (fun _ => ?_) (fun z => absurd (rfl) z)
    refine wp_pure k_85 rfl rfl ?_
    refine wp_kn k_85 rfl rfl ?_
    refine wp_br k_85 rfl rfl rfl rfl (fun _ => ?_) (fun z => absurd (show ¬ nI 65 = nI 87 by decide) z)
    refine wp_pure k_85 rfl rfl ?_
    refine wm_iv k_85 rfl rfl M1 [] rfl (r := []) (Nat.le_of_ble_eq_true rfl) (Nat.le_of_ble_eq_true rfl) rfl ?_
    refine m_srv M1 ((uF_ne (by decide)).trans hn) hl uF_at (by omega) ((uF_ne (by decide)).trans hE.1) (by omega) (fun h2 g2 u2 v2 q2 M2 e2 z2 a2 b2 c2 => ⟨rfl, ?_⟩) (fun h3 g3 q3 M3 e3 z3 a3 => ⟨rfl, ?_⟩)
    · refine wp_br k_85 rfl rfl rfl rfl (fun _ => ?_) (fun z => absurd (show ¬ (nI 1 : Int32) = 0 by decide) z)
      refine wp_pure k_85 rfl rfl ?_
      refine wp_kn k_85 rfl rfl ?_
      refine wp_br k_85 rfl rfl rfl rfl (fun _ => ?_) (fun z => absurd (show ¬ nI 65 = nI 87 by decide) z)
      refine wp_pure k_85 rfl rfl ?_
      refine wp_kn k_85 rfl rfl ?_
      refine wp_br k_85 rfl rfl rfl rfl (fun z => absurd z (show ¬ (¬ nI 65 = nI 65) by decide)) (fun _ => ?_)
      refine wp_pure k_85 rfl rfl ?_
      refine wm_gi 31 M2 k_85 rfl rfl rfl rfl ((e2 31 (by decide)).trans ((uF_ne (by decide)).trans hE.2.2.2.1)) ?_
      refine wp_kn k_85 rfl rfl ?_
      refine wp_br k_85 rfl rfl rfl rfl (fun (z159 : nI 60 ≤ nI E.2.2.length) => ?_) (fun (z159 : ¬ (nI 60 ≤ nI E.2.2.length)) => ?_)
      · have y159 : 60 ≤ E.2.2.length := yLe (by omega) (by omega) z159
        refine wp_pure k_85 rfl rfl ?_
        refine wp_pure k_85 rfl rfl ?_
        refine wm_gi 27 M2 k_85 rfl rfl rfl rfl ((e2 27 (by decide)).trans ((uF_ne (by decide)).trans hE.2.2.1)) ?_
        refine wp_pure k_85 rfl rfl ?_
        refine wp_kn k_85 rfl rfl ?_
        refine wp_br k_85 rfl rfl rfl rfl (fun _ => ?_) (fun z => absurd (show ¬ nI 65 = nI 87 by decide) z)
        refine wp_kn k_85 rfl rfl ?_
        refine wp_addN k_85 rfl ?_
        refine wm_pi 27 M2 k_85 rfl rfl rfl rfl rfl rfl (fun h4 M4 => ?_)
        refine wp_pure k_85 rfl rfl ?_
        refine wp_pure k_85 rfl rfl ?_
        refine wm_gi 31 M4 k_85 rfl rfl rfl rfl ((uF_ne (by decide)).trans ((e2 31 (by decide)).trans ((uF_ne (by decide)).trans hE.2.2.2.1))) ?_
        refine wp_pure k_85 rfl rfl ?_
        refine wp_kn k_85 rfl rfl ?_
        refine wp_br k_85 rfl rfl rfl rfl (fun z => absurd z (show ¬ (¬ nI 65 = nI 65) by decide)) (fun _ => ?_)
        refine wp_kn k_85 rfl rfl ?_
        refine wp_br k_85 rfl rfl rfl rfl (fun _ => ?_) (fun z => absurd trivial z)
        refine wp_addN k_85 rfl ?_
        refine wm_pi 31 M4 k_85 rfl rfl rfl rfl rfl rfl (fun h5 M5 => ?_)
        refine wp_pure k_85 rfl rfl ?_
        refine wp_pure k_85 rfl rfl ?_
        refine wm_gi 25 M5 k_85 rfl rfl rfl rfl ((uF_ne (by decide)).trans ((uF_ne (by decide)).trans ((e2 25 (by decide)).trans ((uF_ne (by decide)).trans h25)))) ?_
        refine wp_br k_85 rfl rfl rfl rfl (fun z => absurd z (show ¬ (¬ (nI 0 : Int32) = 0) by decide)) (fun _ => ?_)
        refine wp_pure k_85 rfl rfl ?_
        refine wm_gi 27 M5 k_85 rfl rfl rfl rfl ((uF_ne (by decide)).trans uF_at) ?_
        refine wp_pure k_85 rfl rfl ?_
        refine wm_gi 31 M5 k_85 rfl rfl rfl rfl uF_at ?_
        refine wp_addN k_85 rfl ?_
        refine wp_kn k_85 rfl rfl ?_
        refine wp_br k_85 rfl rfl rfl rfl (fun (z247 : nI ((((E.2.1.length) + 0)) + (((E.2.2.length) + 1))) ≤ nI 60) => ?_) (fun (z247 : ¬ (nI ((((E.2.1.length) + 0)) + (((E.2.2.length) + 1))) ≤ nI 60)) => ?_)
        · have y247 : ((((E.2.1.length) + 0)) + (((E.2.2.length) + 1))) ≤ 60 := yLe (by omega) (by omega) z247
          refine wp_kn k_85 rfl rfl ?_
          refine wm_pi 25 M5 k_85 rfl rfl rfl rfl rfl rfl (fun h6 M6 => ?_)
          refine wp_kn k_85 rfl rfl ?_
          exact wp_irt k_85 rfl rfl rfl (K1 _ _ _ (.inr (.inr (u2, v2))) _ M6 ((((((eqx.refl _ _).u (by decide)).t e2 (by decide)).u (by decide)).u (by decide)).u (by decide)) (fun _ _ _ => rfl) (by unfold lineM; rw [if_neg (show ¬ tk (ar 1) len p = nI 82 by rw [hc]; decide), if_neg (show ¬ tk (ar 1) len p = nI 66 by rw [hc]; decide), if_neg (show ¬ tk (ar 1) len p = nI 80 by rw [hc]; decide), if_neg (show ¬ tk (ar 1) len p = nI 68 by rw [hc]; decide), if_neg (show ¬ tk (ar 1) len p = nI 83 by rw [hc]; decide), if_neg (show ¬ tk (ar 1) len p = nI 67 by rw [hc]; decide), if_neg (show ¬ tk (ar 1) len p = nI 69 by rw [hc]; decide), if_neg (show ¬ tk (ar 1) len p = nI 87 by rw [hc]; decide), if_pos hc, ← srvM_congr hE.2.1.nm hE.2.1.kd, z2]) ((uF_ne (by decide)).trans ((uF_ne (by decide)).trans ((uF_ne (by decide)).trans a2))) (hE.srv ((((((((eqx.refl _ _).u (by decide)).t e2 (by decide)).u (by decide)).u (by decide)).u (by decide)) : eqx [23, 24, 25, 27, 31, 48, 49, 59, 60, 61] g _) 26 (by decide)) (fun _ _ _ => rfl) ((uF_ne (by decide)).trans ((uF_ne (by decide)).trans uF_at)) ((uF_ne (by decide)).trans uF_at) (by rw [decide_eq_false (by omega)]; exact uF_at) (fun _ _ => ⟨rfl, rfl⟩) (fun q => absurd q (by omega)) ⟨rfl, rfl, rfl⟩))
        · have y247 : 60 < ((((E.2.1.length) + 0)) + (((E.2.2.length) + 1))) := yNLe (by omega) (by omega) z247
          refine wp_kn k_85 rfl rfl ?_
          refine wp_br k_85 rfl rfl rfl rfl (fun _ => ?_) (fun z => absurd trivial z)
          refine wm_pi 25 M5 k_85 rfl rfl rfl rfl rfl rfl (fun h7 M7 => ?_)
          refine wp_kn k_85 rfl rfl ?_
          exact wp_irt k_85 rfl rfl rfl (K1 _ _ _ (.inr (.inr (u2, v2))) _ M7 ((((((eqx.refl _ _).u (by decide)).t e2 (by decide)).u (by decide)).u (by decide)).u (by decide)) (fun _ _ _ => rfl) (by unfold lineM; rw [if_neg (show ¬ tk (ar 1) len p = nI 82 by rw [hc]; decide), if_neg (show ¬ tk (ar 1) len p = nI 66 by rw [hc]; decide), if_neg (show ¬ tk (ar 1) len p = nI 80 by rw [hc]; decide), if_neg (show ¬ tk (ar 1) len p = nI 68 by rw [hc]; decide), if_neg (show ¬ tk (ar 1) len p = nI 83 by rw [hc]; decide), if_neg (show ¬ tk (ar 1) len p = nI 67 by rw [hc]; decide), if_neg (show ¬ tk (ar 1) len p = nI 69 by rw [hc]; decide), if_neg (show ¬ tk (ar 1) len p = nI 87 by rw [hc]; decide), if_pos hc, ← srvM_congr hE.2.1.nm hE.2.1.kd, z2]) ((uF_ne (by decide)).trans ((uF_ne (by decide)).trans ((uF_ne (by decide)).trans a2))) (hE.srv ((((((((eqx.refl _ _).u (by decide)).t e2 (by decide)).u (by decide)).u (by decide)).u (by decide)) : eqx [23, 24, 25, 27, 31, 48, 49, 59, 60, 61] g _) 26 (by decide)) (fun _ _ _ => rfl) ((uF_ne (by decide)).trans ((uF_ne (by decide)).trans uF_at)) ((uF_ne (by decide)).trans uF_at) (by rw [decide_eq_true (by omega)]; exact uF_at) (fun _ _ => ⟨rfl, rfl⟩) (fun q => absurd q (by omega)) ⟨rfl, rfl, rfl⟩))
      · have y159 : E.2.2.length < 60 := yNLe (by omega) (by omega) z159
        refine wp_pure k_85 rfl rfl ?_
        refine wm_ga 32 M2 k_85 rfl rfl rfl (by decide) ?_
        refine wp_pure k_85 rfl rfl ?_
        refine wm_gi 31 M2 k_85 rfl rfl rfl rfl ((e2 31 (by decide)).trans ((uF_ne (by decide)).trans hE.2.2.2.1)) ?_
        refine wp_pure k_85 rfl rfl ?_
        refine wm_gi 59 M2 k_85 rfl rfl rfl rfl b2 ?_
        refine wm_as 32 M2 k_85 rfl rfl (by decide) rfl (show E.2.2.length < 60 by omega) (fun h8 M8 => ?_)
        refine wp_pure k_85 rfl rfl ?_
        refine wm_ga 33 M8 k_85 rfl rfl rfl (by decide) ?_
        refine wp_pure k_85 rfl rfl ?_
        refine wm_gi 31 M8 k_85 rfl rfl rfl rfl ((e2 31 (by decide)).trans ((uF_ne (by decide)).trans hE.2.2.2.1)) ?_
        refine wp_pure k_85 rfl rfl ?_
        refine wm_gi 60 M8 k_85 rfl rfl rfl rfl c2 ?_
        refine wm_as 33 M8 k_85 rfl rfl (by decide) rfl (show E.2.2.length < 60 by omega) (fun h9 M9 => ?_)
        refine wp_pure k_85 rfl rfl ?_
        refine wp_pure k_85 rfl rfl ?_
        refine wm_gi 27 M9 k_85 rfl rfl rfl rfl ((e2 27 (by decide)).trans ((uF_ne (by decide)).trans hE.2.2.1)) ?_
        refine wp_pure k_85 rfl rfl ?_
        refine wp_kn k_85 rfl rfl ?_
        refine wp_br k_85 rfl rfl rfl rfl (fun _ => ?_) (fun z => absurd (show ¬ nI 65 = nI 87 by decide) z)
        refine wp_kn k_85 rfl rfl ?_
        refine wp_addN k_85 rfl ?_
        refine wm_pi 27 M9 k_85 rfl rfl rfl rfl rfl rfl (fun h10 M10 => ?_)
        refine wp_pure k_85 rfl rfl ?_
        refine wp_pure k_85 rfl rfl ?_
        refine wm_gi 31 M10 k_85 rfl rfl rfl rfl ((uF_ne (by decide)).trans ((e2 31 (by decide)).trans ((uF_ne (by decide)).trans hE.2.2.2.1))) ?_
        refine wp_pure k_85 rfl rfl ?_
        refine wp_kn k_85 rfl rfl ?_
        refine wp_br k_85 rfl rfl rfl rfl (fun z => absurd z (show ¬ (¬ nI 65 = nI 65) by decide)) (fun _ => ?_)
        refine wp_kn k_85 rfl rfl ?_
        refine wp_br k_85 rfl rfl rfl rfl (fun _ => ?_) (fun z => absurd trivial z)
        refine wp_addN k_85 rfl ?_
        refine wm_pi 31 M10 k_85 rfl rfl rfl rfl rfl rfl (fun h11 M11 => ?_)
        refine wp_pure k_85 rfl rfl ?_
        refine wp_pure k_85 rfl rfl ?_
        refine wm_gi 25 M11 k_85 rfl rfl rfl rfl ((uF_ne (by decide)).trans ((uF_ne (by decide)).trans ((e2 25 (by decide)).trans ((uF_ne (by decide)).trans h25)))) ?_
        refine wp_br k_85 rfl rfl rfl rfl (fun z => absurd z (show ¬ (¬ (nI 0 : Int32) = 0) by decide)) (fun _ => ?_)
        refine wp_pure k_85 rfl rfl ?_
        refine wm_gi 27 M11 k_85 rfl rfl rfl rfl ((uF_ne (by decide)).trans uF_at) ?_
        refine wp_pure k_85 rfl rfl ?_
        refine wm_gi 31 M11 k_85 rfl rfl rfl rfl uF_at ?_
        refine wp_addN k_85 rfl ?_
        refine wp_kn k_85 rfl rfl ?_
        refine wp_br k_85 rfl rfl rfl rfl (fun (z247 : nI ((((E.2.1.length) + 0)) + (((E.2.2.length) + 1))) ≤ nI 60) => ?_) (fun (z247 : ¬ (nI ((((E.2.1.length) + 0)) + (((E.2.2.length) + 1))) ≤ nI 60)) => ?_)
        · have y247 : ((((E.2.1.length) + 0)) + (((E.2.2.length) + 1))) ≤ 60 := yLe (by omega) (by omega) z247
          refine wp_kn k_85 rfl rfl ?_
          refine wm_pi 25 M11 k_85 rfl rfl rfl rfl rfl rfl (fun h12 M12 => ?_)
          refine wp_kn k_85 rfl rfl ?_
          exact wp_irt k_85 rfl rfl rfl (K1 _ _ _ (.inr (.inr (u2, v2))) _ M12 ((((((eqx.refl _ _).u (by decide)).t e2 (by decide)).u (by decide)).u (by decide)).u (by decide)) (fun k h1 h2 => by rw [uA_ne (by omega), uA_ne (by omega)]) (by unfold lineM; rw [if_neg (show ¬ tk (ar 1) len p = nI 82 by rw [hc]; decide), if_neg (show ¬ tk (ar 1) len p = nI 66 by rw [hc]; decide), if_neg (show ¬ tk (ar 1) len p = nI 80 by rw [hc]; decide), if_neg (show ¬ tk (ar 1) len p = nI 68 by rw [hc]; decide), if_neg (show ¬ tk (ar 1) len p = nI 83 by rw [hc]; decide), if_neg (show ¬ tk (ar 1) len p = nI 67 by rw [hc]; decide), if_neg (show ¬ tk (ar 1) len p = nI 69 by rw [hc]; decide), if_neg (show ¬ tk (ar 1) len p = nI 87 by rw [hc]; decide), if_pos hc, ← srvM_congr hE.2.1.nm hE.2.1.kd, z2]) ((uF_ne (by decide)).trans ((uF_ne (by decide)).trans ((uF_ne (by decide)).trans a2))) (hE.srv ((((((((eqx.refl _ _).u (by decide)).t e2 (by decide)).u (by decide)).u (by decide)).u (by decide)) : eqx [23, 24, 25, 27, 31, 48, 49, 59, 60, 61] g _) 26 (by decide)) (fun k h1 h2 => by rw [uA_ne (by omega), uA_ne (by omega)]) ((uF_ne (by decide)).trans ((uF_ne (by decide)).trans uF_at)) ((uF_ne (by decide)).trans uF_at) (by rw [decide_eq_false (by omega)]; exact uF_at) (fun i hi => ⟨by rw [uA_i (by omega), uA_i (by omega)], by rw [uA_i (by omega), uA_i (by omega)]⟩) (fun _ => ⟨by rw [uA_ne (by decide), uA_at], uA_at⟩) ⟨by rw [uA_ne (by decide), uA_ne (by decide)], by rw [uA_ne (by decide), uA_ne (by decide)], by rw [uA_ne (by decide), uA_ne (by decide)]⟩))
        · have y247 : 60 < ((((E.2.1.length) + 0)) + (((E.2.2.length) + 1))) := yNLe (by omega) (by omega) z247
          refine wp_kn k_85 rfl rfl ?_
          refine wp_br k_85 rfl rfl rfl rfl (fun _ => ?_) (fun z => absurd trivial z)
          refine wm_pi 25 M11 k_85 rfl rfl rfl rfl rfl rfl (fun h13 M13 => ?_)
          refine wp_kn k_85 rfl rfl ?_
          exact wp_irt k_85 rfl rfl rfl (K1 _ _ _ (.inr (.inr (u2, v2))) _ M13 ((((((eqx.refl _ _).u (by decide)).t e2 (by decide)).u (by decide)).u (by decide)).u (by decide)) (fun k h1 h2 => by rw [uA_ne (by omega), uA_ne (by omega)]) (by unfold lineM; rw [if_neg (show ¬ tk (ar 1) len p = nI 82 by rw [hc]; decide), if_neg (show ¬ tk (ar 1) len p = nI 66 by rw [hc]; decide), if_neg (show ¬ tk (ar 1) len p = nI 80 by rw [hc]; decide), if_neg (show ¬ tk (ar 1) len p = nI 68 by rw [hc]; decide), if_neg (show ¬ tk (ar 1) len p = nI 83 by rw [hc]; decide), if_neg (show ¬ tk (ar 1) len p = nI 67 by rw [hc]; decide), if_neg (show ¬ tk (ar 1) len p = nI 69 by rw [hc]; decide), if_neg (show ¬ tk (ar 1) len p = nI 87 by rw [hc]; decide), if_pos hc, ← srvM_congr hE.2.1.nm hE.2.1.kd, z2]) ((uF_ne (by decide)).trans ((uF_ne (by decide)).trans ((uF_ne (by decide)).trans a2))) (hE.srv ((((((((eqx.refl _ _).u (by decide)).t e2 (by decide)).u (by decide)).u (by decide)).u (by decide)) : eqx [23, 24, 25, 27, 31, 48, 49, 59, 60, 61] g _) 26 (by decide)) (fun k h1 h2 => by rw [uA_ne (by omega), uA_ne (by omega)]) ((uF_ne (by decide)).trans ((uF_ne (by decide)).trans uF_at)) ((uF_ne (by decide)).trans uF_at) (by rw [decide_eq_true (by omega)]; exact uF_at) (fun i hi => ⟨by rw [uA_i (by omega), uA_i (by omega)], by rw [uA_i (by omega), uA_i (by omega)]⟩) (fun _ => ⟨by rw [uA_ne (by decide), uA_at], uA_at⟩) ⟨by rw [uA_ne (by decide), uA_ne (by decide)], by rw [uA_ne (by decide), uA_ne (by decide)], by rw [uA_ne (by decide), uA_ne (by decide)]⟩))
    · refine wp_br k_85 rfl rfl rfl rfl (fun z => absurd z (show ¬ (¬ (nI 0 : Int32) = 0) by decide)) (fun _ => ?_)
      refine wp_kn k_85 rfl rfl ?_
      exact wp_irt k_85 rfl rfl rfl (K0 _ _ _ _ M3 (((eqx.refl _ _).u (by decide)).t e3 (by decide)) (fun _ _ _ => rfl) (by unfold lineM; rw [if_neg (show ¬ tk (ar 1) len p = nI 82 by rw [hc]; decide), if_neg (show ¬ tk (ar 1) len p = nI 66 by rw [hc]; decide), if_neg (show ¬ tk (ar 1) len p = nI 80 by rw [hc]; decide), if_neg (show ¬ tk (ar 1) len p = nI 68 by rw [hc]; decide), if_neg (show ¬ tk (ar 1) len p = nI 83 by rw [hc]; decide), if_neg (show ¬ tk (ar 1) len p = nI 67 by rw [hc]; decide), if_neg (show ¬ tk (ar 1) len p = nI 69 by rw [hc]; decide), if_neg (show ¬ tk (ar 1) len p = nI 87 by rw [hc]; decide), if_pos hc, ← srvM_congr hE.2.1.nm hE.2.1.kd, z3]) a3)
theorem m_line_N {h0 h : sm_H} {m : Nat} {g : Nat → Int32} {ar : Nat → Nat → Int32} {Q : Nat → Option Value → sm_H → Prop} (M : MS h0 h m g ar) {len p : Nat} (hn : g 2 = nI len) (hl : len ≤ 3000) (hp : g 23 = nI p) (hpl : p < len) {E : List Pl × List (Nat × Nat × Bool) × List (Nat × Nat)} (hE : RM g ar E) (h5 : E.1.length ≤ 500) (h82 : ¬ tk (ar 1) len p = nI 82) (h66 : ¬ tk (ar 1) len p = nI 66) (h80 : ¬ tk (ar 1) len p = nI 80) (h68 : ¬ tk (ar 1) len p = nI 68) (h83 : ¬ tk (ar 1) len p = nI 83) (h67 : ¬ tk (ar 1) len p = nI 67) (h69 : ¬ tk (ar 1) len p = nI 69) (h87 : ¬ tk (ar 1) len p = nI 87) (h65 : ¬ tk (ar 1) len p = nI 65) (K1 : ∀ h' g' ar' r q, MS h0 h' m g' ar' → eqx gSc g g' → arF ar ar' → lineM (ar 1) len E.1 p = .ok (r, q) → g' 23 = nI q → RM g' ar' (addL E r) → Q 0 (some (.int (nI 1))) h') (K0 : ∀ h' g' ar' q, MS h0 h' m g' ar' → eqx gSc g g' → arF ar ar' → lineM (ar 1) len E.1 p = .error q → g' 24 = nI q → Q 0 (some (.int (nI 0))) h') : sm_wp 85 0 [.ref m, jk, jk] [] h Q := by
  refine wp_pure k_85 rfl rfl ?_
  refine wm_iv k_85 rfl rfl M [] rfl (r := []) (Nat.le_of_ble_eq_true rfl) (Nat.le_of_ble_eq_true rfl) rfl ?_
  refine m_next M hn hl hp (by omega) ⟨rfl, ?_⟩
  refine wp_pure k_85 rfl rfl ?_
  refine wp_pure k_85 rfl rfl ?_
  refine wp_is k_85 rfl (by decide) [.int (tk (ar 1) len p)] rfl (r := []) (Nat.le_of_ble_eq_true rfl) (Nat.le_of_ble_eq_true rfl) rfl ?_
  refine wp_pure k_87 rfl rfl ?_
  refine wp_kn k_87 rfl rfl ?_
  refine wp_br k_87 rfl rfl rfl rfl (fun _ => ?_) (fun z => absurd (h82) z)
  refine wp_pure k_87 rfl rfl ?_
  refine wp_kn k_87 rfl rfl ?_
  refine wp_br k_87 rfl rfl rfl rfl (fun _ => ?_) (fun z => absurd (h66) z)
  refine wp_pure k_87 rfl rfl ?_
  refine wp_kn k_87 rfl rfl ?_
  refine wp_br k_87 rfl rfl rfl rfl (fun _ => ?_) (fun z => absurd (h80) z)
  refine wp_pure k_87 rfl rfl ?_
  refine wp_kn k_87 rfl rfl ?_
  refine wp_br k_87 rfl rfl rfl rfl (fun _ => ?_) (fun z => absurd (h68) z)
  refine wp_pure k_87 rfl rfl ?_
  refine wp_kn k_87 rfl rfl ?_
  refine wp_br k_87 rfl rfl rfl rfl (fun _ => ?_) (fun z => absurd (h83) z)
  refine wp_pure k_87 rfl rfl ?_
  refine wp_kn k_87 rfl rfl ?_
  refine wp_br k_87 rfl rfl rfl rfl (fun _ => ?_) (fun z => absurd (h67) z)
  refine wp_pure k_87 rfl rfl ?_
  refine wp_kn k_87 rfl rfl ?_
  refine wp_br k_87 rfl rfl rfl rfl (fun _ => ?_) (fun z => absurd (h69) z)
  refine wp_km k_87 rfl rfl ?_
  refine wp_irt k_87 rfl rfl rfl ⟨rfl, ?_⟩
  refine wp_pure k_85 rfl rfl ?_
  refine wp_pure k_85 rfl rfl ?_
  refine wp_km k_85 rfl rfl ?_
  refine wp_br k_85 rfl rfl rfl rfl (fun z => absurd rfl z) (fun _ => ?_)
  refine wp_pure k_85 rfl rfl ?_
  refine wp_kn k_85 rfl rfl ?_
  refine wp_br k_85 rfl rfl rfl rfl (fun z => absurd z (h87)) (fun _ => ?_)
  refine wp_pure k_85 rfl rfl ?_
  refine wp_kn k_85 rfl rfl ?_
  refine wp_br k_85 rfl rfl rfl rfl (fun z => absurd z (h65)) (fun _ => ?_)
  refine wp_pure k_85 rfl rfl ?_
  refine wp_pure k_85 rfl rfl ?_
  refine wm_gi 23 M k_85 rfl rfl rfl rfl hp ?_
  refine wm_iv k_85 rfl rfl M [.int (nI p)] rfl (r := []) (Nat.le_of_ble_eq_true rfl) (Nat.le_of_ble_eq_true rfl) rfl ?_
  refine m_wrong M (fun h1 M1 => ⟨rfl, ?_⟩)
  exact wp_irt k_85 rfl rfl rfl (K0 _ _ _ _ M1 ((eqx.refl _ _).u (by decide)) (fun _ _ _ => rfl) (by unfold lineM; rw [if_neg h82, if_neg h66, if_neg h80, if_neg h68, if_neg h83, if_neg h67, if_neg h69, if_neg h87, if_neg h65]) uF_at)
theorem m_line {h0 h : sm_H} {m : Nat} {g : Nat → Int32} {ar : Nat → Nat → Int32} {Q : Nat → Option Value → sm_H → Prop} (M : MS h0 h m g ar) {len p : Nat} (hn : g 2 = nI len) (hl : len ≤ 3000) (hp : g 23 = nI p) (hpl : p < len) {E : List Pl × List (Nat × Nat × Bool) × List (Nat × Nat)} (hE : RM g ar E) (h5 : E.1.length ≤ 500) (hw3 : E.2.1.length + E.2.2.length ≤ 3000) (K1 : ∀ h' g' ar' r q, MS h0 h' m g' ar' → eqx gSc g g' → arF ar ar' → lineM (ar 1) len E.1 p = .ok (r, q) → g' 23 = nI q → RM g' ar' (addL E r) → Q 0 (some (.int (nI 1))) h') (K0 : ∀ h' g' ar' q, MS h0 h' m g' ar' → eqx gSc g g' → arF ar ar' → lineM (ar 1) len E.1 p = .error q → g' 24 = nI q → Q 0 (some (.int (nI 0))) h') : sm_wp 85 0 [.ref m, jk, jk] [] h Q := by
  by_cases h82 : tk (ar 1) len p = nI 82
  · exact m_line_R M hn hl hp hpl hE h5 h82 K1 K0
  by_cases h66 : tk (ar 1) len p = nI 66
  · exact m_line_B M hn hl hp hpl hE h5 h66 K1 K0
  by_cases h80 : tk (ar 1) len p = nI 80
  · exact m_line_P M hn hl hp hpl hE h5 h80 K1 K0
  by_cases h68 : tk (ar 1) len p = nI 68
  · exact m_line_D M hn hl hp hpl hE h5 h68 K1 K0
  by_cases h83 : tk (ar 1) len p = nI 83
  · exact m_line_S M hn hl hp hpl hE h5 h83 K1 K0
  by_cases h67 : tk (ar 1) len p = nI 67
  · exact m_line_C M hn hl hp hpl hE h5 h67 K1 K0
  by_cases h69 : tk (ar 1) len p = nI 69
  · exact m_line_E M hn hl hp hpl hE h5 h69 K1 K0
  by_cases h87 : tk (ar 1) len p = nI 87
  · exact m_line_W M hn hl hp hpl hE h5 hw3 h87 K1 K0
  by_cases h65 : tk (ar 1) len p = nI 65
  · exact m_line_A M hn hl hp hpl hE h5 hw3 h65 K1 K0
  exact m_line_N M hn hl hp hpl hE h5 h82 h66 h80 h68 h83 h67 h69 h87 h65 K1 K0
