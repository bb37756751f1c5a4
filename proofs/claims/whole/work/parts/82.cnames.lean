/-- a place by its index, or null -/
def uV (pa : Nat → Nat) (v : Int32) : Value := if v = -1 then .null else .ref (pa v.toNatClampNeg)
theorem uV_n {pa : Nat → Nat} : uV pa (-1) = .null := if_pos rfl
theorem uV_y {pa : Nat → Nat} {k : Nat} (hk : k < 2 ^ 31) : uV pa (nI k) = .ref (pa k) := by
  unfold uV
  rw [if_neg (nI_nm1 hk), nI_clamp hk]
theorem uV_nar {pa : Nat → Nat} {v : Int32} : narrow (xty 6 7) (uV pa v) = uV pa v := by
  unfold uV
  split <;> rfl
theorem uV_fit {pa : Nat → Nat} {v : Int32} : fits (xty 6 7) (uV pa v) = true := by
  unfold uV
  split <;> rfl
theorem uV_fV {pa : Nat → Nat} {o : Option Nat} (h : ∀ k, o = some k → k < 2 ^ 31) : uV pa (fIv o) = fV pa o := by
  cases o with
  | none => exact uV_n
  | some k => exact uV_y (h k rfl)
theorem usC_v {tx : Nat → Int32} {len : Nat} {nm kd : Nat → Int32} {n : Nat} {c bar : Int32} {s : Nat × Int32} : (usC tx len nm kd n c bar s).1 = -1 ∨ ∃ k, k < n ∧ (usC tx len nm kd n c bar s).1 = nI k := by
  unfold usC
  dsimp only
  cases hf : fI nm n (naC tx len (skC tx len (nI 32) s)).1 with
  | none => exact Or.inl rfl
  | some k => exact Or.inr ⟨k, (fI_spec hf).1, rfl⟩
theorem RDW.ed {h h1 : sm_H} {r ed len : Nat} {s : Nat × Int32} (w : RDW h h1 r len s) {D : Nat → Prop} {lp ep : Nat} {pa : Nat → Nat} {bt : Nat → Nat → Nat} {E : Ed} {un : Nat → Int32} (X : EdF h ed lp ep pa bt E un) (O : EdO h D ed lp ep pa E) (hD : ∀ a, D a → a ≠ r) (hzr : hZ h ≠ r) : EdF h1 ed lp ep pa bt E un :=
  (EdFO.same X O (fun b hb => w.2.2.2.1 b (hD b hb)) (w.2.2.2.1 _ hzr) w.2.2.1 (by rw [w.1]; exact Nat.le_refl _)).1
theorem c_newN {h h1 : sm_H} {Q : Nat → Option Value → sm_H → Prop} {r sg sp ed len : Nat} {tx : Nat → Int32} (B : RB h r sg sp ed len tx) {s : Nat × Int32} (w : RDW h h1 r len s) {D : Nat → Prop} {lp ep : Nat} {pa : Nat → Nat} {bt : Nat → Nat → Nat} {E : Ed} {un : Nat → Int32} (X : EdF h ed lp ep pa bt E un) (O : EdO h D ed lp ep pa E) (hD : ∀ a, D a → a ≠ r) (hzr : hZ h ≠ r) (K : ∀ h2, RDW h h2 r len (nwC tx len (atP E.1 0) E.1.length s).2 → Q 0 (some (.int (nwC tx len (atP E.1 0) E.1.length s).1)) h2) : sm_wp 62 0 [.ref r, jk, jk] [] h1 Q := by
  have hB := B.2.2.2.2.2.2.2.2.2.2
  have hs9 := w.2.2.2.2.2.2.2.2
  have sgr : sg ≠ r := kne B.2.2.2.2.2.1 B.1 (by decide)
  have hK : ∀ h2, RDW h h2 r len ((naC tx len (skC tx len (nI 32) s)).2.1, if fI (atP E.1 0) E.1.length (naC tx len (skC tx len (nI 32) s)).1 = none then (naC tx len (skC tx len (nI 32) s)).2.2 else rfC (naC tx len (skC tx len (nI 32) s)).2.2 (skC tx len (nI 32) s).1) → Q 0 (some (.int (naC tx len (skC tx len (nI 32) s)).1)) h2 := fun h2 w2 => K h2 w2
  clear K
  generalize hs1 : skC tx len (nI 32) s = s1 at *
  generalize hn1 : naC tx len s1 = n1 at *
  cases hf : fI (atP E.1 0) E.1.length n1.1 with
  | none =>
    rw [if_pos hf] at hK
    refine wp_pure k_62 rfl rfl ?_
    refine wp_kn k_62 rfl rfl ?_
    refine wp_iv k_62 rfl [.int (nI 32)] rfl w.2.2.2.2.1 (r := []) (Nat.le_of_ble_eq_true rfl) (Nat.le_of_ble_eq_true rfl) rfl ?_
    refine c_skip B w (by decide) (fun h6 w6 => ⟨rfl, ?_⟩)
    rw [hs1] at w6
    refine wp_pure k_62 rfl rfl ?_
    refine wp_get k_62 rfl w6.2.2.2.2.1 w6.2.2.2.2.2.2.1 ?_
    refine wp_pure k_62 rfl rfl ?_
    refine wp_pure k_62 rfl rfl ?_
    refine wp_iv k_62 rfl [] rfl w6.2.2.2.2.1 (r := []) (Nat.le_of_ble_eq_true rfl) (Nat.le_of_ble_eq_true rfl) rfl ?_
    refine c_name B w6 (fun h7 w7 => ⟨rfl, ?_⟩)
    rw [hn1] at w7 ⊢
    have X7 := w7.ed X O hD hzr
    obtain ⟨⟨e0, e1, e2, e3⟩, l1, hP, hBt⟩ := id X7
    have n60 := l1.2.2.2.2.1
    refine wp_pure k_62 rfl rfl ?_
    refine wp_pure k_62 rfl rfl ?_
    refine wp_get k_62 rfl w7.2.2.2.2.1 ((w7.2.2.2.2.2.1 1026 (by decide) (by decide)).trans B.2.2.2.1) ?_
    refine wp_pure k_62 rfl rfl ?_
    refine wp_iv k_62 rfl [.int (n1.1)] rfl e0 (r := []) (Nat.le_of_ble_eq_true rfl) (Nat.le_of_ble_eq_true rfl) rfl ?_
    refine c_find X7 ?_
    rw [hf]
    refine ⟨rfl, ?_⟩
    refine wp_br k_62 rfl rfl rfl rfl (fun _ => ?_) (fun z => absurd trivial z)
    refine wp_pure k_62 rfl rfl ?_
    exact wp_irt k_62 rfl rfl rfl (hK h7 w7)
  | some k =>
    rw [if_neg (by rw [hf]; exact fun z => by cases z)] at hK
    have hk := (fI_spec hf).1
    refine wp_pure k_62 rfl rfl ?_
    refine wp_kn k_62 rfl rfl ?_
    refine wp_iv k_62 rfl [.int (nI 32)] rfl w.2.2.2.2.1 (r := []) (Nat.le_of_ble_eq_true rfl) (Nat.le_of_ble_eq_true rfl) rfl ?_
    refine c_skip B w (by decide) (fun h6 w6 => ⟨rfl, ?_⟩)
    rw [hs1] at w6
    refine wp_pure k_62 rfl rfl ?_
    refine wp_get k_62 rfl w6.2.2.2.2.1 w6.2.2.2.2.2.2.1 ?_
    refine wp_pure k_62 rfl rfl ?_
    refine wp_pure k_62 rfl rfl ?_
    refine wp_iv k_62 rfl [] rfl w6.2.2.2.2.1 (r := []) (Nat.le_of_ble_eq_true rfl) (Nat.le_of_ble_eq_true rfl) rfl ?_
    refine c_name B w6 (fun h7 w7 => ⟨rfl, ?_⟩)
    rw [hn1] at w7 ⊢
    have X7 := w7.ed X O hD hzr
    obtain ⟨⟨e0, e1, e2, e3⟩, l1, hP, hBt⟩ := id X7
    have n60 := l1.2.2.2.2.1
    refine wp_pure k_62 rfl rfl ?_
    refine wp_pure k_62 rfl rfl ?_
    refine wp_get k_62 rfl w7.2.2.2.2.1 ((w7.2.2.2.2.2.1 1026 (by decide) (by decide)).trans B.2.2.2.1) ?_
    refine wp_pure k_62 rfl rfl ?_
    refine wp_iv k_62 rfl [.int (n1.1)] rfl e0 (r := []) (Nat.le_of_ble_eq_true rfl) (Nat.le_of_ble_eq_true rfl) rfl ?_
    refine c_find X7 ?_
    rw [hf]
    refine ⟨rfl, ?_⟩
    refine wp_br k_62 rfl rfl rfl rfl (fun _ => ?_) (fun z => absurd trivial z)
    refine wp_pure k_62 rfl rfl ?_
    refine wp_pure k_62 rfl rfl ?_
    refine wp_iv k_62 rfl [.int (nI (s1.1))] rfl w7.2.2.2.2.1 (r := []) (Nat.le_of_ble_eq_true rfl) (Nat.le_of_ble_eq_true rfl) rfl ?_
    refine c_refuse B w7 (fun h8 w8 => ⟨rfl, ?_⟩)
    refine wp_pure k_62 rfl rfl ?_
    exact wp_irt k_62 rfl rfl rfl (hK h8 w8)
theorem c_used {h h1 : sm_H} {Q : Nat → Option Value → sm_H → Prop} {r sg sp ed len : Nat} {tx : Nat → Int32} (B : RB h r sg sp ed len tx) {s : Nat × Int32} (w : RDW h h1 r len s) {D : Nat → Prop} {lp ep : Nat} {pa : Nat → Nat} {bt : Nat → Nat → Nat} {E : Ed} {un : Nat → Int32} (X : EdF h ed lp ep pa bt E un) (O : EdO h D ed lp ep pa E) (hD : ∀ a, D a → a ≠ r) (hzr : hZ h ≠ r) {c bar : Int32} (hbar : bar = -1 ∨ ∃ b, b < E.1.length ∧ bar = nI b) (K : ∀ h2, RDW h h2 r len (usC tx len (atP E.1 0) (atP E.1 1) E.1.length c bar s).2 → Q 0 (some (uV pa (usC tx len (atP E.1 0) (atP E.1 1) E.1.length c bar s).1)) h2) : sm_wp 73 0 [.ref r, .int c, uV pa bar, jk, jk] [] h1 Q := by
  have hB := B.2.2.2.2.2.2.2.2.2.2
  have hs9 := w.2.2.2.2.2.2.2.2
  have sgr : sg ≠ r := kne B.2.2.2.2.2.1 B.1 (by decide)
  have hK : ∀ h2, RDW h h2 r len ((naC tx len (skC tx len (nI 32) s)).2.1, @ite _ (rjC (atP E.1 1) (fI (atP E.1 0) E.1.length (naC tx len (skC tx len (nI 32) s)).1) c bar) (Classical.propDecidable _) (rfC (naC tx len (skC tx len (nI 32) s)).2.2 (skC tx len (nI 32) s).1) (naC tx len (skC tx len (nI 32) s)).2.2) → Q 0 (some (uV pa (fIv (fI (atP E.1 0) E.1.length (naC tx len (skC tx len (nI 32) s)).1)))) h2 := fun h2 w2 => K h2 w2
  clear K
  have nlen := X.2.1.2.2.2.2.1
  generalize hs1 : skC tx len (nI 32) s = s1 at *
  generalize hn1 : naC tx len s1 = n1 at *
  rcases hbar with hb | ⟨b, hb1, hb⟩
  · subst hb
    rw [uV_n]
    cases hf : fI (atP E.1 0) E.1.length n1.1 with
    | none =>
      rw [hf, if_pos (show rjC (atP E.1 1) none c (-1) from trivial), uV_fV (fun k z => by cases z)] at hK
      refine wp_pure k_73 rfl rfl ?_
      refine wp_kn k_73 rfl rfl ?_
      refine wp_iv k_73 rfl [.int (nI 32)] rfl w.2.2.2.2.1 (r := []) (Nat.le_of_ble_eq_true rfl) (Nat.le_of_ble_eq_true rfl) rfl ?_
      refine c_skip B w (by decide) (fun h6 w6 => ⟨rfl, ?_⟩)
      rw [hs1] at w6
      refine wp_pure k_73 rfl rfl ?_
      refine wp_get k_73 rfl w6.2.2.2.2.1 w6.2.2.2.2.2.2.1 ?_
      refine wp_pure k_73 rfl rfl ?_
      refine wp_pure k_73 rfl rfl ?_
      refine wp_get k_73 rfl w6.2.2.2.2.1 ((w6.2.2.2.2.2.1 1026 (by decide) (by decide)).trans B.2.2.2.1) ?_
      refine wp_pure k_73 rfl rfl ?_
      refine wp_iv k_73 rfl [] rfl w6.2.2.2.2.1 (r := [.ref ed]) (Nat.le_of_ble_eq_true rfl) (Nat.le_of_ble_eq_true rfl) rfl ?_
      refine c_name B w6 (fun h7 w7 => ⟨rfl, ?_⟩)
      rw [hn1] at w7 ⊢
      have X7 := w7.ed X O hD hzr
      obtain ⟨⟨e0, e1, e2, e3⟩, l1, hP, hBt⟩ := id X7
      have n60 := l1.2.2.2.2.1
      refine wp_iv k_73 rfl [.int (n1.1)] rfl e0 (r := []) (Nat.le_of_ble_eq_true rfl) (Nat.le_of_ble_eq_true rfl) rfl ?_
      refine c_find X7 ?_
      rw [hf]
      refine ⟨rfl, ?_⟩
      refine wp_pure k_73 rfl rfl ?_
      refine wp_pure k_73 rfl rfl ?_
      refine wp_br k_73 rfl rfl rfl rfl (fun _ => ?_) (fun z => absurd trivial z)
      refine wp_pure k_73 rfl rfl ?_
      refine wp_pure k_73 rfl rfl ?_
      refine wp_iv k_73 rfl [.int (nI (s1.1))] rfl w7.2.2.2.2.1 (r := []) (Nat.le_of_ble_eq_true rfl) (Nat.le_of_ble_eq_true rfl) rfl ?_
      refine c_refuse B w7 (fun h8 w8 => ⟨rfl, ?_⟩)
      refine wp_pure k_73 rfl rfl ?_
      exact wp_rt k_73 rfl rfl rfl rfl rfl rfl rfl (hK h8 w8)
    | some k =>
      rw [hf] at hK
      have hk := (fI_spec hf).1
      rw [uV_fV (fun k9 z => by cases z; omega)] at hK
      refine wp_pure k_73 rfl rfl ?_
      refine wp_kn k_73 rfl rfl ?_
      refine wp_iv k_73 rfl [.int (nI 32)] rfl w.2.2.2.2.1 (r := []) (Nat.le_of_ble_eq_true rfl) (Nat.le_of_ble_eq_true rfl) rfl ?_
      refine c_skip B w (by decide) (fun h6 w6 => ⟨rfl, ?_⟩)
      rw [hs1] at w6
      refine wp_pure k_73 rfl rfl ?_
      refine wp_get k_73 rfl w6.2.2.2.2.1 w6.2.2.2.2.2.2.1 ?_
      refine wp_pure k_73 rfl rfl ?_
      refine wp_pure k_73 rfl rfl ?_
      refine wp_get k_73 rfl w6.2.2.2.2.1 ((w6.2.2.2.2.2.1 1026 (by decide) (by decide)).trans B.2.2.2.1) ?_
      refine wp_pure k_73 rfl rfl ?_
      refine wp_iv k_73 rfl [] rfl w6.2.2.2.2.1 (r := [.ref ed]) (Nat.le_of_ble_eq_true rfl) (Nat.le_of_ble_eq_true rfl) rfl ?_
      refine c_name B w6 (fun h7 w7 => ⟨rfl, ?_⟩)
      rw [hn1] at w7 ⊢
      have X7 := w7.ed X O hD hzr
      obtain ⟨⟨e0, e1, e2, e3⟩, l1, hP, hBt⟩ := id X7
      have n60 := l1.2.2.2.2.1
      refine wp_iv k_73 rfl [.int (n1.1)] rfl e0 (r := []) (Nat.le_of_ble_eq_true rfl) (Nat.le_of_ble_eq_true rfl) rfl ?_
      refine c_find X7 ?_
      rw [hf]
      refine ⟨rfl, ?_⟩
      refine wp_pure k_73 rfl rfl ?_
      refine wp_pure k_73 rfl rfl ?_
      refine wp_br k_73 rfl rfl rfl rfl (fun _ => ?_) (fun z => absurd trivial z)
      refine wp_pure k_73 rfl rfl ?_
      refine wp_pure k_73 rfl rfl ?_
      refine wp_br k_73 rfl rfl rfl rfl (fun _ => ?_) (fun z => absurd trivial z)
      refine wp_pure k_73 rfl rfl ?_
      refine wp_get k_73 rfl (hP k (by omega)).1 ((hP k (by omega)).2.1 1 (by decide)) ?_
      refine wp_pure k_73 rfl rfl ?_
      refine wp_br k_73 rfl rfl rfl rfl (fun (z41 : atP E.1 1 k = c) => ?_) (fun (z41 : ¬ (atP E.1 1 k = c)) => ?_)
      · refine wp_pure k_73 rfl rfl ?_
        rw [if_neg (show ¬ rjC (atP E.1 1) (some k) c (-1) from fun z => z.elim (nI_nm1 (by omega)) (fun z => z z41))] at hK
        exact wp_rt k_73 rfl rfl rfl rfl rfl rfl rfl (hK h7 w7)
      · refine wp_pure k_73 rfl rfl ?_
        refine wp_pure k_73 rfl rfl ?_
        refine wp_iv k_73 rfl [.int (nI (s1.1))] rfl w7.2.2.2.2.1 (r := []) (Nat.le_of_ble_eq_true rfl) (Nat.le_of_ble_eq_true rfl) rfl ?_
        refine c_refuse B w7 (fun h8 w8 => ⟨rfl, ?_⟩)
        refine wp_pure k_73 rfl rfl ?_
        rw [if_pos (show rjC (atP E.1 1) (some k) c (-1) from Or.inr z41)] at hK
        exact wp_rt k_73 rfl rfl rfl rfl rfl rfl rfl (hK h8 w8)
  · subst hb
    rw [uV_y (by omega)]
    cases hf : fI (atP E.1 0) E.1.length n1.1 with
    | none =>
      rw [hf, if_pos (show rjC (atP E.1 1) none c (nI b) from trivial), uV_fV (fun k z => by cases z)] at hK
      refine wp_pure k_73 rfl rfl ?_
      refine wp_kn k_73 rfl rfl ?_
      refine wp_iv k_73 rfl [.int (nI 32)] rfl w.2.2.2.2.1 (r := []) (Nat.le_of_ble_eq_true rfl) (Nat.le_of_ble_eq_true rfl) rfl ?_
      refine c_skip B w (by decide) (fun h6 w6 => ⟨rfl, ?_⟩)
      rw [hs1] at w6
      refine wp_pure k_73 rfl rfl ?_
      refine wp_get k_73 rfl w6.2.2.2.2.1 w6.2.2.2.2.2.2.1 ?_
      refine wp_pure k_73 rfl rfl ?_
      refine wp_pure k_73 rfl rfl ?_
      refine wp_get k_73 rfl w6.2.2.2.2.1 ((w6.2.2.2.2.2.1 1026 (by decide) (by decide)).trans B.2.2.2.1) ?_
      refine wp_pure k_73 rfl rfl ?_
      refine wp_iv k_73 rfl [] rfl w6.2.2.2.2.1 (r := [.ref ed]) (Nat.le_of_ble_eq_true rfl) (Nat.le_of_ble_eq_true rfl) rfl ?_
      refine c_name B w6 (fun h7 w7 => ⟨rfl, ?_⟩)
      rw [hn1] at w7 ⊢
      have X7 := w7.ed X O hD hzr
      obtain ⟨⟨e0, e1, e2, e3⟩, l1, hP, hBt⟩ := id X7
      have n60 := l1.2.2.2.2.1
      refine wp_iv k_73 rfl [.int (n1.1)] rfl e0 (r := []) (Nat.le_of_ble_eq_true rfl) (Nat.le_of_ble_eq_true rfl) rfl ?_
      refine c_find X7 ?_
      rw [hf]
      refine ⟨rfl, ?_⟩
      refine wp_pure k_73 rfl rfl ?_
      refine wp_pure k_73 rfl rfl ?_
      refine wp_br k_73 rfl rfl rfl rfl (fun _ => ?_) (fun z => absurd trivial z)
      refine wp_pure k_73 rfl rfl ?_
      refine wp_pure k_73 rfl rfl ?_
      refine wp_iv k_73 rfl [.int (nI (s1.1))] rfl w7.2.2.2.2.1 (r := []) (Nat.le_of_ble_eq_true rfl) (Nat.le_of_ble_eq_true rfl) rfl ?_
      refine c_refuse B w7 (fun h8 w8 => ⟨rfl, ?_⟩)
      refine wp_pure k_73 rfl rfl ?_
      exact wp_rt k_73 rfl rfl rfl rfl rfl rfl rfl (hK h8 w8)
    | some k =>
      rw [hf] at hK
      have hk := (fI_spec hf).1
      rw [uV_fV (fun k9 z => by cases z; omega)] at hK
      by_cases q : k = b
      · skip
        refine wp_pure k_73 rfl rfl ?_
        refine wp_kn k_73 rfl rfl ?_
        refine wp_iv k_73 rfl [.int (nI 32)] rfl w.2.2.2.2.1 (r := []) (Nat.le_of_ble_eq_true rfl) (Nat.le_of_ble_eq_true rfl) rfl ?_
        refine c_skip B w (by decide) (fun h6 w6 => ⟨rfl, ?_⟩)
        rw [hs1] at w6
        refine wp_pure k_73 rfl rfl ?_
        refine wp_get k_73 rfl w6.2.2.2.2.1 w6.2.2.2.2.2.2.1 ?_
        refine wp_pure k_73 rfl rfl ?_
        refine wp_pure k_73 rfl rfl ?_
        refine wp_get k_73 rfl w6.2.2.2.2.1 ((w6.2.2.2.2.2.1 1026 (by decide) (by decide)).trans B.2.2.2.1) ?_
        refine wp_pure k_73 rfl rfl ?_
        refine wp_iv k_73 rfl [] rfl w6.2.2.2.2.1 (r := [.ref ed]) (Nat.le_of_ble_eq_true rfl) (Nat.le_of_ble_eq_true rfl) rfl ?_
        refine c_name B w6 (fun h7 w7 => ⟨rfl, ?_⟩)
        rw [hn1] at w7 ⊢
        have X7 := w7.ed X O hD hzr
        obtain ⟨⟨e0, e1, e2, e3⟩, l1, hP, hBt⟩ := id X7
        have n60 := l1.2.2.2.2.1
        refine wp_iv k_73 rfl [.int (n1.1)] rfl e0 (r := []) (Nat.le_of_ble_eq_true rfl) (Nat.le_of_ble_eq_true rfl) rfl ?_
        refine c_find X7 ?_
        rw [hf]
        refine ⟨rfl, ?_⟩
        refine wp_pure k_73 rfl rfl ?_
        refine wp_pure k_73 rfl rfl ?_
        refine wp_br k_73 rfl rfl rfl rfl (fun _ => ?_) (fun z => absurd trivial z)
        refine wp_pure k_73 rfl rfl ?_
        refine wp_pure k_73 rfl rfl ?_
        refine wp_br k_73 rfl rfl rfl rfl (fun _ => ?_) (fun z => absurd (congrArg pa q) z)
        refine wp_pure k_73 rfl rfl ?_
        refine wp_pure k_73 rfl rfl ?_
        refine wp_iv k_73 rfl [.int (nI (s1.1))] rfl w7.2.2.2.2.1 (r := []) (Nat.le_of_ble_eq_true rfl) (Nat.le_of_ble_eq_true rfl) rfl ?_
        refine c_refuse B w7 (fun h8 w8 => ⟨rfl, ?_⟩)
        refine wp_pure k_73 rfl rfl ?_
        rw [if_pos (show rjC (atP E.1 1) (some k) c (nI b) from Or.inl (congrArg nI q))] at hK
        exact wp_rt k_73 rfl rfl rfl rfl rfl rfl rfl (hK h8 w8)
      · skip
        refine wp_pure k_73 rfl rfl ?_
        refine wp_kn k_73 rfl rfl ?_
        refine wp_iv k_73 rfl [.int (nI 32)] rfl w.2.2.2.2.1 (r := []) (Nat.le_of_ble_eq_true rfl) (Nat.le_of_ble_eq_true rfl) rfl ?_
        refine c_skip B w (by decide) (fun h6 w6 => ⟨rfl, ?_⟩)
        rw [hs1] at w6
        refine wp_pure k_73 rfl rfl ?_
        refine wp_get k_73 rfl w6.2.2.2.2.1 w6.2.2.2.2.2.2.1 ?_
        refine wp_pure k_73 rfl rfl ?_
        refine wp_pure k_73 rfl rfl ?_
        refine wp_get k_73 rfl w6.2.2.2.2.1 ((w6.2.2.2.2.2.1 1026 (by decide) (by decide)).trans B.2.2.2.1) ?_
        refine wp_pure k_73 rfl rfl ?_
        refine wp_iv k_73 rfl [] rfl w6.2.2.2.2.1 (r := [.ref ed]) (Nat.le_of_ble_eq_true rfl) (Nat.le_of_ble_eq_true rfl) rfl ?_
        refine c_name B w6 (fun h7 w7 => ⟨rfl, ?_⟩)
        rw [hn1] at w7 ⊢
        have X7 := w7.ed X O hD hzr
        obtain ⟨⟨e0, e1, e2, e3⟩, l1, hP, hBt⟩ := id X7
        have n60 := l1.2.2.2.2.1
        refine wp_iv k_73 rfl [.int (n1.1)] rfl e0 (r := []) (Nat.le_of_ble_eq_true rfl) (Nat.le_of_ble_eq_true rfl) rfl ?_
        refine c_find X7 ?_
        rw [hf]
        refine ⟨rfl, ?_⟩
        refine wp_pure k_73 rfl rfl ?_
        refine wp_pure k_73 rfl rfl ?_
        refine wp_br k_73 rfl rfl rfl rfl (fun _ => ?_) (fun z => absurd trivial z)
        refine wp_pure k_73 rfl rfl ?_
        refine wp_pure k_73 rfl rfl ?_
        refine wp_br k_73 rfl rfl rfl rfl (fun z => absurd z (fun z => q (O.2.2.2 k b hk hb1 z))) (fun _ => ?_)
        refine wp_pure k_73 rfl rfl ?_
        refine wp_get k_73 rfl (hP k (by omega)).1 ((hP k (by omega)).2.1 1 (by decide)) ?_
        refine wp_pure k_73 rfl rfl ?_
        refine wp_br k_73 rfl rfl rfl rfl (fun (z41 : atP E.1 1 k = c) => ?_) (fun (z41 : ¬ (atP E.1 1 k = c)) => ?_)
        · refine wp_pure k_73 rfl rfl ?_
          rw [if_neg (show ¬ rjC (atP E.1 1) (some k) c (nI b) from fun z => z.elim (fun z => q ((nI_eq (by omega) (by omega)).mp z)) (fun z => z z41))] at hK
          exact wp_rt k_73 rfl rfl rfl rfl rfl rfl rfl (hK h7 w7)
        · refine wp_pure k_73 rfl rfl ?_
          refine wp_pure k_73 rfl rfl ?_
          refine wp_iv k_73 rfl [.int (nI (s1.1))] rfl w7.2.2.2.2.1 (r := []) (Nat.le_of_ble_eq_true rfl) (Nat.le_of_ble_eq_true rfl) rfl ?_
          refine c_refuse B w7 (fun h8 w8 => ⟨rfl, ?_⟩)
          refine wp_pure k_73 rfl rfl ?_
          rw [if_pos (show rjC (atP E.1 1) (some k) c (nI b) from Or.inr z41)] at hK
          exact wp_rt k_73 rfl rfl rfl rfl rfl rfl rfl (hK h8 w8)
