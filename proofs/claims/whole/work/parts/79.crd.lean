/-! HOW THE CLASS READS, as functions of (next, refused) -/
def rfC (q : Int32) (s : Nat) : Int32 := if q = -1 then nI s else q
noncomputable def skC (tx : Nat → Int32) (len : Nat) (c : Int32) (s : Nat × Int32) : Nat × Int32 := if tk tx len s.1 = c then (s.1 + 1, s.2) else (s.1, rfC s.2 s.1)
noncomputable def nuC (tx : Nat → Int32) (len : Nat) (lo hi : Int32) (s : Nat × Int32) : Nat × Nat × Int32 :=
  ((ncL tx len (skC tx len (nI 32) s).1 len (skC tx len (nI 32) s).1 0).1, (ncL tx len (skC tx len (nI 32) s).1 len (skC tx len (nI 32) s).1 0).2,
   @ite _ (nI (ncL tx len (skC tx len (nI 32) s).1 len (skC tx len (nI 32) s).1 0).1 < lo ∨ hi < nI (ncL tx len (skC tx len (nI 32) s).1 len (skC tx len (nI 32) s).1 0).1) (Classical.propDecidable _) (rfC (@ite _ (isDg (tk tx len (skC tx len (nI 32) s).1)) (Classical.propDecidable _) (skC tx len (nI 32) s).2 (rfC (skC tx len (nI 32) s).2 (skC tx len (nI 32) s).1)) (skC tx len (nI 32) s).1) (@ite _ (isDg (tk tx len (skC tx len (nI 32) s).1)) (Classical.propDecidable _) (skC tx len (nI 32) s).2 (rfC (skC tx len (nI 32) s).2 (skC tx len (nI 32) s).1)))
noncomputable def naC (tx : Nat → Int32) (len : Nat) (s : Nat × Int32) : Int32 × Nat × Int32 := ((nxL tx len 4 s.1 (nI 0)).1, (nxL tx len 4 s.1 (nI 0)).2, @ite _ (isLt (tk tx len s.1)) (Classical.propDecidable _) s.2 (rfC s.2 s.1))
noncomputable def nwC (tx : Nat → Int32) (len : Nat) (nm : Nat → Int32) (n : Nat) (s : Nat × Int32) : Int32 × Nat × Int32 :=
  ((naC tx len (skC tx len (nI 32) s)).1, (naC tx len (skC tx len (nI 32) s)).2.1, if fI nm n (naC tx len (skC tx len (nI 32) s)).1 = none then (naC tx len (skC tx len (nI 32) s)).2.2 else rfC (naC tx len (skC tx len (nI 32) s)).2.2 (skC tx len (nI 32) s).1)
/-- a name that is refused: none has it, or the barred one, or one of another kind -/
def rjC (kd : Nat → Int32) (o : Option Nat) (c bar : Int32) : Prop := match o with
  | none => True
  | some k => nI k = bar ∨ kd k ≠ c
noncomputable def usC (tx : Nat → Int32) (len : Nat) (nm kd : Nat → Int32) (n : Nat) (c bar : Int32) (s : Nat × Int32) : Int32 × Nat × Int32 :=
  (fIv (fI nm n (naC tx len (skC tx len (nI 32) s)).1), (naC tx len (skC tx len (nI 32) s)).2.1, @ite _ (rjC kd (fI nm n (naC tx len (skC tx len (nI 32) s)).1) c bar) (Classical.propDecidable _) (rfC (naC tx len (skC tx len (nI 32) s)).2.2 (skC tx len (nI 32) s).1) (naC tx len (skC tx len (nI 32) s)).2.2)
theorem rf_m1 {s : Nat} : rfC (-1) s = nI s := if_pos rfl
theorem rf_st {q s : Nat} (hq : q < 2 ^ 31) : rfC (nI q) s = nI q := if_neg (nI_nm1 hq)
def bad (tx : Nat → Int32) (len q : Nat) (s : Nat × Int32) : Prop := s.2 = nI q ∨ (s.2 = -1 ∧ s.1 = q ∧ isDg (tk tx len q))
section RDC
variable {tx : Nat → Int32} {len : Nat}
theorem skC_ok {c : Int32} {p q : Nat} (h : skM tx len c p = .ok q) : skC tx len c (p, -1) = (q, -1) := by
  obtain ⟨rfl, e⟩ := skM_inv h
  exact if_pos e
theorem skC_er {c : Int32} {p q : Nat} (h : skM tx len c p = .error q) : skC tx len c (p, -1) = (q, nI q) := by
  unfold skM at h
  split at h
  · cases h
  · rename_i e
    cases h
    unfold skC
    rw [if_neg e]
    exact congrArg (Prod.mk _) rf_m1
theorem skC_st {c : Int32} {s : Nat × Int32} {q : Nat} (hq : q < 2 ^ 31) (h : s.2 = nI q) : (skC tx len c s).2 = nI q := by
  unfold skC
  split
  · exact h
  · show rfC s.2 s.1 = nI q
    rw [h, rf_st hq]
theorem skC_bad {c : Int32} {s : Nat × Int32} {q : Nat} (hq : q < 2 ^ 31) (hc : c = nI 32 ∨ c = nI 10) (h : bad tx len q s) : (skC tx len c s).2 = nI q := by
  rcases h with h | ⟨h1, h2, h3⟩
  · exact skC_st hq h
  · unfold skC
    rw [h2]
    have hne : ¬ tk tx len q = c := fun e => by
      rw [e] at h3
      rcases hc with rfl | rfl
      · exact absurd h3 (by unfold isDg; decide)
      · exact absurd h3 (by unfold isDg; decide)
    rw [if_neg hne]
    show rfC s.2 q = nI q
    rw [h1, rf_m1]
theorem ite_rf {c : Prop} {q a : Int32} {s : Nat} {n : Nat} (hn : n < 2 ^ 31) (h : q = nI n) : @ite _ c (Classical.propDecidable _) q (rfC q s) = nI n ∧ @ite _ c (Classical.propDecidable _) (rfC q s) q = nI n := by
  rw [h, rf_st hn]
  constructor <;> split <;> rfl
theorem nuC_st {lo hi : Int32} {s : Nat × Int32} {q : Nat} (hq : q < 2 ^ 31) (h : bad tx len q s) : (nuC tx len lo hi s).2.2 = nI q := by
  have h1 := skC_bad (c := nI 32) hq (Or.inl rfl) h
  unfold nuC
  dsimp only
  exact (ite_rf (a := 0) hq (ite_rf (a := 0) hq h1).1).2
theorem naC_st {s : Nat × Int32} {q : Nat} (hq : q < 2 ^ 31) (h : s.2 = nI q) : (naC tx len s).2.2 = nI q := (ite_rf (a := 0) hq h).1
theorem nwC_st {nm : Nat → Int32} {n : Nat} {s : Nat × Int32} {q : Nat} (hq : q < 2 ^ 31) (h : bad tx len q s) : (nwC tx len nm n s).2.2 = nI q := by
  have h1 := naC_st (tx := tx) (len := len) hq (skC_bad (c := nI 32) hq (Or.inl rfl) h)
  unfold nwC
  dsimp only
  split
  · exact h1
  · rw [h1, rf_st hq]
theorem usC_st {nm kd : Nat → Int32} {n : Nat} {c bar : Int32} {s : Nat × Int32} {q : Nat} (hq : q < 2 ^ 31) (h : bad tx len q s) : (usC tx len nm kd n c bar s).2.2 = nI q := by
  have h1 := naC_st (tx := tx) (len := len) hq (skC_bad (c := nI 32) hq (Or.inl rfl) h)
  unfold usC
  dsimp only
  exact (ite_rf (a := 0) hq h1).2
theorem skM_lt {c : Int32} {p q : Nat} (hp : p ≤ len) (h : skM tx len c p = .error q) : q ≤ len := by
  unfold skM at h
  split at h
  · cases h
  · cases h; exact hp
theorem nuC_ok {low high p v q : Nat} (hl : low ≤ 40) (hh : high ≤ 40) (h : numM tx len low high p = .ok (v, q)) : nuC tx len (nI low) (nI high) (p, -1) = (v, q, -1) := by
  cases hs : skM tx len (nI 32) p with
  | error e => unfold numM at h; rw [hs] at h; cases h
  | ok s =>
    have hk := skC_ok hs
    obtain ⟨n1, n2⟩ := numC (low := low) hh hs
    by_cases hd : isDg (tk tx len s)
    · obtain ⟨m1, m2⟩ := n2 hd
      have hv := (@ncL_le tx len s len s 0 (by omega)).2.2
      by_cases hr : (ncL tx len s len s 0).1 < low ∨ high < (ncL tx len s len s 0).1
      · rw [m1 hr] at h; cases h
      · rcases m2 hr with m | ⟨m, _⟩
        · rw [m] at h
          have e : ncL tx len s len s 0 = (v, q) := by injection h
          unfold nuC
          rw [hk]
          dsimp only
          rw [e] at hr hv ⊢
          dsimp only at hr hv ⊢
          rw [if_neg (fun z => hr (z.imp (fun z => (nI_ltI (by omega) (by omega)).mp z) (fun z => (nI_ltI (by omega) (by omega)).mp z))), if_pos hd]
        · rw [m] at h; cases h
    · rw [(n1 hd).1] at h; cases h
theorem nuC_er {low high p q : Nat} (hp : p ≤ len) (hl31 : len < 2 ^ 31) (hl : low ≤ 40) (hh : high ≤ 40) (h : numM tx len low high p = .error q) : bad tx len q (nuC tx len (nI low) (nI high) (p, -1)).2 := by
  cases hs : skM tx len (nI 32) p with
  | error e =>
    have h2 : numM tx len low high p = .error e := by unfold numM; rw [hs]
    rw [h2] at h
    cases h
    have hq := skM_lt hp hs
    have hk := skC_er hs
    left
    unfold nuC
    dsimp only
    rw [hk]
    exact (ite_rf (a := 0) (by omega) (ite_rf (a := 0) (by omega) rfl).1).2
  | ok s =>
    have hk := skC_ok hs
    obtain ⟨rfl, _⟩ := skM_inv hs
    have hsl : p + 1 ≤ len := tkc (skM_inv hs).2 (by decide)
    obtain ⟨n1, n2⟩ := numC (low := low) hh hs
    by_cases hd : isDg (tk tx len (p + 1))
    · obtain ⟨m1, m2⟩ := n2 hd
      have hv := (@ncL_le tx len (p + 1) len (p + 1) 0 (by omega)).2.2
      by_cases hr : (ncL tx len (p + 1) len (p + 1) 0).1 < low ∨ high < (ncL tx len (p + 1) len (p + 1) 0).1
      · rw [m1 hr] at h
        cases h
        left
        unfold nuC
        dsimp only
        rw [hk]
        dsimp only
        rw [if_pos (hr.imp (fun z => (nI_ltI (by omega) (by omega)).mpr z) (fun z => (nI_ltI (by omega) (by omega)).mpr z)), if_pos hd, rf_m1]
      · rcases m2 hr with m | ⟨m, m'⟩
        · rw [m] at h; cases h
        · rw [m] at h
          cases h
          right
          unfold nuC
          dsimp only
          rw [hk]
          dsimp only
          refine ⟨?_, rfl, m'⟩
          rw [if_neg (fun z => hr (z.imp (fun z => (nI_ltI (by omega) (by omega)).mp z) (fun z => (nI_ltI (by omega) (by omega)).mp z))), if_pos hd]
    · rw [(n1 hd).1] at h
      cases h
      left
      unfold nuC
      dsimp only
      rw [hk]
      dsimp only
      rw [if_neg hd, rf_m1]
      split
      · exact rf_st (by omega)
      · rfl
theorem naM_ok {p f q : Nat} {v : Int32} (h : nameM tx len p = .ok (v, f, q)) : skC tx len (nI 32) (p, -1) = (f, -1) ∧ naC tx len (f, -1) = (v, q, -1) := by
  cases hs : skM tx len (nI 32) p with
  | error e => unfold nameM at h; rw [hs] at h; cases h
  | ok s =>
    unfold nameM at h
    rw [hs] at h
    dsimp only at h
    split at h
    · rename_i hl
      cases h
      refine ⟨skC_ok hs, ?_⟩
      unfold naC
      dsimp only
      rw [if_pos hl, nxL_nmL]
    · cases h
theorem naM_er {p q : Nat} (hp : p ≤ len) (hl31 : len < 2 ^ 31) (h : nameM tx len p = .error q) : (naC tx len (skC tx len (nI 32) (p, -1))).2.2 = nI q ∧ q ≤ len := by
  cases hs : skM tx len (nI 32) p with
  | error e =>
    have h2 : nameM tx len p = .error e := by unfold nameM; rw [hs]
    rw [h2] at h
    cases h
    have hq := skM_lt hp hs
    rw [skC_er hs]
    exact ⟨naC_st (by omega) rfl, hq⟩
  | ok s =>
    have hsl : p + 1 ≤ len := tkc (skM_inv hs).2 (by decide)
    unfold nameM at h
    rw [hs] at h
    dsimp only at h
    split at h
    · cases h
    · rename_i hl
      cases h
      obtain ⟨e, _⟩ := skM_inv hs
      rw [skC_ok hs]
      refine ⟨?_, by omega⟩
      unfold naC
      dsimp only
      rw [if_neg hl, rf_m1]
theorem nwC_ok {nm : Nat → Int32} {n p q : Nat} {v : Int32} (h : newM tx len nm n p = .ok (v, q)) : nwC tx len nm n (p, -1) = (v, q, -1) := by
  unfold newM at h
  split at h
  · cases h
  · rename_i v' f q' hn
    split at h
    · rename_i hf
      cases h
      obtain ⟨e1, e2⟩ := naM_ok hn
      unfold nwC
      rw [e1, e2]
      dsimp only
      rw [if_pos hf]
    · cases h
theorem nwC_er {nm : Nat → Int32} {n p q : Nat} (hp : p ≤ len) (hl31 : len < 2 ^ 31) (h : newM tx len nm n p = .error q) : (nwC tx len nm n (p, -1)).2.2 = nI q ∧ q ≤ len := by
  unfold newM at h
  split at h
  · rename_i q' hn
    cases h
    obtain ⟨e1, e2⟩ := naM_er hp hl31 hn
    refine ⟨?_, e2⟩
    unfold nwC
    dsimp only
    rw [e1]
    split
    · rfl
    · exact rf_st (by omega)
  · rename_i v' f q' hn
    split at h
    · cases h
    · rename_i k hf
      cases h
      obtain ⟨e1, e2⟩ := naM_ok hn
      have o := nameM_ok hn
      refine ⟨?_, by omega⟩
      unfold nwC
      rw [e1, e2]
      dsimp only
      rw [if_neg (by rw [hf]; exact fun z => by cases z), rf_m1]
theorem usC_ok {nm kd : Nat → Int32} {n : Nat} {c bar : Int32} {p k f q : Nat} (h : oldM tx len nm kd n c p = .ok (k, f, q)) (hb : ¬ nI k = bar) : usC tx len nm kd n c bar (p, -1) = (nI k, q, -1) := by
  unfold oldM at h
  split at h
  · cases h
  · rename_i v' f' q' hn
    split at h
    · cases h
    · rename_i k' hf
      split at h
      · rename_i hk
        cases h
        obtain ⟨e1, e2⟩ := naM_ok hn
        unfold usC
        rw [e1, e2]
        dsimp only
        rw [hf, if_neg (fun z => z.elim hb (fun z => z hk))]
        rfl
      · cases h
theorem usC_bar {nm kd : Nat → Int32} {n : Nat} {c bar : Int32} {p k f q : Nat} (h : oldM tx len nm kd n c p = .ok (k, f, q)) (hb : nI k = bar) : (usC tx len nm kd n c bar (p, -1)).2.2 = nI f := by
  unfold oldM at h
  split at h
  · cases h
  · rename_i v' f' q' hn
    split at h
    · cases h
    · rename_i k' hf
      split at h
      · rename_i hk
        cases h
        obtain ⟨e1, e2⟩ := naM_ok hn
        unfold usC
        rw [e1, e2]
        dsimp only
        rw [hf, if_pos (show rjC kd (some k) c bar from Or.inl hb), rf_m1]
      · cases h
theorem usC_er {nm kd : Nat → Int32} {n : Nat} {c bar : Int32} {p q : Nat} (hp : p ≤ len) (hl31 : len < 2 ^ 31) (h : oldM tx len nm kd n c p = .error q) : (usC tx len nm kd n c bar (p, -1)).2.2 = nI q ∧ q ≤ len := by
  unfold oldM at h
  split at h
  · rename_i q' hn
    cases h
    obtain ⟨e1, e2⟩ := naM_er hp hl31 hn
    refine ⟨?_, e2⟩
    unfold usC
    dsimp only
    exact (ite_rf (a := 0) (by omega) e1).2
  · rename_i v' f q' hn
    obtain ⟨e1, e2⟩ := naM_ok hn
    have o := nameM_ok hn
    split at h
    · rename_i hf
      cases h
      refine ⟨?_, by omega⟩
      unfold usC
      rw [e1, e2]
      dsimp only
      rw [hf, if_pos (show rjC kd none c bar from trivial), rf_m1]
    · rename_i k hf
      split at h
      · cases h
      · rename_i hk
        cases h
        refine ⟨?_, by omega⟩
        unfold usC
        rw [e1, e2]
        dsimp only
        rw [hf, if_pos (show rjC kd (some k) c bar from Or.inr hk), rf_m1]
end RDC
