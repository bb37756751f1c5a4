/-! NUMBERS AND NAMES as the class reads them -/
noncomputable def ncL (tx : Nat → Int32) (len s : Nat) : Nat → Nat → Nat → Nat × Nat
  | 0, p, v => (v, p)
  | f + 1, p, v => @ite _ (isDg (tk tx len p) ∧ (p = s ∨ 0 < v)) (Classical.propDecidable _) (ncL tx len s f (p + 1) (min (10 * v + ((tk tx len p).toNatClampNeg - 48)) 1000)) (v, p)
theorem dgV {c : Int32} (h : isDg c) : c.toNatClampNeg - 48 ≤ 9 ∧ c = nI (48 + (c.toNatClampNeg - 48)) ∧ (c = nI 48 ↔ c.toNatClampNeg - 48 = 0) := by
  obtain ⟨d, hd, rfl⟩ := isDg_nI h
  have e : (nI (48 + d)).toNatClampNeg = 48 + d := by
    have : ∀ d, d ≤ 9 → (nI (48 + d)).toNatClampNeg = 48 + d := by decide +kernel
    exact this d hd
  rw [e, show 48 + d - 48 = d by omega]
  refine ⟨hd, rfl, fun q => ?_, fun q => by rw [q]⟩
  have := (nI_eq (by omega) (by omega)).mp q
  omega
theorem ncL_numL {tx : Nat → Int32} {len s : Nat} : ∀ (f p w : Nat), 0 < w → ncL tx len s f p (min w 1000) = (min (numL tx len f p w).1 1000, (numL tx len f p w).2)
  | 0, p, w, h => rfl
  | f + 1, p, w, h => by
    by_cases e : isDg (tk tx len p)
    · rw [show ncL tx len s (f + 1) p (min w 1000) = _ from if_pos ⟨e, Or.inr (by omega)⟩, show numL tx len (f + 1) p w = _ from if_pos e]
      have hd := (dgV e).1
      generalize (tk tx len p).toNatClampNeg - 48 = d at hd
      have hv : min (10 * min w 1000 + d) 1000 = min (if 1000000 < w then w else 10 * w + d) 1000 := by
        split <;> omega
      rw [hv]
      exact ncL_numL f (p + 1) _ (by split <;> omega)
    · rw [show ncL tx len s (f + 1) p (min w 1000) = _ from if_neg (fun q => e q.1), show numL tx len (f + 1) p w = _ from if_neg e]
theorem numL_ge {tx : Nat → Int32} {len : Nat} : ∀ (f p w : Nat), p ≤ (numL tx len f p w).2
  | 0, p, w => Nat.le_refl _
  | f + 1, p, w => by
    by_cases e : isDg (tk tx len p)
    · rw [show numL tx len (f + 1) p w = _ from if_pos e]
      have := @numL_ge tx len f (p + 1) (if 1000000 < w then w else 10 * w + ((tk tx len p).toNatClampNeg - 48))
      omega
    · rw [show numL tx len (f + 1) p w = _ from if_neg e]; exact Nat.le_refl _
theorem ncL_le {tx : Nat → Int32} {len s : Nat} : ∀ (f p v : Nat), v ≤ 1000 → (p ≤ len → (ncL tx len s f p v).2 ≤ len) ∧ p ≤ (ncL tx len s f p v).2 ∧ (ncL tx len s f p v).1 ≤ 1000
  | 0, p, v, h => ⟨id, Nat.le_refl _, h⟩
  | f + 1, p, v, h => by
    by_cases e : isDg (tk tx len p) ∧ (p = s ∨ 0 < v)
    · rw [show ncL tx len s (f + 1) p v = _ from if_pos e]
      have hp := isDg_lt e.1
      have := @ncL_le tx len s f (p + 1) (min (10 * v + ((tk tx len p).toNatClampNeg - 48)) 1000) (by omega)
      exact ⟨fun _ => this.1 hp, by omega, this.2.2⟩
    · rw [show ncL tx len s (f + 1) p v = _ from if_neg e]; exact ⟨id, Nat.le_refl _, h⟩
theorem numC {tx : Nat → Int32} {len low high p s : Nat} (hh : high ≤ 40) (hs : skM tx len (nI 32) p = .ok s) : (¬ isDg (tk tx len s) → numM tx len low high p = .error s ∧ ncL tx len s len s 0 = (0, s)) ∧
    (isDg (tk tx len s) → ((ncL tx len s len s 0).1 < low ∨ high < (ncL tx len s len s 0).1 → numM tx len low high p = .error s) ∧ (¬ ((ncL tx len s len s 0).1 < low ∨ high < (ncL tx len s len s 0).1) → numM tx len low high p = .ok (ncL tx len s len s 0) ∨ (numM tx len low high p = .error (ncL tx len s len s 0).2 ∧ isDg (tk tx len (ncL tx len s len s 0).2)))) := by
  have hM : numM tx len low high p = @ite _ ((numL tx len len s 0).2 = s) (Classical.propDecidable _) (.error s)
    (@ite _ (s + 1 < (numL tx len len s 0).2 ∧ tk tx len s = nI 48) (Classical.propDecidable _) (.error (if 0 < low then s else s + 1))
      (@ite _ (low ≤ numV (numL tx len len s 0).1 ∧ numV (numL tx len len s 0).1 ≤ high) (Classical.propDecidable _) (.ok (numV (numL tx len len s 0).1, (numL tx len len s 0).2)) (.error s))) := by
    unfold numM; rw [hs]
  constructor
  · intro hd
    have h1 : ∀ f, numL tx len f s 0 = (0, s) := fun f => by cases f with
      | zero => rfl
      | succ f => exact if_neg hd
    have h2 : ∀ f, ncL tx len s f s 0 = (0, s) := fun f => by cases f with
      | zero => rfl
      | succ f => exact if_neg (fun q => hd q.1)
    rw [hM, h1, if_pos rfl, h2]
    exact ⟨rfl, rfl⟩
  · intro hd
    have hsl := isDg_lt hd
    obtain ⟨f, rfl⟩ : ∃ f, len = f + 1 := ⟨len - 1, by omega⟩
    obtain ⟨d9, dE, d0⟩ := dgV hd
    have n1 : numL tx (f + 1) (f + 1) s 0 = numL tx (f + 1) f (s + 1) ((tk tx (f + 1) s).toNatClampNeg - 48) := by
      rw [show numL tx (f + 1) (f + 1) s 0 = _ from if_pos hd, if_neg (by decide)]
      congr 1
      omega
    have c1 : ncL tx (f + 1) s (f + 1) s 0 = ncL tx (f + 1) s f (s + 1) ((tk tx (f + 1) s).toNatClampNeg - 48) := by
      rw [show ncL tx (f + 1) s (f + 1) s 0 = _ from if_pos ⟨hd, Or.inl rfl⟩]
      congr 1
      omega
    generalize hdv : (tk tx (f + 1) s).toNatClampNeg - 48 = d at *
    by_cases dz : d = 0
    · subst dz
      have h48 : tk tx (f + 1) s = nI 48 := d0.mpr rfl
      have c2 : ∀ g, ncL tx (f + 1) s g (s + 1) 0 = (0, s + 1) := fun g => by cases g with
        | zero => rfl
        | succ g => exact if_neg (fun q => by rcases q.2 with z | z <;> omega)
      rw [c1, c2]
      by_cases hd2 : isDg (tk tx (f + 1) (s + 1))
      · have hs2 := isDg_lt hd2
        obtain ⟨g, rfl⟩ : ∃ g, f = g + 1 := ⟨f - 1, by omega⟩
        have n2 : s + 2 ≤ (numL tx (g + 1 + 1) (g + 1 + 1) s 0).2 := by
          rw [n1, show numL tx (g + 1 + 1) (g + 1) (s + 1) 0 = _ from if_pos hd2]
          exact numL_ge _ _ _
        rw [hM, if_neg (by omega), if_pos ⟨by omega, h48⟩]
        refine ⟨fun q => ?_, fun q => Or.inr ⟨?_, hd2⟩⟩
        · have : 0 < low := by rcases q with q | q <;> (dsimp only at q; omega)
          rw [if_pos this]
        · have : ¬ 0 < low := fun z => q (Or.inl z)
          rw [if_neg this]
      · have n2 : numL tx (f + 1) (f + 1) s 0 = (0, s + 1) := by
          rw [n1]
          cases f with
          | zero => rfl
          | succ g => exact if_neg hd2
        rw [hM, n2]
        rw [if_neg (show ¬ (0, s + 1).2 = s by show ¬ s + 1 = s; omega), if_neg (show ¬ (s + 1 < (0, s + 1).2 ∧ tk tx (f + 1) s = nI 48) from fun q => by have : s + 1 < s + 1 := q.1; omega)]
        refine ⟨fun q => if_neg (fun z => ?_), fun q => Or.inl (if_pos ?_)⟩
        · have z1 : low ≤ 0 := z.1
          rcases q with q | q <;> (dsimp only at q; omega)
        · show low ≤ 0 ∧ 0 ≤ high
          refine ⟨?_, Nat.zero_le _⟩
          have : ¬ 0 < low := fun z => q (Or.inl z)
          omega
    · have hc := ncL_numL (tx := tx) (len := f + 1) (s := s) f (s + 1) d (by omega)
      rw [show min d 1000 = d by omega] at hc
      have hlt := @numL_ge tx (f + 1) f (s + 1) d
      rw [hM, n1, c1, hc]
      rw [if_neg (by omega), if_neg (fun q => dz (d0.mp q.2))]
      generalize numL tx (f + 1) f (s + 1) d = w at *
      refine ⟨fun q => if_neg (fun z => ?_), fun q => Or.inl ?_⟩
      · unfold numV at z
        dsimp only at q
        split at z <;> omega
      · dsimp only at q
        have e : numV w.1 = min w.1 1000 := by unfold numV; split <;> omega
        rw [e, if_pos (by omega)]
/-- a name, sign by sign -/
noncomputable def nxL (tx : Nat → Int32) (len : Nat) : Nat → Nat → Int32 → Int32 × Nat
  | 0, p, v => (v, p)
  | k + 1, p, v => @ite _ (isLt (tk tx len p) ∨ isDg (tk tx len p)) (Classical.propDecidable _) (nxL tx len k (p + 1) (v * nI 256 + tk tx len p)) (v, p)
theorem shl8or {v c : Int32} (h : ∃ d, d < 256 ∧ c = nI d) : (v <<< 8) ||| c = v * nI 256 + c := by
  obtain ⟨d, hd, rfl⟩ := h
  apply Int32.toBitVec_inj.mp
  rw [Int32.toBitVec_or, Int32.toBitVec_shiftLeft, Int32.toBitVec_add, Int32.toBitVec_mul]
  show v.toBitVec <<< 8#32 ||| BitVec.ofNat 32 d = v.toBitVec * 256#32 + BitVec.ofNat 32 d
  have e : v.toBitVec * 256#32 = v.toBitVec <<< 8#32 := by
    apply BitVec.eq_of_toNat_eq
    rw [BitVec.toNat_mul, BitVec.shiftLeft_eq', BitVec.toNat_shiftLeft, Nat.shiftLeft_eq]
    rfl
  rw [e]
  refine (BitVec.add_eq_or_of_and_eq_zero _ _ ?_).symm
  apply BitVec.eq_of_getLsbD_eq
  intro i hi
  rw [BitVec.getLsbD_and, BitVec.shiftLeft_eq', BitVec.getLsbD_shiftLeft, BitVec.getLsbD_ofNat]
  by_cases q : i < 8
  · have : (8#32).toNat = 8 := rfl
    simp [this, q]
  · have : d.testBit i = false := Nat.testBit_lt_two_pow (Nat.lt_of_lt_of_le hd (by have := Nat.pow_le_pow_right (n := 2) (by decide) (show 8 ≤ i by omega); omega))
    simp [this]
theorem isLt_nI {c : Int32} (h : isLt c) : ∃ d, d < 256 ∧ c = nI d := by
  obtain ⟨h1, h2⟩ := h
  obtain ⟨j, hj, e⟩ := nI_of (x := c) (fun z => absurd (Int32.le_trans h1 (Int32.le_of_lt z)) (by decide))
  subst e
  have b := (nI_leI (a := j) (b := 122) hj (by decide)).mp h2
  exact ⟨j, by omega, rfl⟩
theorem isDg_n2 {c : Int32} (h : isDg c) : ∃ d, d < 256 ∧ c = nI d := by
  obtain ⟨d, hd, e⟩ := isDg_nI h
  exact ⟨48 + d, by omega, e⟩
theorem nxL_nmL {tx : Nat → Int32} {len : Nat} : ∀ (k p : Nat) (v : Int32), nxL tx len k p v = nmL tx len k p v
  | 0, p, v => rfl
  | k + 1, p, v => by
    by_cases e : isLt (tk tx len p) ∨ isDg (tk tx len p)
    · rw [show nxL tx len (k + 1) p v = _ from if_pos e, show nmL tx len (k + 1) p v = _ from if_pos e, shl8or (e.elim isLt_nI isDg_n2)]
      exact nxL_nmL k (p + 1) _
    · rw [show nxL tx len (k + 1) p v = _ from if_neg e, show nmL tx len (k + 1) p v = _ from if_neg e]
