section MVP
variable {g : Nat → Int32} {ar : Nat → Nat → Int32} {E : Ed} {e : Nat}
theorem MV.h3 (V : MV g ar E e) : g 3 = nI e := V.1
theorem MV.he (V : MV g ar E e) : e ≤ 7 := V.2.1
theorem MV.n4 (V : MV g ar E e) : ar 4 e = nI E.1.length := V.2.2.1
theorem MV.hn (V : MV g ar E e) : E.1.length ≤ 60 := V.2.2.2.1
theorem MV.p6 (V : MV g ar E e) (k : Nat) (hk : k < E.1.length) : ar 6 (60 * e + k) = atP E.1 0 k := (V.2.2.2.2.1 k hk).1
theorem MV.p5 (V : MV g ar E e) (k : Nat) (hk : k < E.1.length) : ar 5 (60 * e + k) = atP E.1 1 k := (V.2.2.2.2.1 k hk).2.1
theorem MV.p7 (V : MV g ar E e) (k : Nat) (hk : k < E.1.length) : ar 7 (60 * e + k) = atP E.1 2 k := (V.2.2.2.2.1 k hk).2.2.1
theorem MV.p8 (V : MV g ar E e) (k : Nat) (hk : k < E.1.length) : ar 8 (60 * e + k) = atP E.1 3 k := (V.2.2.2.2.1 k hk).2.2.2.1
theorem MV.p9 (V : MV g ar E e) (k : Nat) (hk : k < E.1.length) : ar 9 (60 * e + k) = atP E.1 4 k := (V.2.2.2.2.1 k hk).2.2.2.2.1
theorem MV.p10 (V : MV g ar E e) (k : Nat) (hk : k < E.1.length) : ar 10 (60 * e + k) = atP E.1 5 k := (V.2.2.2.2.1 k hk).2.2.2.2.2.1
theorem MV.p11 (V : MV g ar E e) (k : Nat) (hk : k < E.1.length) : ar 11 (60 * e + k) = atP E.1 6 k := (V.2.2.2.2.1 k hk).2.2.2.2.2.2.1
theorem MV.p12 (V : MV g ar E e) (k : Nat) (hk : k < E.1.length) : ar 12 (60 * e + k) = atP E.1 7 k := (V.2.2.2.2.1 k hk).2.2.2.2.2.2.2
theorem MV.sc (V : MV g ar E e) (k : Nat) (hk : k < E.1.length) : ar 21 k = nI (stP E.1 k).length := (V.2.2.2.2.2.1 k hk).1
theorem MV.s4 (V : MV g ar E e) (k : Nat) : (stP E.1 k).length ≤ 4 := by
  by_cases hk : k < E.1.length
  · exact (V.2.2.2.2.2.1 k hk).2.1
  · unfold stP; rw [List.getElem?_eq_none (by omega)]; exact Nat.zero_le _
theorem MV.sv (V : MV g ar E e) (k : Nat) (hk : k < E.1.length) (i : Nat) (hi : i < (stP E.1 k).length) : ar 22 (4 * k + i) = nI ((stP E.1 k).getD i 0) := (V.2.2.2.2.2.1 k hk).2.2 i hi
theorem MV.h14 (V : MV g ar E e) : g 14 = nI E.2.1.length := V.2.2.2.2.2.2.1.1
theorem MV.w15 (V : MV g ar E e) (i : Nat) (hi : i < E.2.1.length) : ar 15 i = nI (wA E.2.1 i) := (V.2.2.2.2.2.2.1.2 i hi).1
theorem MV.w16 (V : MV g ar E e) (i : Nat) (hi : i < E.2.1.length) : ar 16 i = nI (wB E.2.1 i) := (V.2.2.2.2.2.2.1.2 i hi).2.1
theorem MV.w17 (V : MV g ar E e) (i : Nat) (hi : i < E.2.1.length) : ar 17 i = nI (wT E.2.1 i).toNat := (V.2.2.2.2.2.2.1.2 i hi).2.2
theorem MV.h18 (V : MV g ar E e) : g 18 = nI E.2.2.length := V.2.2.2.2.2.2.2.1.1
theorem MV.w19 (V : MV g ar E e) (i : Nat) (hi : i < E.2.2.length) : ar 19 i = nI (vA E.2.2 i) := (V.2.2.2.2.2.2.2.1.2 i hi).1
theorem MV.w20 (V : MV g ar E e) (i : Nat) (hi : i < E.2.2.length) : ar 20 i = nI (vB E.2.2 i) := (V.2.2.2.2.2.2.2.1.2 i hi).2
theorem MV.hl (V : MV g ar E e) : E.2.1.length + E.2.2.length ≤ 60 := V.2.2.2.2.2.2.2.2
end MVP
/-- nothing else is shared -/
def shG (g g' : Nat → Int32) : Prop := g' 2 = g 2 ∧ g' 3 = g 3 ∧ g' 14 = g 14 ∧ g' 18 = g 18 ∧ g' 45 = g 45 ∧ g' 47 = g 47
theorem MR.same {g g' : Nat → Int32} {ar ar' : Nat → Nat → Int32} {σ : Sg} (h : MR g ar σ) (hg : shG g g') (ha : ∀ k, k < 23 ∨ k = 44 ∨ k = 46 → ar' k = ar k) : MR g' ar' σ := by
  obtain ⟨g2, g3, g14, g18, g45, g47⟩ := hg
  obtain ⟨h1, h2, h3, h4, h5, h6, h7, h8, h9⟩ := h
  refine ⟨⟨g2.trans h1.1, h1.2.1, fun i hi => by rw [ha 1 (by omega)]; exact h1.2.2 i hi⟩, ⟨g3.trans h2.1, h2.2⟩, fun e ps he => ?_, fun k P hk => ?_, ⟨g14.trans h5.1, fun i a b t hi => ?_⟩, ⟨g18.trans h6.1, fun i a b hi => ?_⟩, h7, ⟨g45.trans h8.1, h8.2.1, fun i k hi => by rw [ha 44 (by omega)]; exact h8.2.2 i k hi⟩, ⟨g47.trans h9.1, h9.2.1, fun i k hi => by rw [ha 46 (by omega)]; exact h9.2.2 i k hi⟩⟩
  · obtain ⟨q1, q2, q3⟩ := h3 e ps he
    refine ⟨q1, by rw [ha 4 (by omega)]; exact q2, fun k P hk => ?_⟩
    unfold KA
    rw [ha 5 (by omega), ha 6 (by omega), ha 7 (by omega), ha 8 (by omega), ha 9 (by omega), ha 10 (by omega), ha 11 (by omega), ha 12 (by omega), ha 13 (by omega)]
    exact q3 k P hk
  · rw [ha 21 (by omega), ha 22 (by omega)]; exact h4 k P hk
  · rw [ha 15 (by omega), ha 16 (by omega), ha 17 (by omega)]; exact h5.2 i a b t hi
  · rw [ha 19 (by omega), ha 20 (by omega)]; exact h6.2 i a b hi
/-- an index in its range, or not -/
theorem in_y {n : Nat} {i : Int32} (hn : n < 2 ^ 31) (h : nI 0 ≤ i ∧ i ≤ nI n - nI 1) : ∃ k, k < n ∧ i = nI k := by
  obtain ⟨j, hj, rfl⟩ := nI_of (x := i) (Int32.not_lt.mpr h.1)
  by_cases e : n = 0
  · subst e
    exact absurd (Int32.le_trans h.1 h.2) (by decide)
  · rw [nI_sub (by omega)] at h
    have := (nI_leI hj (by omega)).mp h.2
    exact ⟨j, by omega, rfl⟩
theorem in_n {n k : Nat} (hn : n < 2 ^ 31) (hk : k < n) : nI 0 ≤ nI k ∧ nI k ≤ nI n - nI 1 := by
  rw [nI_sub (by omega)]
  exact ⟨(nI_leI (by omega) (by omega)).mpr (Nat.zero_le _), (nI_leI (by omega) (by omega)).mpr (by omega)⟩
theorem in_c {n : Nat} {i : Int32} (hn : n < 2 ^ 31) (h : nI 0 ≤ i ∧ i ≤ nI n) : ∃ k, k ≤ n ∧ i = nI k := by
  obtain ⟨j, hj, rfl⟩ := nI_of (x := i) (Int32.not_lt.mpr h.1)
  exact ⟨j, (nI_leI hj hn).mp h.2, rfl⟩
theorem in_d {n k : Nat} (hn : n < 2 ^ 31) (hk : k ≤ n) : nI 0 ≤ nI k ∧ nI k ≤ nI n := ⟨(nI_leI (by omega) (by omega)).mpr (Nat.zero_le _), (nI_leI (by omega) (by omega)).mpr hk⟩
