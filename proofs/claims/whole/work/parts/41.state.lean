/-! THE STATE that class and reference share: the text (length, signs), the editions' places, units, the latest edition's ways and serves, what was moved, the plan -/
abbrev Sg : Type := (Nat × (Nat → Int32)) × List (List Pl) × (Nat → Nat → Int32) × (List (Nat × Nat × Bool) × List (Nat × Nat)) × List Nat × List Int32
def sLen (σ : Sg) : Nat := σ.1.1
def sTx (σ : Sg) : Nat → Int32 := σ.1.2
def sEd (σ : Sg) : List (List Pl) := σ.2.1
def sUn (σ : Sg) : Nat → Nat → Int32 := σ.2.2.1
def sWs (σ : Sg) : List (Nat × Nat × Bool) := σ.2.2.2.1.1
def sVs (σ : Sg) : List (Nat × Nat) := σ.2.2.2.1.2
def sMv (σ : Sg) : List Nat := σ.2.2.2.2.1
def sPn (σ : Sg) : List Int32 := σ.2.2.2.2.2
def sCur (σ : Sg) : List Pl := (sEd σ).getD ((sEd σ).length - 1) []
theorem tkE {tx tx' : Nat → Int32} {len : Nat} (h : ∀ i, i < len → tx i = tx' i) (p : Nat) : tk tx len p = tk tx' len p := by
  unfold tk
  by_cases e : p < len
  · rw [if_pos e, if_pos e, h p e]
  · rw [if_neg e, if_neg e]
section TE
variable {tx tx' : Nat → Int32} {len : Nat}
theorem skM_E (h : ∀ i, i < len → tx i = tx' i) (c : Int32) (p : Nat) : skM tx len c p = skM tx' len c p := by unfold skM; rw [tkE h]
theorem numL_E (h : ∀ i, i < len → tx i = tx' i) : ∀ (f p w : Nat), numL tx len f p w = numL tx' len f p w
  | 0, p, w => rfl
  | f + 1, p, w => by unfold numL; rw [tkE h, numL_E h f]
theorem nmL_E (h : ∀ i, i < len → tx i = tx' i) : ∀ (k p : Nat) (v : Int32), nmL tx len k p v = nmL tx' len k p v
  | 0, p, v => rfl
  | k + 1, p, v => by unfold nmL; rw [tkE h, nmL_E h k]
theorem numM_E (h : ∀ i, i < len → tx i = tx' i) (a b p : Nat) : numM tx len a b p = numM tx' len a b p := by
  unfold numM
  rw [skM_E h]
  split
  · rfl
  · rw [numL_E h, tkE h]
theorem nameM_E (h : ∀ i, i < len → tx i = tx' i) (p : Nat) : nameM tx len p = nameM tx' len p := by
  unfold nameM
  rw [skM_E h]
  split
  · rfl
  · rw [nmL_E h, tkE h]
theorem newM_E (h : ∀ i, i < len → tx i = tx' i) (nm : Nat → Int32) (n p : Nat) : newM tx len nm n p = newM tx' len nm n p := by unfold newM; rw [nameM_E h]
theorem oldM_E (h : ∀ i, i < len → tx i = tx' i) (nm kd : Nat → Int32) (n : Nat) (c : Int32) (p : Nat) : oldM tx len nm kd n c p = oldM tx' len nm kd n c p := by unfold oldM; rw [nameM_E h]
theorem areaM_E (h : ∀ i, i < len → tx i = tx' i) (p : Nat) : areaM tx len p = areaM tx' len p := by
  unfold areaM
  rw [numM_E h]; split; · rfl
  rw [numM_E h]; split; · rfl
  rw [numM_E h]; split; · rfl
  rw [numM_E h]; split; · rfl
  rw [skM_E h]
theorem stpM_E (h : ∀ i, i < len → tx i = tx' i) (nm kd : Nat → Int32) (n : Nat) : ∀ (k : Nat) (acc : List Nat) (p : Nat), stpM tx len nm kd n k acc p = stpM tx' len nm kd n k acc p
  | 0, acc, p => rfl
  | k + 1, acc, p => by
    unfold stpM
    rw [tkE h, oldM_E h]
    congr 1
    congr 1
    split
    · rfl
    · exact stpM_E h nm kd n k _ _
theorem rackM_E (h : ∀ i, i < len → tx i = tx' i) (nm : Nat → Int32) (n p : Nat) : rackM tx len nm n p = rackM tx' len nm n p := by
  unfold rackM
  rw [newM_E h]; split; · rfl
  rw [areaM_E h]
theorem binM_E (h : ∀ i, i < len → tx i = tx' i) (nm kd : Nat → Int32) (n p : Nat) : binM tx len nm kd n p = binM tx' len nm kd n p := by
  unfold binM
  rw [newM_E h]; split; · rfl
  rw [oldM_E h]; split; · rfl
  rw [numM_E h]; split; · rfl
  rw [areaM_E h]
theorem pieceM_E (h : ∀ i, i < len → tx i = tx' i) (nm : Nat → Int32) (n p : Nat) : pieceM tx len nm n p = pieceM tx' len nm n p := by
  unfold pieceM
  rw [newM_E h]; split; · rfl
  rw [numM_E h]; split; · rfl
  rw [numM_E h]; split; · rfl
  rw [skM_E h]
theorem atL_E (h : ∀ i, i < len → tx i = tx' i) (ps : List Pl) (kd p : Nat) : atL tx len ps kd p = atL tx' len ps kd p := by
  have : atpM tx len (atP ps 0) (atP ps 1) ps.length p = atpM tx' len (atP ps 0) (atP ps 1) ps.length p := by
    unfold atpM
    rw [newM_E h]; split; · rfl
    rw [oldM_E h]; split; · rfl
    rw [skM_E h]
  unfold atL
  rw [this]
theorem lftM_E (h : ∀ i, i < len → tx i = tx' i) (nm kd : Nat → Int32) (n p : Nat) : lftM tx len nm kd n p = lftM tx' len nm kd n p := by
  unfold lftM
  rw [newM_E h]; split; · rfl
  rw [stpM_E h]
theorem wayM_E (h : ∀ i, i < len → tx i = tx' i) (nm kd : Nat → Int32) (n p : Nat) : wayM tx len nm kd n p = wayM tx' len nm kd n p := by
  unfold wayM
  rw [oldM_E h]; split; · rfl
  rw [oldM_E h]; split; · rfl
  rw [skM_E h]
  congr 1
  split
  · rfl
  · rw [tkE h, skM_E h]
theorem srvM_E (h : ∀ i, i < len → tx i = tx' i) (nm kd : Nat → Int32) (n p : Nat) : srvM tx len nm kd n p = srvM tx' len nm kd n p := by
  unfold srvM
  rw [oldM_E h]; split; · rfl
  rw [oldM_E h]; split; · rfl
  rw [skM_E h]
theorem lineM_E (h : ∀ i, i < len → tx i = tx' i) (ps : List Pl) (p : Nat) : lineM tx len ps p = lineM tx' len ps p := by
  unfold lineM
  rw [tkE h, rackM_E h, binM_E h, pieceM_E h, atL_E h, atL_E h, atL_E h, lftM_E h, wayM_E h, srvM_E h]
theorem textM_E (h : ∀ i, i < len → tx i = tx' i) : ∀ (f : Nat) (E : Ed) (p : Nat), textM tx len f E p = textM tx' len f E p
  | 0, E, p => rfl
  | f + 1, E, p => by
    unfold textM
    rw [lineM_E h]
    congr 1
    split
    · rfl
    · exact textM_E h f _ _
end TE
/-- the reference's row of a place that is kept -/
def KA (ar : Nat → Nat → Int32) (i : Nat) (P : Pl) : Prop := ar 6 i = P.1 0 ∧ ar 5 i = P.1 1 ∧ ar 7 i = P.1 2 ∧ ar 8 i = P.1 3 ∧ ar 9 i = P.1 4 ∧ ar 10 i = P.1 5 ∧ ar 11 i = P.1 6 ∧ ar 12 i = P.1 7
def MR (g : Nat → Int32) (ar : Nat → Nat → Int32) (σ : Sg) : Prop :=
  (g 2 = nI (sLen σ) ∧ sLen σ ≤ 600 ∧ ∀ i, i < sLen σ → ar 1 i = sTx σ i) ∧
  (g 3 = nI ((sEd σ).length - 1) ∧ 1 ≤ (sEd σ).length ∧ (sEd σ).length ≤ 8) ∧
  (∀ e ps, (sEd σ)[e]? = some ps → ps.length ≤ 60 ∧ ar 4 e = nI ps.length ∧ ∀ k P, ps[k]? = some P → KA ar (60 * e + k) P ∧ ar 13 (60 * e + k) = sUn σ e k) ∧
  (∀ k P, (sCur σ)[k]? = some P → ar 21 k = nI P.2.length ∧ P.2.length ≤ 4 ∧ ∀ i, i < P.2.length → ar 22 (4 * k + i) = nI (P.2.getD i 0)) ∧
  (g 14 = nI (sWs σ).length ∧ ∀ i a b t, (sWs σ)[i]? = some (a, b, t) → ar 15 i = nI a ∧ ar 16 i = nI b ∧ ar 17 i = nI t.toNat) ∧
  (g 18 = nI (sVs σ).length ∧ ∀ i a b, (sVs σ)[i]? = some (a, b) → ar 19 i = nI a ∧ ar 20 i = nI b) ∧
  (sWs σ).length + (sVs σ).length ≤ 60 ∧
  (g 45 = nI (sMv σ).length ∧ (sMv σ).length ≤ 60 ∧ ∀ i k, (sMv σ)[i]? = some k → ar 44 i = nI k) ∧
  (g 47 = nI (sPn σ).length ∧ (sPn σ).length ≤ 820 ∧ ∀ i c, (sPn σ)[i]? = some c → ar 46 i = c)
