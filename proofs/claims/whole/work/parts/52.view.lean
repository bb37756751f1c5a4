/-! THE STATE's STEPS, and the reference's view of the latest edition -/
def cE (σ : Sg) : Ed := (sCur σ, sWs σ, sVs σ)
def sE (σ : Sg) : Nat := (sEd σ).length - 1
def sgS (σ : Sg) (c : Int32) : Sg := ((sLen σ + 1, fun i => if i = sLen σ then c else sTx σ i), σ.2)
def clS (σ : Sg) : Sg := ((0, sTx σ), σ.2)
def tkS (σ : Sg) (E : Ed) : Sg := ((0, sTx σ), sEd σ ++ [E.1], (fun e k => if e = (sEd σ).length then nI 0 else sUn σ e k), (E.2.1, E.2.2), σ.2.2.2.2)
def flS (σ : Sg) (e i : Nat) (u : Int32) : Sg := (σ.1, sEd σ, (fun e' k => if e' = e ∧ k = i then u else sUn σ e' k), σ.2.2.2)
def dfS (σ : Sg) (l : List Nat) : Sg := (σ.1, sEd σ, sUn σ, (sWs σ, sVs σ), l, sPn σ)
def prS (σ : Sg) (l : List Int32) : Sg := (σ.1, sEd σ, sUn σ, (sWs σ, sVs σ), sMv σ, l)
def s0 : Sg := ((0, fun _ => 0), [[]], (fun _ _ => nI 0), ([], []), [], [])
/-- the n-th edition's places -/
def edP (σ : Sg) (e : Nat) : List Pl := (sEd σ).getD e []
def SI (σ : Sg) : Prop := EdW (cE σ) ∧ (∀ e, EdW (edP σ e, [], [])) ∧ (∀ e k, ∃ u, u ≤ 99 ∧ sUn σ e k = nI u) ∧ 1 ≤ (sEd σ).length ∧ (sEd σ).length ≤ 8 ∧ (sCur σ).length ≤ 60 ∧ (∀ e, (edP σ e).length ≤ 60) ∧ (sWs σ).length + (sVs σ).length ≤ 60 ∧ (sMv σ).length ≤ 60 ∧ (∀ k ∈ sMv σ, k < 60) ∧ (sPn σ).length ≤ 820 ∧ (∀ c ∈ sPn σ, ∃ d, d < 128 ∧ c = nI d) ∧ (∀ i, i < sLen σ → ∃ d, d < 128 ∧ sTx σ i = nI d)
theorem EdW.old {E : Ed} (h : EdW E) : EdW (E.1, [], []) := ⟨h.1, h.2.1, fun a b t q => absurd q List.not_mem_nil, fun a b q => absurd q List.not_mem_nil⟩
theorem SI.s0 : SI s0 := by
  refine ⟨EdW.nil, fun e => ?_, fun e k => ⟨0, by omega, rfl⟩, Nat.le_refl _, by decide, by decide, fun e => ?_, by decide, by decide, fun k h => absurd h List.not_mem_nil, by decide, fun c h => absurd h List.not_mem_nil, fun i h => absurd h (Nat.not_lt_zero i)⟩
  · cases e with
    | zero => exact EdW.nil
    | succ e => exact EdW.nil
  · cases e with
    | zero => exact Nat.zero_le _
    | succ e => exact Nat.zero_le _
theorem SI.sg {σ : Sg} (h : SI σ) {c : Int32} (hc : ∃ d, d < 128 ∧ c = nI d) : SI (sgS σ c) := by
  obtain ⟨a1, a2, a3, a4, a5, a6, a7, a8, a9, b1, b2, b3, b4⟩ := h
  refine ⟨a1, a2, a3, a4, a5, a6, a7, a8, a9, b1, b2, b3, fun i hi => ?_⟩
  show ∃ d, d < 128 ∧ (if i = sLen σ then c else sTx σ i) = nI d
  have hi : i < sLen σ + 1 := hi
  by_cases e : i = sLen σ
  · rw [if_pos e]; exact hc
  · rw [if_neg e]; exact b4 i (by omega)
theorem SI.cl {σ : Sg} (h : SI σ) : SI (clS σ) := by
  obtain ⟨a1, a2, a3, a4, a5, a6, a7, a8, a9, b1, b2, b3, b4⟩ := h
  exact ⟨a1, a2, a3, a4, a5, a6, a7, a8, a9, b1, b2, b3, fun i hi => absurd hi (Nat.not_lt_zero i)⟩
theorem edP_app {l : List (List Pl)} {ps : List Pl} {e : Nat} : (l ++ [ps]).getD e [] = if e = l.length then ps else l.getD e [] := by
  rw [List.getD_eq_getElem?_getD, List.getD_eq_getElem?_getD]
  by_cases h : e < l.length
  · rw [List.getElem?_append_left h, if_neg (by omega)]
  · rw [List.getElem?_append_right (by omega)]
    by_cases q : e = l.length
    · rw [if_pos q, q, Nat.sub_self]; rfl
    · rw [if_neg q, List.getElem?_eq_none (by show 1 ≤ e - l.length; omega), List.getElem?_eq_none (by omega)]
theorem cur_app {l : List (List Pl)} {ps : List Pl} : (l ++ [ps]).getD ((l ++ [ps]).length - 1) [] = ps := by
  rw [edP_app, List.length_append, if_pos (by show l.length + 1 - 1 = _; omega)]
theorem tkS_cur {σ : Sg} {E : Ed} : cE (tkS σ E) = E := by
  show ((sEd σ ++ [E.1]).getD ((sEd σ ++ [E.1]).length - 1) [], E.2.1, E.2.2) = E
  rw [cur_app]
theorem SI.tk {σ : Sg} (h : SI σ) {E : Ed} (hE : EdW E) (h1 : (sEd σ).length < 8) (h2 : E.1.length ≤ 60) (h3 : E.2.1.length + E.2.2.length ≤ 60) : SI (tkS σ E) := by
  obtain ⟨a1, a2, a3, a4, a5, a6, a7, a8, a9, b1, b2, b3, b4⟩ := h
  have hl : (sEd σ ++ [E.1]).length = (sEd σ).length + 1 := by rw [List.length_append]; rfl
  refine ⟨by rw [tkS_cur]; exact hE, fun e => ?_, fun e k => ?_, by show 1 ≤ (sEd σ ++ [E.1]).length; omega, by show (sEd σ ++ [E.1]).length ≤ 8; omega, ?_, fun e => ?_, h3, a9, b1, b2, b3, fun i hi => absurd hi (Nat.not_lt_zero i)⟩
  · show EdW ((sEd σ ++ [E.1]).getD e [], [], [])
    rw [edP_app]
    split
    · exact hE.old
    · exact a2 e
  · show ∃ u, u ≤ 99 ∧ (if e = (sEd σ).length then nI 0 else sUn σ e k) = nI u
    split
    · exact ⟨0, by omega, rfl⟩
    · exact a3 e k
  · have := congrArg (fun E : Ed => E.1) (@tkS_cur σ E)
    have e : sCur (tkS σ E) = E.1 := this
    rw [e]; exact h2
  · show ((sEd σ ++ [E.1]).getD e []).length ≤ 60
    rw [edP_app]
    split
    · exact h2
    · exact a7 e
theorem SI.fl {σ : Sg} (h : SI σ) {e i u : Nat} (hu : u ≤ 99) : SI (flS σ e i (nI u)) := by
  obtain ⟨a1, a2, a3, a4, a5, a6, a7, a8, a9, b1, b2, b3, b4⟩ := h
  refine ⟨a1, a2, fun e' k => ?_, a4, a5, a6, a7, a8, a9, b1, b2, b3, b4⟩
  show ∃ v, v ≤ 99 ∧ (if e' = e ∧ k = i then nI u else sUn σ e' k) = nI v
  split
  · exact ⟨u, hu, rfl⟩
  · exact a3 e' k
theorem SI.df {σ : Sg} (h : SI σ) {l : List Nat} (h1 : l.length ≤ 60) (h2 : ∀ k ∈ l, k < 60) : SI (dfS σ l) := by
  obtain ⟨a1, a2, a3, a4, a5, a6, a7, a8, a9, b1, b2, b3, b4⟩ := h
  exact ⟨a1, a2, a3, a4, a5, a6, a7, a8, h1, h2, b2, b3, b4⟩
theorem SI.pr {σ : Sg} (h : SI σ) {l : List Int32} (h1 : l.length ≤ 820) (h2 : ∀ c ∈ l, ∃ d, d < 128 ∧ c = nI d) : SI (prS σ l) := by
  obtain ⟨a1, a2, a3, a4, a5, a6, a7, a8, a9, b1, b2, b3, b4⟩ := h
  exact ⟨a1, a2, a3, a4, a5, a6, a7, a8, a9, b1, h1, h2, b4⟩
/-- what the reference's methods need to know -/
def MV (g : Nat → Int32) (ar : Nat → Nat → Int32) (E : Ed) (e : Nat) : Prop :=
  g 3 = nI e ∧ e ≤ 7 ∧ ar 4 e = nI E.1.length ∧ E.1.length ≤ 60 ∧
  (∀ k, k < E.1.length → ar 6 (60 * e + k) = atP E.1 0 k ∧ ar 5 (60 * e + k) = atP E.1 1 k ∧ ar 7 (60 * e + k) = atP E.1 2 k ∧ ar 8 (60 * e + k) = atP E.1 3 k ∧ ar 9 (60 * e + k) = atP E.1 4 k ∧ ar 10 (60 * e + k) = atP E.1 5 k ∧ ar 11 (60 * e + k) = atP E.1 6 k ∧ ar 12 (60 * e + k) = atP E.1 7 k) ∧
  (∀ k, k < E.1.length → ar 21 k = nI (stP E.1 k).length ∧ (stP E.1 k).length ≤ 4 ∧ ∀ i, i < (stP E.1 k).length → ar 22 (4 * k + i) = nI ((stP E.1 k).getD i 0)) ∧
  (g 14 = nI E.2.1.length ∧ ∀ i, i < E.2.1.length → ar 15 i = nI (wA E.2.1 i) ∧ ar 16 i = nI (wB E.2.1 i) ∧ ar 17 i = nI (wT E.2.1 i).toNat) ∧
  (g 18 = nI E.2.2.length ∧ ∀ i, i < E.2.2.length → ar 19 i = nI (vA E.2.2 i) ∧ ar 20 i = nI (vB E.2.2 i)) ∧ E.2.1.length + E.2.2.length ≤ 60
theorem MR.ed {g : Nat → Int32} {ar : Nat → Nat → Int32} {σ : Sg} (h : MR g ar σ) {e : Nat} (he : e < (sEd σ).length) : (edP σ e).length ≤ 60 ∧ ar 4 e = nI (edP σ e).length ∧ ∀ k, k < (edP σ e).length → (ar 6 (60 * e + k) = atP (edP σ e) 0 k ∧ ar 5 (60 * e + k) = atP (edP σ e) 1 k ∧ ar 7 (60 * e + k) = atP (edP σ e) 2 k ∧ ar 8 (60 * e + k) = atP (edP σ e) 3 k ∧ ar 9 (60 * e + k) = atP (edP σ e) 4 k ∧ ar 10 (60 * e + k) = atP (edP σ e) 5 k ∧ ar 11 (60 * e + k) = atP (edP σ e) 6 k ∧ ar 12 (60 * e + k) = atP (edP σ e) 7 k) ∧ ar 13 (60 * e + k) = sUn σ e k := by
  have hx : (sEd σ)[e]? = some (edP σ e) := by
    unfold edP
    rw [List.getD_eq_getElem?_getD, List.getElem?_eq_getElem he]; rfl
  obtain ⟨q1, q2, q3⟩ := h.2.2.1 e _ hx
  refine ⟨q1, q2, fun k hk => ?_⟩
  have e := List.getElem?_eq_getElem hk
  obtain ⟨z, w⟩ := q3 k _ e
  rw [atP_some e, atP_some e, atP_some e, atP_some e, atP_some e, atP_some e, atP_some e, atP_some e]
  exact ⟨z, w⟩
theorem MR.view {g : Nat → Int32} {ar : Nat → Nat → Int32} {σ : Sg} (h : MR g ar σ) : MV g ar (cE σ) (sE σ) := by
  obtain ⟨h1, h2, h3, h4, h5, h6, h7, h8, h9⟩ := id h
  have hlt : sE σ < (sEd σ).length := by have := h2.2.1; unfold sE; omega
  obtain ⟨q1, q2, q3⟩ := h.ed hlt
  refine ⟨h2.1, by have := h2.2.2; unfold sE; omega, q2, q1, fun k hk => (q3 k hk).1, fun k hk => ?_, ⟨h5.1, fun i hi => ?_⟩, ⟨h6.1, fun i hi => ?_⟩, h7⟩
  · have hk : k < (sCur σ).length := hk
    have e := List.getElem?_eq_getElem hk
    rw [show stP (cE σ).1 k = _ from stP_some e]
    exact h4 k _ e
  · have hi : i < (sWs σ).length := hi
    refine h5.2 i _ _ _ ?_
    show _ = some (wA (sWs σ) i, wB (sWs σ) i, wT (sWs σ) i)
    unfold wA wB wT
    rw [List.getD_eq_getElem?_getD, List.getElem?_eq_getElem hi]
    rfl
  · have hi : i < (sVs σ).length := hi
    refine h6.2 i _ _ ?_
    show _ = some (vA (sVs σ) i, vB (sVs σ) i)
    unfold vA vB
    rw [List.getD_eq_getElem?_getD, List.getElem?_eq_getElem hi]
    rfl
theorem MV.same {g g' : Nat → Int32} {ar ar' : Nat → Nat → Int32} {E : Ed} {e : Nat} (V : MV g ar E e) (hg : g' 3 = g 3 ∧ g' 14 = g 14 ∧ g' 18 = g 18) (ha : ∀ k, k < 23 → ar' k = ar k) : MV g' ar' E e := by
  obtain ⟨h1, h2, h3, h4, h5, h6, h7, h8, h9⟩ := V
  refine ⟨hg.1.trans h1, h2, by rw [ha 4 (by omega)]; exact h3, h4, fun k hk => ?_, fun k hk => ?_, ⟨hg.2.1.trans h7.1, fun i hi => ?_⟩, ⟨hg.2.2.trans h8.1, fun i hi => ?_⟩, h9⟩
  · rw [ha 5 (by omega), ha 6 (by omega), ha 7 (by omega), ha 8 (by omega), ha 9 (by omega), ha 10 (by omega), ha 11 (by omega), ha 12 (by omega)]
    exact h5 k hk
  · rw [ha 21 (by omega), ha 22 (by omega)]
    exact h6 k hk
  · rw [ha 15 (by omega), ha 16 (by omega), ha 17 (by omega)]
    exact h7.2 i hi
  · rw [ha 19 (by omega), ha 20 (by omega)]
    exact h8.2 i hi
