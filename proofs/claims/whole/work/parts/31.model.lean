def samA (h h' : sm_H) (a : Nat) : Prop := hC h' a = hC h a ∧ hL h' a = hL h a ∧ (∀ f, hF h' f a = hF h f a) ∧ ∀ i, hA h' a i = hA h a i
theorem samA.refl (h : sm_H) (a : Nat) : samA h h a := ⟨rfl, rfl, fun _ => rfl, fun _ => rfl⟩
theorem samA.trans {h h1 h2 : sm_H} {a : Nat} (x : samA h h1 a) (y : samA h1 h2 a) : samA h h2 a := ⟨y.1.trans x.1, y.2.1.trans x.2.1, fun f => (y.2.2.1 f).trans (x.2.2.1 f), fun i => (y.2.2.2 i).trans (x.2.2.2 i)⟩
theorem samA.symm {h h1 : sm_H} {a : Nat} (x : samA h h1 a) : samA h1 h a := ⟨x.1.symm, x.2.1.symm, fun f => (x.2.2.1 f).symm, fun i => (x.2.2.2 i).symm⟩
theorem samA.putF {h : sm_H} {f b : Nat} {v : Value} {a : Nat} (hne : a ≠ b) : samA h (putF h f b v) a := ⟨rfl, rfl, fun _ => if_neg (fun q => hne q.2), fun _ => rfl⟩
theorem samA.putA {h : sm_H} {i b : Nat} {v : Value} {a : Nat} (hne : a ≠ b) : samA h (putA h b i v) a := ⟨rfl, rfl, fun _ => rfl, fun _ => if_neg (fun q => hne q.1)⟩
theorem samA.newO {h : sm_H} {ci n : Nat} {dv : Nat → Value} {a : Nat} (hne : a ≠ hT h) : samA h (newO h ci n dv) a := ⟨if_neg hne, rfl, fun _ => if_neg hne, fun _ => rfl⟩
theorem samA.newA {h : sm_H} {t n : Nat} {dv : Value} {a : Nat} (hne : a ≠ hT h) : samA h (newA h t n dv) a := ⟨if_neg hne, if_neg hne, fun _ => rfl, fun _ => if_neg hne⟩
theorem samA.cpA {h : sm_H} {b n : Nat} {a : Nat} (hne : a ≠ hT h) : samA h (cpA h b n) a := ⟨if_neg hne, if_neg hne, fun _ => rfl, fun _ => if_neg hne⟩
theorem samA.thH {h : sm_H} {ci : Nat} {a : Nat} (hne : a ≠ hT h) : samA h (thH h ci) a := samA.newO hne
theorem hF_putF {h : sm_H} {f b : Nat} {v : Value} : hF (putF h f b v) f b = v := if_pos ⟨rfl, rfl⟩
theorem hF_putF_f {h : sm_H} {f g b a : Nat} {v : Value} (hne : g ≠ f) : hF (putF h f b v) g a = hF h g a := if_neg (fun q => hne q.1)
theorem hF_putF_a {h : sm_H} {f g b a : Nat} {v : Value} (hne : a ≠ b) : hF (putF h f b v) g a = hF h g a := if_neg (fun q => hne q.2)
theorem hA_putA {h : sm_H} {i b : Nat} {v : Value} : hA (putA h b i v) b i = v := if_pos ⟨rfl, rfl⟩
theorem hA_putA_i {h : sm_H} {i j b a : Nat} {v : Value} (hne : j ≠ i) : hA (putA h b i v) a j = hA h a j := if_neg (fun q => hne q.2)
theorem hA_putA_a {h : sm_H} {i j b a : Nat} {v : Value} (hne : a ≠ b) : hA (putA h b i v) a j = hA h a j := if_neg (fun q => hne q.1)
/-! THE REFERENCE's MEMORY: its object at m, its arrays behind it in the order in which they are made; g: its plain fields, ar: its arrays -/
def mos : List Nat := [0, 1, 0, 0, 2, 3, 4, 5, 6, 7, 8, 9, 10, 11, 0, 12, 13, 14, 0, 15, 16, 17, 18, 0, 0, 0, 0, 0, 19, 20, 21, 0, 22, 23, 24, 25, 26, 27, 28, 29, 30, 31, 32, 33, 34, 0, 35, 0, 0, 0, 0, 0, 0, 0, 0, 0, 0, 36, 0, 0, 0, 0, 37, 38, 39, 40, 0]
def mo (k : Nat) : Nat := mos.getD k 0
def mls : List Nat := [0, 3000, 0, 0, 8, 480, 480, 480, 480, 480, 480, 480, 480, 480, 0, 60, 60, 60, 0, 60, 60, 60, 240, 0, 0, 0, 0, 0, 60, 60, 60, 0, 60, 60, 501, 2004, 501, 501, 501, 501, 501, 501, 501, 501, 60, 0, 820, 0, 0, 0, 0, 0, 0, 0, 0, 0, 0, 4, 0, 0, 0, 0, 3600, 200, 200, 200, 0]
def ml (k : Nat) : Nat := mls.getD k 0
def mts : List Nat := [0, 1, 0, 0, 1, 1, 1, 1, 1, 1, 1, 1, 1, 1, 0, 1, 1, 5, 0, 1, 1, 1, 1, 0, 0, 0, 0, 0, 1, 1, 5, 0, 1, 1, 1, 1, 1, 1, 1, 1, 1, 1, 1, 1, 1, 0, 1, 0, 0, 0, 0, 0, 0, 0, 0, 0, 0, 1, 0, 0, 0, 0, 1, 1, 1, 1, 0]
def mt (k : Nat) : Nat := mts.getD k 0
def uF (g : Nat → Int32) (k : Nat) (v : Int32) : Nat → Int32 := fun i => if i = k then v else g i
def uA (ar : Nat → Nat → Int32) (k n : Nat) (v : Int32) : Nat → Nat → Int32 := fun k' n' => if k' = k ∧ n' = n then v else ar k' n'
/-- the reference's own cells -/
def isM (m a : Nat) : Prop := m ≤ a ∧ a ≤ m + 40
def mfr (h0 h : sm_H) (m : Nat) : Prop := hT h = hT h0 ∧ hU h = hU h0 ∧ hZ h = hZ h0 ∧ ∀ a, ¬ isM m a → samA h0 h a
def MS (h0 h : sm_H) (m : Nat) (g : Nat → Int32) (ar : Nat → Nat → Int32) : Prop := hC h m = 25 ∧ (∀ k, k < 67 → mo k = 0 → hF h (1152 + k) m = .int (g k)) ∧ (∀ k, k < 67 → mo k ≠ 0 → hF h (1152 + k) m = .ref (m + mo k) ∧ hC h (m + mo k) = mt k ∧ hL h (m + mo k) = ml k ∧ ∀ i, i < ml k → hA h (m + mo k) i = .int (ar k i)) ∧ mfr h0 h m
theorem mo_le : ∀ k, k < 67 → mo k ≤ 40 := by decide +kernel
theorem mo_inj : ∀ k, k < 67 → ∀ k', k' < 67 → mo k ≠ 0 → mo k = mo k' → k = k' := by decide +kernel
theorem ml_le : ∀ k, k < 67 → ml k ≤ 3600 := by decide +kernel
theorem MS.putI {h0 h : sm_H} {m : Nat} {g : Nat → Int32} {ar : Nat → Nat → Int32} (M : MS h0 h m g ar) {k : Nat} (hk : k < 67) (ho : mo k = 0) (v : Int32) : MS h0 (putF h (1152 + k) m (.int v)) m (uF g k v) ar := by
  obtain ⟨h1, h2, h3, h4, h5, h6, h7⟩ := M
  refine ⟨h1, fun k' hk' ho' => ?_, fun k' hk' ho' => ?_, h4, h5, h6, fun a ha => ?_⟩
  · by_cases e : k' = k
    · subst e
      rw [hF_putF]
      exact congrArg Value.int (if_pos rfl).symm
    · rw [hF_putF_f (by omega), h2 k' hk' ho']
      exact congrArg Value.int (if_neg e).symm
  · have e : k' ≠ k := fun e => ho' (by rw [e]; exact ho)
    rw [hF_putF_f (by omega)]
    exact h3 k' hk' ho'
  · exact (h7 a ha).trans (samA.putF (fun e => ha (by rw [e]; exact ⟨Nat.le_refl _, by omega⟩)))
theorem MS.stA {h0 h : sm_H} {m : Nat} {g : Nat → Int32} {ar : Nat → Nat → Int32} (M : MS h0 h m g ar) {k : Nat} (hk : k < 67) (ho : mo k ≠ 0) {n : Nat} (v : Int32) : MS h0 (putA h (m + mo k) n (.int v)) m g (uA ar k n v) := by
  obtain ⟨h1, h2, h3, h4, h5, h6, h7⟩ := M
  refine ⟨h1, h2, fun k' hk' ho' => ?_, h4, h5, h6, fun a ha => ?_⟩
  · obtain ⟨q1, q2, q3, q4⟩ := h3 k' hk' ho'
    refine ⟨q1, q2, q3, fun i hi => ?_⟩
    by_cases e : k' = k
    · subst e
      by_cases ei : i = n
      · subst ei
        rw [hA_putA]
        exact congrArg Value.int (if_pos ⟨rfl, rfl⟩).symm
      · rw [hA_putA_i ei, q4 i hi]
        exact congrArg Value.int (if_neg (fun q => ei q.2)).symm
    · have hne : m + mo k' ≠ m + mo k := fun z => e (mo_inj k' hk' k hk ho' (by omega))
      rw [hA_putA_a hne, q4 i hi]
      exact congrArg Value.int (if_neg (fun q => e q.1)).symm
  · exact (h7 a ha).trans (samA.putA (fun e => ha (by have := mo_le k hk; rw [e]; exact ⟨by omega, by omega⟩)))
section WM
variable {h0 h : sm_H} {m : Nat} {g : Nat → Int32} {ar : Nat → Nat → Int32} {j pc : Nat} {L S r : List Value} {Q : Nat → Option Value → sm_H → Prop} {t : Nat → Option (Instr × Nat × Nat)} {x kz ci : Nat}
theorem wm_gi (k : Nat) (M : MS h0 h m g ar) (hx : sm_tab j t) (hi : t pc = some (.getfield x, 9, kz)) (hk : kz / 2 = k) (hl : Nat.blt k 67 = true) (ho : mo k = 0) {v : Int32} (hv : g k = v) (kk : sm_wp j (pc + 3) L (.int v :: r) h Q) : sm_wp j pc L (.ref m :: r) h Q := by
  subst hk
  subst hv
  exact wp_get hx hi M.1 (M.2.1 _ (Nat.le_of_ble_eq_true hl) ho) kk
theorem wm_ga (k : Nat) (M : MS h0 h m g ar) (hx : sm_tab j t) (hi : t pc = some (.getfield x, 9, kz)) (hk : kz / 2 = k) (hl : Nat.blt k 67 = true) (ho : mo k ≠ 0) (kk : sm_wp j (pc + 3) L (.ref (m + mo k) :: r) h Q) : sm_wp j pc L (.ref m :: r) h Q := by
  subst hk
  exact wp_get hx hi M.1 (M.2.2.1 _ (Nat.le_of_ble_eq_true hl) ho).1 kk
theorem wm_pi (k : Nat) (M : MS h0 h m g ar) (hx : sm_tab j t) (hi : t pc = some (.putfield x, 9, kz)) (hk : kz / 2 = k) (hl : Nat.blt k 67 = true) (ho : mo k = 0) {v : Int32} (hn : narrow (xty 9 k) (.int v) = .int v) (hf : fits (xty 9 k) (.int v) = true) (kk : ∀ h', MS h0 h' m (uF g k v) ar → sm_wp j (pc + 3) L r h' Q) : sm_wp j pc L (.int v :: .ref m :: r) h Q := by
  subst hk
  exact wp_put hx hi M.1 hn hf (kk _ (M.putI (Nat.le_of_ble_eq_true hl) ho v))
theorem wm_al (k : Nat) (M : MS h0 h m g ar) (hx : sm_tab j t) (hi : t pc = some (.iaload, ci, kz)) (hl : Nat.blt k 67 = true) (ho : mo k ≠ 0) (ht : mt k = 1) {n : Nat} (hn : n < ml k) {v : Int32} (hv : ar k n = v) (kk : sm_wp j (pc + 1) L (.int v :: r) h Q) : sm_wp j pc L (.int (nI n) :: .ref (m + mo k) :: r) h Q := by
  subst hv
  obtain ⟨q1, q2, q3, q4⟩ := M.2.2.1 k (Nat.le_of_ble_eq_true hl) ho
  have hb := ml_le k (Nat.le_of_ble_eq_true hl)
  exact wp_iald hx hi (by rw [q2, ht]; rfl) (by rw [q3]; exact hn) (by rw [q3]; omega) (q4 n hn) kk
theorem wm_bl (k : Nat) (M : MS h0 h m g ar) (hx : sm_tab j t) (hi : t pc = some (.baload, ci, kz)) (hl : Nat.blt k 67 = true) (ho : mo k ≠ 0) (ht : mt k = 5) {n : Nat} (hn : n < ml k) {v : Int32} (hv : ar k n = v) (kk : sm_wp j (pc + 1) L (.int v :: r) h Q) : sm_wp j pc L (.int (nI n) :: .ref (m + mo k) :: r) h Q := by
  subst hv
  obtain ⟨q1, q2, q3, q4⟩ := M.2.2.1 k (Nat.le_of_ble_eq_true hl) ho
  have hb := ml_le k (Nat.le_of_ble_eq_true hl)
  exact wp_bald hx hi (by rw [q2, ht]; exact Or.inr rfl) (by rw [q3]; exact hn) (by rw [q3]; omega) (q4 n hn) kk
theorem wm_as (k : Nat) (M : MS h0 h m g ar) (hx : sm_tab j t) (hi : t pc = some (.iastore, ci, kz)) (hl : Nat.blt k 67 = true) (ho : mo k ≠ 0) (ht : mt k = 1) {n : Nat} (hn : n < ml k) {v : Int32} (kk : ∀ h', MS h0 h' m g (uA ar k n v) → sm_wp j (pc + 1) L r h' Q) : sm_wp j pc L (.int v :: .int (nI n) :: .ref (m + mo k) :: r) h Q := by
  obtain ⟨q1, q2, q3, q4⟩ := M.2.2.1 k (Nat.le_of_ble_eq_true hl) ho
  have hb := ml_le k (Nat.le_of_ble_eq_true hl)
  exact wp_iast hx hi (by rw [q2, ht]) (by rw [q3]; exact hn) (by rw [q3]; omega) (kk _ (M.stA (Nat.le_of_ble_eq_true hl) ho v))
theorem wm_bs (k : Nat) (M : MS h0 h m g ar) (hx : sm_tab j t) (hi : t pc = some (.bastore, ci, kz)) (hl : Nat.blt k 67 = true) (ho : mo k ≠ 0) (ht : mt k = 5) {n : Nat} (hn : n < ml k) {v : Int32} (hw : narrow .boolean (.int v) = .int v) (kk : ∀ h', MS h0 h' m g (uA ar k n v) → sm_wp j (pc + 1) L r h' Q) : sm_wp j pc L (.int v :: .int (nI n) :: .ref (m + mo k) :: r) h Q := by
  obtain ⟨q1, q2, q3, q4⟩ := M.2.2.1 k (Nat.le_of_ble_eq_true hl) ho
  have hb := ml_le k (Nat.le_of_ble_eq_true hl)
  exact wp_zast hx hi (by rw [q2, ht]) (by rw [q3]; exact hn) (by rw [q3]; omega) hw (kk _ (M.stA (Nat.le_of_ble_eq_true hl) ho v))
/-- a call of the reference's own method -/
theorem wm_iv (hx : sm_tab j t) (hi : t pc = some (.invokevirtual x, ci, kz)) (hrc : xrc ci = 9) (M : MS h0 h m g ar) (As : List Value) (hn : As.length = xna ci) (hr : (r.map fun v => v.category).sum ≤ 8) (hl : (sm_fl (.ref m :: As)).length ≤ xml ci) (hS : S = As.reverse ++ .ref m :: r)
    (k : sm_wp ci 0 (sm_en (.ref m :: As) (xml ci)) [] h (fun k v h' => k = 0 ∧ sm_wp j (pc + 3) L (v.toList ++ r) h' Q)) : sm_wp j pc L S h Q := wp_iv hx hi As hn (by rw [hrc]; exact M.1) hr hl hS k
/-- arithmetic of numbers -/
theorem wp_addN (hx : sm_tab j t) (hi : t pc = some (.iadd, ci, kz)) {a b : Nat} (k : sm_wp j (pc + 1) L (.int (nI (a + b)) :: r) h Q) : sm_wp j pc L (.int (nI b) :: .int (nI a) :: r) h Q := by
  refine wp_pure hx hi rfl ?_
  show sm_wp j (pc + 1) L (.int (nI a + nI b) :: r) h Q
  rw [nI_add]
  exact k
theorem nI_mul (a b : Nat) : nI a * nI b = nI (a * b) := (Int32.ofNat_mul a b).symm
theorem wp_mulN (hx : sm_tab j t) (hi : t pc = some (.imul, ci, kz)) {a b : Nat} (k : sm_wp j (pc + 1) L (.int (nI (a * b)) :: r) h Q) : sm_wp j pc L (.int (nI b) :: .int (nI a) :: r) h Q := by
  refine wp_pure hx hi rfl ?_
  show sm_wp j (pc + 1) L (.int (nI a * nI b) :: r) h Q
  rw [nI_mul]
  exact k
theorem nI_sub {a b : Nat} (hb : b ≤ a) : nI a - nI b = nI (a - b) := by
  have e : nI a = nI (a - b) + nI b := by rw [nI_add, Nat.sub_add_cancel hb]
  rw [e, Int32.add_sub_cancel]
theorem wp_subN (hx : sm_tab j t) (hi : t pc = some (.isub, ci, kz)) {a b : Nat} (hb : b ≤ a) (k : sm_wp j (pc + 1) L (.int (nI (a - b)) :: r) h Q) : sm_wp j pc L (.int (nI b) :: .int (nI a) :: r) h Q := by
  refine wp_pure hx hi rfl ?_
  show sm_wp j (pc + 1) L (.int (nI a - nI b) :: r) h Q
  rw [nI_sub hb]
  exact k
theorem wp_iadd (hx : sm_tab j t) (hi : t pc = some (.iadd, ci, kz)) {a b : Int32} (k : sm_wp j (pc + 1) L (.int (a + b) :: r) h Q) : sm_wp j pc L (.int b :: .int a :: r) h Q := wp_pure hx hi rfl k
theorem wp_isub (hx : sm_tab j t) (hi : t pc = some (.isub, ci, kz)) {a b : Int32} (k : sm_wp j (pc + 1) L (.int (a - b) :: r) h Q) : sm_wp j pc L (.int b :: .int a :: r) h Q := wp_pure hx hi rfl k
theorem wp_imul (hx : sm_tab j t) (hi : t pc = some (.imul, ci, kz)) {a b : Int32} (k : sm_wp j (pc + 1) L (.int (a * b) :: r) h Q) : sm_wp j pc L (.int b :: .int a :: r) h Q := wp_pure hx hi rfl k
theorem wp_iand (hx : sm_tab j t) (hi : t pc = some (.iand, ci, kz)) {a b : Int32} (k : sm_wp j (pc + 1) L (.int (a &&& b) :: r) h Q) : sm_wp j pc L (.int b :: .int a :: r) h Q := wp_pure hx hi rfl k
theorem wp_ior (hx : sm_tab j t) (hi : t pc = some (.ior, ci, kz)) {a b : Int32} (k : sm_wp j (pc + 1) L (.int (a ||| b) :: r) h Q) : sm_wp j pc L (.int b :: .int a :: r) h Q := wp_pure hx hi rfl k
theorem wp_ladd (hx : sm_tab j t) (hi : t pc = some (.ladd, ci, kz)) {a b : Int64} (k : sm_wp j (pc + 1) L (.long (a + b) :: r) h Q) : sm_wp j pc L (.long b :: .long a :: r) h Q := wp_pure hx hi rfl k
theorem wp_lsub (hx : sm_tab j t) (hi : t pc = some (.lsub, ci, kz)) {a b : Int64} (k : sm_wp j (pc + 1) L (.long (a - b) :: r) h Q) : sm_wp j pc L (.long b :: .long a :: r) h Q := wp_pure hx hi rfl k
theorem wp_lmul (hx : sm_tab j t) (hi : t pc = some (.lmul, ci, kz)) {a b : Int64} (k : sm_wp j (pc + 1) L (.long (a * b) :: r) h Q) : sm_wp j pc L (.long b :: .long a :: r) h Q := wp_pure hx hi rfl k
theorem wp_land (hx : sm_tab j t) (hi : t pc = some (.land, ci, kz)) {a b : Int64} (k : sm_wp j (pc + 1) L (.long (a &&& b) :: r) h Q) : sm_wp j pc L (.long b :: .long a :: r) h Q := wp_pure hx hi rfl k
theorem wp_lor (hx : sm_tab j t) (hi : t pc = some (.lor, ci, kz)) {a b : Int64} (k : sm_wp j (pc + 1) L (.long (a ||| b) :: r) h Q) : sm_wp j pc L (.long b :: .long a :: r) h Q := wp_pure hx hi rfl k
theorem wp_ishl (hx : sm_tab j t) (hi : t pc = some (.ishl, ci, kz)) {a b : Int32} (k : sm_wp j (pc + 1) L (.int (a <<< (b &&& 31)) :: r) h Q) : sm_wp j pc L (.int b :: .int a :: r) h Q := wp_pure hx hi rfl k
theorem wp_i2l (hx : sm_tab j t) (hi : t pc = some (.i2l, ci, kz)) {a : Int32} (k : sm_wp j (pc + 1) L (.long a.toInt64 :: r) h Q) : sm_wp j pc L (.int a :: r) h Q := wp_pure hx hi rfl k
theorem wp_l2i (hx : sm_tab j t) (hi : t pc = some (.l2i, ci, kz)) {a : Int64} (k : sm_wp j (pc + 1) L (.int a.toInt32 :: r) h Q) : sm_wp j pc L (.long a :: r) h Q := wp_pure hx hi rfl k
theorem wp_lcmp (hx : sm_tab j t) (hi : t pc = some (.lcmp, ci, kz)) {a b : Int64} (k : sm_wp j (pc + 1) L (.int (lg_cmp a b) :: r) h Q) : sm_wp j pc L (.long b :: .long a :: r) h Q := wp_pure hx hi rfl k
end WM
/-- downward induction: how loops are gone through -/
theorem dn {n : Nat} {P : Nat → Prop} (h0 : P n) (hs : ∀ i, i < n → P (i + 1) → P i) : ∀ i, i ≤ n → P i := by
  intro i hi
  induction hk : n - i generalizing i with
  | zero =>
    have : i = n := by omega
    rw [this]
    exact h0
  | succ k ih => exact hs i (by omega) (ih (i + 1) (by omega) (by omega))
