/-! the reference is made -/
def CI (hb h : sm_H) (m j : Nat) : Prop := hC h m = 25 ∧ hT h = m + 1 + j ∧ hZ h = hZ hb ∧ (∀ a, a < m → samA hb h a) ∧ (∀ k, k < 67 → mo k = 0 → hF h (1152 + k) m = .int (nI 0)) ∧ ∀ k, k < 67 → mo k ≠ 0 → mo k ≤ j → (hF h (1152 + k) m = .ref (m + mo k) ∧ hC h (m + mo k) = mt k ∧ hL h (m + mo k) = ml k ∧ ∀ i, i < ml k → hA h (m + mo k) i = .int (nI 0))
theorem CI.step {hb h : sm_H} {m j k t n : Nat} (C : CI hb h m j) (hk : k < 67) (ho : mo k = j + 1) (ht : mt k = t) (hn : ml k = n) : CI hb (putF (newA h t n (.int (nI 0))) (1152 + k) m (.ref (hT h))) m (j + 1) := by
  obtain ⟨c1, c2, c3, c4, c5, c6⟩ := C
  have hmT : m ≠ hT h := by omega
  refine ⟨(if_neg hmT).trans c1, by show hT h + 1 = _; omega, c3, fun a ha => (c4 a ha).trans ((samA.newA (by omega)).trans (samA.putF (by omega))), fun k' hk' ho' => ?_, fun k' hk' ho' hj' => ?_⟩
  · have e : k' ≠ k := fun e => by rw [e, ho] at ho'; omega
    rw [hF_putF_f (by omega)]
    exact c5 k' hk' ho'
  · by_cases e : k' = k
    · subst e
      have ea : m + mo k' = hT h := by omega
      refine ⟨by rw [hF_putF, ea], ?_, ?_, fun i hi => ?_⟩
      · rw [ea, ht]; exact if_pos rfl
      · rw [ea, hn]; exact if_pos rfl
      · rw [ea]; exact if_pos rfl
    · have hlt : mo k' ≤ j := by
        have : mo k' ≠ mo k := fun q => e (mo_inj k' hk' k hk ho' q)
        omega
      obtain ⟨d1, d2, d3, d4⟩ := c6 k' hk' ho' hlt
      have ne : m + mo k' ≠ hT h := by omega
      refine ⟨by rw [hF_putF_f (by omega)]; exact d1, (if_neg ne).trans d2, (if_neg ne).trans d3, fun i hi => (if_neg ne).trans (d4 i hi)⟩
theorem wm_na {hb h : sm_H} {m : Nat} {j0 pc j k n a1 a2 x kz : Nat} {ty : ArrayType} {L r : List Value} {Q : Nat → Option Value → sm_H → Prop} {t : Nat → Option (Instr × Nat × Nat)} (C : CI hb h m j) (hx : sm_tab j0 t) (hi1 : t pc = some (.newarray ty, a1, a2)) (hi2 : t (pc + 2) = some (.putfield x, 9, kz)) (hk : kz / 2 = k) (hl : Nat.blt k 67 = true) (ho : mo k = j + 1) (hty : mt k = sm_nt ty) (hnz : sm_nt ty ≠ 0) (hn : ml k = n) (hn2 : n < 2 ^ 26) (hd : defaultValue (newarray.typeOf ty) = .int (nI 0)) (hnr : ∀ a, narrow (xty 9 k) (.ref a) = .ref a) (hfi : ∀ a, fits (xty 9 k) (.ref a) = true) (kk : ∀ h', CI hb h' m (j + 1) → hU h' = hU h + n → sm_wp j0 (pc + 5) L r h' Q) : sm_wp j0 pc L (.int (nI n) :: .ref m :: r) h Q := by
  refine wp_newa hx hi1 hn2 hnz ?_
  subst hk
  rw [hd]
  have hmT : m ≠ hT h := by have := C.2.1; omega
  refine wp_put hx hi2 ((if_neg hmT).trans C.1) (hnr _) (hfi _) ?_
  exact kk _ (C.step (Nat.le_of_ble_eq_true hl) ho hty hn) rfl
theorem m_init {h : sm_H} {m : Nat} {Q : Nat → Option Value → sm_H → Prop} (C0 : CI h h m 0) (K : ∀ h', MS h' h' m (fun _ => nI 0) (fun _ _ => nI 0) → hT h' = m + 41 → hU h' ≤ hU h + 30000 → hZ h' = hZ h → (∀ a, a < m → samA h h' a) → Q 0 none h') : sm_wp 80 0 [.ref m] [] h Q := by
  refine wp_pure k_80 rfl rfl ?_
  refine wp_obj k_80 rfl (Nat.le_of_ble_eq_true rfl) ?_
  refine wp_pure k_80 rfl rfl ?_
  refine wp_kn k_80 rfl rfl ?_
  refine wm_na C0 k_80 rfl rfl rfl rfl rfl rfl (by decide) rfl (by decide) rfl (fun _ => rfl) (fun _ => rfl) (fun h1 C1 u1 => ?_)
  refine wp_pure k_80 rfl rfl ?_
  refine wp_kn k_80 rfl rfl ?_
  refine wm_na C1 k_80 rfl rfl rfl rfl rfl rfl (by decide) rfl (by decide) rfl (fun _ => rfl) (fun _ => rfl) (fun h2 C2 u2 => ?_)
  refine wp_pure k_80 rfl rfl ?_
  refine wp_kn k_80 rfl rfl ?_
  refine wm_na C2 k_80 rfl rfl rfl rfl rfl rfl (by decide) rfl (by decide) rfl (fun _ => rfl) (fun _ => rfl) (fun h3 C3 u3 => ?_)
  refine wp_pure k_80 rfl rfl ?_
  refine wp_kn k_80 rfl rfl ?_
  refine wm_na C3 k_80 rfl rfl rfl rfl rfl rfl (by decide) rfl (by decide) rfl (fun _ => rfl) (fun _ => rfl) (fun h4 C4 u4 => ?_)
  refine wp_pure k_80 rfl rfl ?_
  refine wp_kn k_80 rfl rfl ?_
  refine wm_na C4 k_80 rfl rfl rfl rfl rfl rfl (by decide) rfl (by decide) rfl (fun _ => rfl) (fun _ => rfl) (fun h5 C5 u5 => ?_)
  refine wp_pure k_80 rfl rfl ?_
  refine wp_kn k_80 rfl rfl ?_
  refine wm_na C5 k_80 rfl rfl rfl rfl rfl rfl (by decide) rfl (by decide) rfl (fun _ => rfl) (fun _ => rfl) (fun h6 C6 u6 => ?_)
  refine wp_pure k_80 rfl rfl ?_
  refine wp_kn k_80 rfl rfl ?_
  refine wm_na C6 k_80 rfl rfl rfl rfl rfl rfl (by decide) rfl (by decide) rfl (fun _ => rfl) (fun _ => rfl) (fun h7 C7 u7 => ?_)
  refine wp_pure k_80 rfl rfl ?_
  refine wp_kn k_80 rfl rfl ?_
  refine wm_na C7 k_80 rfl rfl rfl rfl rfl rfl (by decide) rfl (by decide) rfl (fun _ => rfl) (fun _ => rfl) (fun h8 C8 u8 => ?_)
  refine wp_pure k_80 rfl rfl ?_
  refine wp_kn k_80 rfl rfl ?_
  refine wm_na C8 k_80 rfl rfl rfl rfl rfl rfl (by decide) rfl (by decide) rfl (fun _ => rfl) (fun _ => rfl) (fun h9 C9 u9 => ?_)
  refine wp_pure k_80 rfl rfl ?_
  refine wp_kn k_80 rfl rfl ?_
  refine wm_na C9 k_80 rfl rfl rfl rfl rfl rfl (by decide) rfl (by decide) rfl (fun _ => rfl) (fun _ => rfl) (fun h10 C10 u10 => ?_)
  refine wp_pure k_80 rfl rfl ?_
  refine wp_kn k_80 rfl rfl ?_
  refine wm_na C10 k_80 rfl rfl rfl rfl rfl rfl (by decide) rfl (by decide) rfl (fun _ => rfl) (fun _ => rfl) (fun h11 C11 u11 => ?_)
  refine wp_pure k_80 rfl rfl ?_
  refine wp_kn k_80 rfl rfl ?_
  refine wm_na C11 k_80 rfl rfl rfl rfl rfl rfl (by decide) rfl (by decide) rfl (fun _ => rfl) (fun _ => rfl) (fun h12 C12 u12 => ?_)
  refine wp_pure k_80 rfl rfl ?_
  refine wp_kn k_80 rfl rfl ?_
  refine wm_na C12 k_80 rfl rfl rfl rfl rfl rfl (by decide) rfl (by decide) rfl (fun _ => rfl) (fun _ => rfl) (fun h13 C13 u13 => ?_)
  refine wp_pure k_80 rfl rfl ?_
  refine wp_kn k_80 rfl rfl ?_
  refine wm_na C13 k_80 rfl rfl rfl rfl rfl rfl (by decide) rfl (by decide) rfl (fun _ => rfl) (fun _ => rfl) (fun h14 C14 u14 => ?_)
  refine wp_pure k_80 rfl rfl ?_
  refine wp_kn k_80 rfl rfl ?_
  refine wm_na C14 k_80 rfl rfl rfl rfl rfl rfl (by decide) rfl (by decide) rfl (fun _ => rfl) (fun _ => rfl) (fun h15 C15 u15 => ?_)
  refine wp_pure k_80 rfl rfl ?_
  refine wp_kn k_80 rfl rfl ?_
  refine wm_na C15 k_80 rfl rfl rfl rfl rfl rfl (by decide) rfl (by decide) rfl (fun _ => rfl) (fun _ => rfl) (fun h16 C16 u16 => ?_)
  refine wp_pure k_80 rfl rfl ?_
  refine wp_kn k_80 rfl rfl ?_
  refine wm_na C16 k_80 rfl rfl rfl rfl rfl rfl (by decide) rfl (by decide) rfl (fun _ => rfl) (fun _ => rfl) (fun h17 C17 u17 => ?_)
  refine wp_pure k_80 rfl rfl ?_
  refine wp_kn k_80 rfl rfl ?_
  refine wm_na C17 k_80 rfl rfl rfl rfl rfl rfl (by decide) rfl (by decide) rfl (fun _ => rfl) (fun _ => rfl) (fun h18 C18 u18 => ?_)
  refine wp_pure k_80 rfl rfl ?_
  refine wp_kn k_80 rfl rfl ?_
  refine wm_na C18 k_80 rfl rfl rfl rfl rfl rfl (by decide) rfl (by decide) rfl (fun _ => rfl) (fun _ => rfl) (fun h19 C19 u19 => ?_)
  refine wp_pure k_80 rfl rfl ?_
  refine wp_kn k_80 rfl rfl ?_
  refine wm_na C19 k_80 rfl rfl rfl rfl rfl rfl (by decide) rfl (by decide) rfl (fun _ => rfl) (fun _ => rfl) (fun h20 C20 u20 => ?_)
  refine wp_pure k_80 rfl rfl ?_
  refine wp_kn k_80 rfl rfl ?_
  refine wm_na C20 k_80 rfl rfl rfl rfl rfl rfl (by decide) rfl (by decide) rfl (fun _ => rfl) (fun _ => rfl) (fun h21 C21 u21 => ?_)
  refine wp_pure k_80 rfl rfl ?_
  refine wp_kn k_80 rfl rfl ?_
  refine wm_na C21 k_80 rfl rfl rfl rfl rfl rfl (by decide) rfl (by decide) rfl (fun _ => rfl) (fun _ => rfl) (fun h22 C22 u22 => ?_)
  refine wp_pure k_80 rfl rfl ?_
  refine wp_kn k_80 rfl rfl ?_
  refine wm_na C22 k_80 rfl rfl rfl rfl rfl rfl (by decide) rfl (by decide) rfl (fun _ => rfl) (fun _ => rfl) (fun h23 C23 u23 => ?_)
  refine wp_pure k_80 rfl rfl ?_
  refine wp_kn k_80 rfl rfl ?_
  refine wm_na C23 k_80 rfl rfl rfl rfl rfl rfl (by decide) rfl (by decide) rfl (fun _ => rfl) (fun _ => rfl) (fun h24 C24 u24 => ?_)
  refine wp_pure k_80 rfl rfl ?_
  refine wp_kn k_80 rfl rfl ?_
  refine wm_na C24 k_80 rfl rfl rfl rfl rfl rfl (by decide) rfl (by decide) rfl (fun _ => rfl) (fun _ => rfl) (fun h25 C25 u25 => ?_)
  refine wp_pure k_80 rfl rfl ?_
  refine wp_kn k_80 rfl rfl ?_
  refine wm_na C25 k_80 rfl rfl rfl rfl rfl rfl (by decide) rfl (by decide) rfl (fun _ => rfl) (fun _ => rfl) (fun h26 C26 u26 => ?_)
  refine wp_pure k_80 rfl rfl ?_
  refine wp_kn k_80 rfl rfl ?_
  refine wm_na C26 k_80 rfl rfl rfl rfl rfl rfl (by decide) rfl (by decide) rfl (fun _ => rfl) (fun _ => rfl) (fun h27 C27 u27 => ?_)
  refine wp_pure k_80 rfl rfl ?_
  refine wp_kn k_80 rfl rfl ?_
  refine wm_na C27 k_80 rfl rfl rfl rfl rfl rfl (by decide) rfl (by decide) rfl (fun _ => rfl) (fun _ => rfl) (fun h28 C28 u28 => ?_)
  refine wp_pure k_80 rfl rfl ?_
  refine wp_kn k_80 rfl rfl ?_
  refine wm_na C28 k_80 rfl rfl rfl rfl rfl rfl (by decide) rfl (by decide) rfl (fun _ => rfl) (fun _ => rfl) (fun h29 C29 u29 => ?_)
  refine wp_pure k_80 rfl rfl ?_
  refine wp_kn k_80 rfl rfl ?_
  refine wm_na C29 k_80 rfl rfl rfl rfl rfl rfl (by decide) rfl (by decide) rfl (fun _ => rfl) (fun _ => rfl) (fun h30 C30 u30 => ?_)
  refine wp_pure k_80 rfl rfl ?_
  refine wp_kn k_80 rfl rfl ?_
  refine wm_na C30 k_80 rfl rfl rfl rfl rfl rfl (by decide) rfl (by decide) rfl (fun _ => rfl) (fun _ => rfl) (fun h31 C31 u31 => ?_)
  refine wp_pure k_80 rfl rfl ?_
  refine wp_kn k_80 rfl rfl ?_
  refine wm_na C31 k_80 rfl rfl rfl rfl rfl rfl (by decide) rfl (by decide) rfl (fun _ => rfl) (fun _ => rfl) (fun h32 C32 u32 => ?_)
  refine wp_pure k_80 rfl rfl ?_
  refine wp_kn k_80 rfl rfl ?_
  refine wm_na C32 k_80 rfl rfl rfl rfl rfl rfl (by decide) rfl (by decide) rfl (fun _ => rfl) (fun _ => rfl) (fun h33 C33 u33 => ?_)
  refine wp_pure k_80 rfl rfl ?_
  refine wp_kn k_80 rfl rfl ?_
  refine wm_na C33 k_80 rfl rfl rfl rfl rfl rfl (by decide) rfl (by decide) rfl (fun _ => rfl) (fun _ => rfl) (fun h34 C34 u34 => ?_)
  refine wp_pure k_80 rfl rfl ?_
  refine wp_kn k_80 rfl rfl ?_
  refine wm_na C34 k_80 rfl rfl rfl rfl rfl rfl (by decide) rfl (by decide) rfl (fun _ => rfl) (fun _ => rfl) (fun h35 C35 u35 => ?_)
  refine wp_pure k_80 rfl rfl ?_
  refine wp_kn k_80 rfl rfl ?_
  refine wm_na C35 k_80 rfl rfl rfl rfl rfl rfl (by decide) rfl (by decide) rfl (fun _ => rfl) (fun _ => rfl) (fun h36 C36 u36 => ?_)
  refine wp_pure k_80 rfl rfl ?_
  refine wp_kn k_80 rfl rfl ?_
  refine wm_na C36 k_80 rfl rfl rfl rfl rfl rfl (by decide) rfl (by decide) rfl (fun _ => rfl) (fun _ => rfl) (fun h37 C37 u37 => ?_)
  refine wp_pure k_80 rfl rfl ?_
  refine wp_kn k_80 rfl rfl ?_
  refine wm_na C37 k_80 rfl rfl rfl rfl rfl rfl (by decide) rfl (by decide) rfl (fun _ => rfl) (fun _ => rfl) (fun h38 C38 u38 => ?_)
  refine wp_pure k_80 rfl rfl ?_
  refine wp_kn k_80 rfl rfl ?_
  refine wm_na C38 k_80 rfl rfl rfl rfl rfl rfl (by decide) rfl (by decide) rfl (fun _ => rfl) (fun _ => rfl) (fun h39 C39 u39 => ?_)
  refine wp_pure k_80 rfl rfl ?_
  refine wp_kn k_80 rfl rfl ?_
  refine wm_na C39 k_80 rfl rfl rfl rfl rfl rfl (by decide) rfl (by decide) rfl (fun _ => rfl) (fun _ => rfl) (fun h40 C40 u40 => ?_)
  refine wp_vrt k_80 rfl rfl (K _ ⟨C40.1, fun k hk ho => C40.2.2.2.2.1 k hk ho, fun k hk ho => C40.2.2.2.2.2 k hk ho (mo_le k hk), rfl, rfl, rfl, fun a _ => samA.refl _ a⟩ (by have := C40.2.1; omega) (by omega) C40.2.2.1 C40.2.2.2.1)
