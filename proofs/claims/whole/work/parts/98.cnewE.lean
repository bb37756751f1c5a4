theorem BtW.nil : BtW ([], [], []) (fun _ _ => 0) := by
  refine ⟨fun _ _ => Nat.pow_pos (by decide), fun _ => ⟨fun x y => ?_, fun x y => ?_, fun x y => ?_⟩⟩
  · rw [Nat.zero_testBit]
    exact ⟨fun z => (by cases z), fun z => absurd (onB_lt EdW.nil z).1 (Nat.not_lt_zero _)⟩
  · rw [Nat.zero_testBit]
    exact ⟨fun z => (by cases z), fun z => absurd (onB_lt EdW.nil z).1 (Nat.not_lt_zero _)⟩
  · rw [Nat.zero_testBit]
    exact ⟨fun z => (by cases z), fun z => absurd z List.not_mem_nil⟩
/-! an edition, a reader are made -/
theorem newO_t {g : sm_H} {ci n : Nat} {dv : Nat → Value} : hT (newO g ci n dv) = hT g + 1 ∧ hU (newO g ci n dv) = hU g + n ∧ hZ (newO g ci n dv) = hZ g ∧ hC (newO g ci n dv) (hT g) = 16 + ci ∧ (∀ f, hF (newO g ci n dv) f (hT g) = dv f) ∧ ∀ a, a ≠ hT g → samA g (newO g ci n dv) a := ⟨rfl, rfl, rfl, if_pos rfl, fun _ => if_pos rfl, fun _ q => samA.newO q⟩
theorem newA_t {g : sm_H} {t n : Nat} {dv : Value} : hT (newA g t n dv) = hT g + 1 ∧ hU (newA g t n dv) = hU g + n ∧ hZ (newA g t n dv) = hZ g ∧ hC (newA g t n dv) (hT g) = t ∧ hL (newA g t n dv) (hT g) = n ∧ (∀ i, hA (newA g t n dv) (hT g) i = dv) ∧ ∀ a, a ≠ hT g → samA g (newA g t n dv) a := ⟨rfl, rfl, rfl, if_pos rfl, if_pos rfl, fun _ => if_pos rfl, fun _ q => samA.newA q⟩
theorem nlS {g gx hx : sm_H} {ed fid : Nat} {fn : Nat → Nat} (ax : hT gx = hT g + 1 ∧ hU gx = hU g + 3 ∧ hZ gx = hZ g ∧ ∀ a, a ≠ hT g → samA g gx a) (f4 : Fr gx hx (fun b => b = hT g) 0 0) (L : Lst hx (hT g) (hZ hx) 0 fn) (hed : ed < hT g) : hT (putF hx fid ed (.ref (hT g))) = hT g + 1 ∧ hU (putF hx fid ed (.ref (hT g))) = hU g + 3 ∧ hZ (putF hx fid ed (.ref (hT g))) = hZ g ∧ hC (putF hx fid ed (.ref (hT g))) ed = hC g ed ∧ hF (putF hx fid ed (.ref (hT g))) fid ed = .ref (hT g) ∧ (∀ f, f ≠ fid → hF (putF hx fid ed (.ref (hT g))) f ed = hF g f ed) ∧ (∀ a, a < hT g → a ≠ ed → samA g (putF hx fid ed (.ref (hT g))) a) ∧ hC hx (hT g) = 26 ∧ (hF hx 1281 (hT g) = .int (nI 0) ∧ (∃ q, hF hx 1282 (hT g) = .int q) ∧ hF hx 1280 (hT g) = .ref (hZ g)) ∧ hZ hx = hZ g := by
  obtain ⟨a1, a2, a3, a4⟩ := ax
  have s : ∀ a, a < hT g → samA g hx a := fun a ha => (a4 a (by omega)).trans (f4.2.2.2.2.2 a (by omega) (by omega))
  have hz : hZ hx = hZ g := f4.2.2.2.2.1.trans a3
  have t1 := f4.1
  have t2 := f4.2.1
  have u1 := f4.2.2.1
  have u2 := f4.2.2.2.1
  exact ⟨hT_putF.trans (by omega), hU_putF.trans (by omega), hZ_putF.trans hz, hC_putF.trans (s ed hed).1, hF_putF, fun f hf => (hF_putF_f hf).trans ((s ed hed).2.2.1 f), fun a ha hae => (s a ha).trans (samA.putF hae), L.1, ⟨L.2.1, L.2.2.1, by have := L.2.2.2.1; rw [hz] at this; exact this⟩, hz⟩
/-- a list that is empty, with the JDK's own array -/
theorem Lst.mk0 {h : sm_H} {a : Nat} (c : hC h a = 26) (f : hF h 1281 a = .int (nI 0) ∧ (∃ q, hF h 1282 a = .int q) ∧ hF h 1280 a = .ref (hZ h)) (ha : a < hT h) (zz : hC h (hZ h) = 14 ∧ nI (hL h (hZ h)) = 0 ∧ hZ h < hT h) (fn : Nat → Nat) : Lst h a (hZ h) 0 fn := ⟨c, f.1, f.2.1, f.2.2, by decide, ha, zz.2.2, Or.inl ⟨rfl, zz.1, zz.2.1, rfl⟩, fun i hi => absurd hi (Nat.not_lt_zero i)⟩
theorem c_17 {h : sm_H} {Q : Nat → Option Value → sm_H → Prop} (zz : hC h (hZ h) = 14 ∧ nI (hL h (hZ h)) = 0 ∧ hZ h < hT h) (K : ∀ h' pa bt, hT h' = hT h + 2 → hU h' = hU h + 6 → hZ h' = hZ h → (∀ a, a < hT h → samA h h' a) → EdF h' (hT h) (hT h + 1) (hZ h') pa bt ([], [], []) (fun _ => nI 0) → Q 0 none h') : sm_wp 17 0 [.ref (hT h)] [] (newO h 1 3 (fun g => defaultValue (xty 1 (g - 128 * 1)))) Q := by
  obtain ⟨a1, a2, a3, a4, a5, a6⟩ := @newO_t h 1 3 (fun g => defaultValue (xty 1 (g - 128 * 1)))
  generalize newO h 1 3 (fun g => defaultValue (xty 1 (g - 128 * 1))) = g0 at *
  refine wp_pure k_17 rfl rfl ?_
  refine wp_obj k_17 rfl (Nat.le_of_ble_eq_true rfl) ?_
  refine wp_pure k_17 rfl rfl ?_
  refine wp_new k_17 rfl rfl ?_
  show sm_wp 17 8 [.ref (hT h)] [.ref (hT g0), .ref (hT h)] _ Q
  refine wp_pure k_17 rfl rfl ?_
  refine wp_ic k_17 rfl (by decide) [] rfl (r := [.ref (hT g0), .ref (hT h)]) (Nat.le_of_ble_eq_true rfl) (Nat.le_of_ble_eq_true rfl) rfl ?_
  have b0 := @newO_t g0 10 3 (fun g => defaultValue (xty 10 (g - 128 * 10)))
  generalize newO g0 10 3 (fun g => defaultValue (xty 10 (g - 128 * 10))) = y0 at *
  have zz0 : hC y0 (hZ y0) = 14 ∧ nI (hL y0 (hZ y0)) = 0 ∧ hZ y0 < hT y0 := by
    have sz : samA h y0 (hZ h) := (a6 (hZ h) (by omega)).trans (b0.2.2.2.2.2 (hZ h) (by omega))
    have ez : hZ y0 = hZ h := b0.2.2.1.trans a3
    exact ⟨by rw [ez]; exact sz.1.trans zz.1, by rw [ez, sz.2.1]; exact zz.2.1, by omega⟩
  refine c_initL b0.2.2.2.1 ((b0.2.2.2.2.1 _).trans rfl) (by omega) zz0.1 zz0.2.1 zz0.2.2 (fun x0 n0 L0 f0 => ⟨rfl, ?_⟩)
  refine wp_put k_17 rfl ((f0.2.2.2.2.2 _ (by omega) (by omega)).1.trans ((b0.2.2.2.2.2 (hT h) (by omega)).1.trans a4)) rfl rfl ?_
  obtain ⟨t1, u1, e1', c1', r1, q1, s1', d1, l1, v1⟩ := nlS (ed := hT h) (fid := 128) ⟨b0.1, b0.2.1, b0.2.2.1, b0.2.2.2.2.2⟩ f0 L0 (by omega)
  have sl1 : samA x0 (putF x0 128 (hT h) (.ref (hT g0))) (hT g0) := samA.putF (by omega)
  generalize putF x0 128 (hT h) (.ref (hT g0)) = gN at *
  have e1 : hZ gN = hZ h := e1'.trans a3
  have s1 : ∀ a, a < hT h → samA h gN a := fun a ha => (a6 a (by omega)).trans (s1' a (by omega) (by omega))
  have zzN : hC gN (hZ gN) = 14 ∧ nI (hL gN (hZ gN)) = 0 ∧ hZ gN < hT gN := by
    have sz := s1 (hZ h) zz.2.2
    exact ⟨by rw [e1]; exact sz.1.trans zz.1, by rw [e1, sz.2.1]; exact zz.2.1, by omega⟩
  have en : hT g0 = hT h + 1 := a1
  have m1 : Lst gN (hT h + 1) (hZ gN) 0 (fun _ => 0) := by
    rw [← en]
    exact Lst.mk0 (sl1.1.trans d1) ⟨(sl1.2.2.1 _).trans l1.1, l1.2.1.imp (fun q hq => (sl1.2.2.1 _).trans hq), (sl1.2.2.1 _).trans (by rw [l1.2.2, a3, e1])⟩ (by omega) zzN _
  refine wp_vrt k_17 rfl rfl (K gN (fun _ => 0) (fun _ _ => 0) (by omega) (by omega) e1 s1 ⟨⟨c1'.trans a4, by rw [← en]; exact r1, (q1 _ (by decide)).trans ((a5 _).trans rfl), (q1 _ (by decide)).trans ((a5 _).trans rfl)⟩, m1, fun k hk => absurd hk (Nat.not_lt_zero k), BtW.nil⟩)
theorem c_58 {h : sm_H} {Q : Nat → Option Value → sm_H → Prop} {sg ed len : Nat} (zz : hC h (hZ h) = 14 ∧ nI (hL h (hZ h)) = 0 ∧ hZ h < hT h) (k1 : hC h sg = 3) (k2 : hL h sg = 3000) (k3 : sg < hT h) (hl : len ≤ 600) (K : ∀ h' fn, hT h' = hT h + 2 → hU h' = hU h + 9 → hZ h' = hZ h → (∀ a, a < hT h → samA h h' a) → (hC h' (hT h) = 24 ∧ hF h' 1024 (hT h) = .ref sg ∧ hF h' 1025 (hT h) = .int (nI len) ∧ hF h' 1026 (hT h) = .ref ed ∧ hF h' 1027 (hT h) = .ref (hT h + 1) ∧ hF h' 1028 (hT h) = .int (nI 0) ∧ hF h' 1029 (hT h) = .int (-1)) → Lst h' (hT h + 1) (hZ h') 0 fn → Q 0 none h') : sm_wp 58 0 [.ref (hT h), .ref sg, .int (nI len), .ref ed] [] (newO h 8 6 (fun g => defaultValue (xty 8 (g - 128 * 8)))) Q := by
  obtain ⟨a1, a2, a3, a4, a5, a6⟩ := @newO_t h 8 6 (fun g => defaultValue (xty 8 (g - 128 * 8)))
  generalize newO h 8 6 (fun g => defaultValue (xty 8 (g - 128 * 8))) = g0 at *
  have sS := a6 sg (by omega)
  refine wp_pure k_58 rfl rfl ?_
  refine wp_obj k_58 rfl (Nat.le_of_ble_eq_true rfl) ?_
  refine wp_pure k_58 rfl rfl ?_
  refine wp_pure k_58 rfl rfl ?_
  refine wp_put k_58 rfl a4 rfl rfl ?_
  refine wp_pure k_58 rfl rfl ?_
  refine wp_pure k_58 rfl rfl ?_
  refine wp_pure k_58 rfl rfl ?_
  refine wp_len k_58 rfl (by rw [(hC_putF.trans (sS.1.trans k1))]; rfl) (sS.2.1.trans k2) ?_
  refine wp_mm k_58 rfl rfl ?_
  have em : (if nI 3000 < nI len then nI 3000 else nI len) = nI len := if_neg (fun z => by have := (nI_ltI (by decide) (by omega)).mp z; omega)
  show sm_wp 58 16 [.ref (hT h), .ref sg, .int (nI len), .ref ed] [.int (if nI 3000 < nI len then nI 3000 else nI len), .ref (hT h)] (putF g0 1024 (hT h) (.ref sg)) Q
  rw [em]
  refine wp_put k_58 rfl (hC_putF.trans a4) rfl rfl ?_
  refine wp_pure k_58 rfl rfl ?_
  refine wp_pure k_58 rfl rfl ?_
  refine wp_put k_58 rfl (hC_putF.trans (hC_putF.trans a4)) rfl rfl ?_
  refine wp_pure k_58 rfl rfl ?_
  have b : hT (putF (putF (putF g0 1024 (hT h) (.ref sg)) 1025 (hT h) (.int (nI len))) 1026 (hT h) (.ref ed)) = hT h + 1 ∧ hU (putF (putF (putF g0 1024 (hT h) (.ref sg)) 1025 (hT h) (.int (nI len))) 1026 (hT h) (.ref ed)) = hU h + 6 ∧ hZ (putF (putF (putF g0 1024 (hT h) (.ref sg)) 1025 (hT h) (.int (nI len))) 1026 (hT h) (.ref ed)) = hZ h ∧ hC (putF (putF (putF g0 1024 (hT h) (.ref sg)) 1025 (hT h) (.int (nI len))) 1026 (hT h) (.ref ed)) (hT h) = 24 := ⟨a1, a2, a3, a4⟩
  have bf : hF (putF (putF (putF g0 1024 (hT h) (.ref sg)) 1025 (hT h) (.int (nI len))) 1026 (hT h) (.ref ed)) 1024 (hT h) = .ref sg ∧ hF (putF (putF (putF g0 1024 (hT h) (.ref sg)) 1025 (hT h) (.int (nI len))) 1026 (hT h) (.ref ed)) 1025 (hT h) = .int (nI len) ∧ hF (putF (putF (putF g0 1024 (hT h) (.ref sg)) 1025 (hT h) (.int (nI len))) 1026 (hT h) (.ref ed)) 1026 (hT h) = .ref ed ∧ hF (putF (putF (putF g0 1024 (hT h) (.ref sg)) 1025 (hT h) (.int (nI len))) 1026 (hT h) (.ref ed)) 1028 (hT h) = .int (nI 0) := ⟨(hF_putF_f (by decide)).trans ((hF_putF_f (by decide)).trans hF_putF), (hF_putF_f (by decide)).trans hF_putF, hF_putF, (hF_putF_f (by decide)).trans ((hF_putF_f (by decide)).trans ((hF_putF_f (by decide)).trans ((a5 _).trans rfl)))⟩
  have bs : ∀ a, a ≠ hT h → samA h (putF (putF (putF g0 1024 (hT h) (.ref sg)) 1025 (hT h) (.int (nI len))) 1026 (hT h) (.ref ed)) a := fun a q => (a6 a q).trans ((samA.putF q).trans ((samA.putF q).trans (samA.putF q)))
  generalize putF (putF (putF g0 1024 (hT h) (.ref sg)) 1025 (hT h) (.int (nI len))) 1026 (hT h) (.ref ed) = g1 at *
  refine wp_new k_58 rfl rfl ?_
  show sm_wp 58 28 [.ref (hT h), .ref sg, .int (nI len), .ref ed] [.ref (hT g1), .ref (hT h)] _ Q
  refine wp_pure k_58 rfl rfl ?_
  refine wp_ic k_58 rfl (by decide) [] rfl (r := [.ref (hT g1), .ref (hT h)]) (Nat.le_of_ble_eq_true rfl) (Nat.le_of_ble_eq_true rfl) rfl ?_
  have b0 := @newO_t g1 10 3 (fun g => defaultValue (xty 10 (g - 128 * 10)))
  generalize newO g1 10 3 (fun g => defaultValue (xty 10 (g - 128 * 10))) = y0 at *
  have zz0 : hC y0 (hZ y0) = 14 ∧ nI (hL y0 (hZ y0)) = 0 ∧ hZ y0 < hT y0 := by
    have sz : samA h y0 (hZ h) := (bs (hZ h) (by omega)).trans (b0.2.2.2.2.2 (hZ h) (by omega))
    have ez : hZ y0 = hZ h := b0.2.2.1.trans b.2.2.1
    exact ⟨by rw [ez]; exact sz.1.trans zz.1, by rw [ez, sz.2.1]; exact zz.2.1, by omega⟩
  refine c_initL b0.2.2.2.1 ((b0.2.2.2.2.1 _).trans rfl) (by omega) zz0.1 zz0.2.1 zz0.2.2 (fun x0 n0 L0 f0 => ⟨rfl, ?_⟩)
  refine wp_put k_58 rfl ((f0.2.2.2.2.2 _ (by omega) (by omega)).1.trans ((b0.2.2.2.2.2 (hT h) (by omega)).1.trans b.2.2.2)) rfl rfl ?_
  obtain ⟨t1, u1, e1', c1', r1, q1, s1', d1, l1, v1⟩ := nlS (ed := hT h) (fid := 1027) ⟨b0.1, b0.2.1, b0.2.2.1, b0.2.2.2.2.2⟩ f0 L0 (by omega)
  have sl1 : samA x0 (putF x0 1027 (hT h) (.ref (hT g1))) (hT g1) := samA.putF (by omega)
  generalize putF x0 1027 (hT h) (.ref (hT g1)) = gN at *
  refine wp_pure k_58 rfl rfl ?_
  refine wp_km k_58 rfl rfl ?_
  refine wp_put k_58 rfl (c1'.trans b.2.2.2) rfl rfl ?_
  have e1 : hZ gN = hZ h := e1'.trans b.2.2.1
  have s1 : ∀ a, a < hT h → samA h gN a := fun a ha => (bs a (by omega)).trans (s1' a (by omega) (by omega))
  have zzN : hC gN (hZ gN) = 14 ∧ nI (hL gN (hZ gN)) = 0 ∧ hZ gN < hT gN := by
    have sz := s1 (hZ h) zz.2.2
    exact ⟨by rw [e1]; exact sz.1.trans zz.1, by rw [e1, sz.2.1]; exact zz.2.1, by omega⟩
  have en : hT g1 = hT h + 1 := b.1
  have m1 : Lst gN (hT h + 1) (hZ gN) 0 (fun _ => 0) := by
    rw [← en]
    exact Lst.mk0 (sl1.1.trans d1) ⟨(sl1.2.2.1 _).trans l1.1, l1.2.1.imp (fun q hq => (sl1.2.2.1 _).trans hq), (sl1.2.2.1 _).trans (by rw [l1.2.2, b.2.2.1, e1])⟩ (by omega) zzN _
  have hne : hT h ≠ hT h + 1 := by omega
  have sP : ∀ a, a ≠ hT h → samA gN (putF gN 1029 (hT h) (.int (-1))) a := fun a q => samA.putF q
  refine wp_vrt k_58 rfl rfl (K _ (fun _ => 0) (hT_putF.trans (by omega)) (hU_putF.trans (by omega)) (hZ_putF.trans e1) (fun a ha => (s1 a ha).trans (sP a (by omega))) ⟨hC_putF.trans (c1'.trans b.2.2.2), (hF_putF_f (by decide)).trans ((q1 _ (by decide)).trans bf.1), (hF_putF_f (by decide)).trans ((q1 _ (by decide)).trans bf.2.1), (hF_putF_f (by decide)).trans ((q1 _ (by decide)).trans bf.2.2.1), by rw [← en]; exact (hF_putF_f (by decide)).trans r1, (hF_putF_f (by decide)).trans ((q1 _ (by decide)).trans bf.2.2.2), hF_putF⟩ ?_)
  rw [hZ_putF]
  exact m1.same (sP _ (Ne.symm hne)) (sP _ (fun z => by have := zz.2.2; omega)) (fun i hi => absurd hi (Nat.not_lt_zero i)) hZ_putF (Nat.le_of_eq hT_putF.symm)
