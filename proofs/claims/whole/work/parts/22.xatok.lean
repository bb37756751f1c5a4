theorem xlk_mem {t : List (List (Nat × Nat × Nat))} {o x : Nat} {d : Nat × Nat} (h : xlk t o x = some d) : ∃ l, t[o]? = some l ∧ (x, d) ∈ l := by
  unfold xlk at h
  cases hf : (t.getD o []).find? (fun e => e.1 == x) with
  | none => rw [hf] at h; cases h
  | some e =>
    rw [hf] at h
    have hd : e.2 = d := Option.some.inj h
    have hm := List.mem_of_find?_eq_some hf
    have he : e.1 = x := by
      have := List.find?_some hf
      exact beq_iff_eq.mp this
    rw [List.getD_eq_getElem?_getD] at hm
    cases ht : t[o]? with
    | none => rw [ht] at hm; cases hm
    | some l =>
      rw [ht] at hm
      refine ⟨l, rfl, ?_⟩
      have hm : e ∈ l := hm
      rw [← hd, ← he]
      exact hm
theorem xif_some {c : Bool} {a : Option (Nat × Nat)} {d : Nat × Nat} (h : xif c a = some d) : c = true ∧ a = some d := by
  unfold xif at h
  split at h
  · rename_i hc; exact ⟨hc, h⟩
  · cases h
theorem xtg_some {pc : Nat} {o : Int} {d : Nat × Nat} (h : xtg pc o = some d) : (pc : Int) + o = (d.1 : Int) := by
  unfold xtg at h
  split at h
  · rename_i hc; cases h; exact hc
  · cases h
theorem xroom_ok {j k : Nat} (h : xroom j k = true) : xrk k + 1 ≤ xrk j ∧ 8 + (xml k + 11) + xrl k ≤ xrl j := by
  unfold xroom at h
  rw [Bool.and_eq_true, decide_eq_true_eq, decide_eq_true_eq] at h
  exact h
theorem xF {j x : Nat} {d : Nat × Nat} (h : xlk xlF (xow j) x = some d) : sm_fok Tg NW (xmn j).cls x d.1 (d.2 / 2) (d.2 % 2) := by
  obtain ⟨l, h1, h2⟩ := xlk_mem h
  exact xlF_ok _ l h1 _ h2
theorem xM1 {j x : Nat} {d : Nat × Nat} (h : xlk xlM (xow j) x = some d) : sm_lm (xmn j).cls (x, d) := by
  obtain ⟨l, h1, h2⟩ := xlk_mem h
  exact xlM_ok _ l h1 _ h2
theorem xmf {k : Nat} {n : Nat} (h : xkd k = n) (hn : n ≠ 9) : sm_mf k := xm_ok k (xkd_lt (by rw [h]; exact hn))
theorem xac_ok (t : ArrayType) (h : sm_nt t ≠ 0) : Cond.arrayClass (newarray.typeOf t) ∈ Tg := by
  cases t with
  | int => exact tg 1048 (by decide +kernel) (by decide +kernel)
  | long => exact tg 1302 (by decide +kernel) (by decide +kernel)
  | char => exact tg 60 (by decide +kernel) (by decide +kernel)
  | byte => exact tg 365 (by decide +kernel) (by decide +kernel)
  | boolean => exact tg 1049 (by decide +kernel) (by decide +kernel)
  | _ => exact absurd rfl h
theorem xrs_ok {j pc : Nat} {i : Instr} {d : Nat × Nat} (h : xrs j pc i = some d) : sm_kok i d ∧ sm_tok i d pc ∧ sm_hok Tg NW (xmn j).cls (xmn j).name i d ∧ sm_cok Tg NW (xmn j).cls j i d := by
  cases i with
  | iconst n => obtain ⟨h1, h2⟩ := xif_some h; cases h2; exact ⟨(decide_eq_true_eq.mp h1 : Int32.ofInt n = sm_k (sm_kd n)), trivial, trivial, trivial⟩
  | bipush n => obtain ⟨h1, h2⟩ := xif_some h; cases h2; exact ⟨(decide_eq_true_eq.mp h1 : (Int8.ofInt n).toInt32 = sm_k (sm_kd n)), trivial, trivial, trivial⟩
  | sipush n => obtain ⟨h1, h2⟩ := xif_some h; cases h2; exact ⟨(decide_eq_true_eq.mp h1 : (Int16.ofInt n).toInt32 = sm_k (sm_kd n)), trivial, trivial, trivial⟩
  | iinc z n => obtain ⟨h1, h2⟩ := xif_some h; cases h2; exact ⟨(decide_eq_true_eq.mp h1 : Int32.ofInt n = sm_k (sm_kd n)), trivial, trivial, trivial⟩
  | goto o => exact ⟨trivial, xtg_some h, trivial, trivial⟩
  | if_icmp c o => exact ⟨trivial, xtg_some h, trivial, trivial⟩
  | ifCond c o => exact ⟨trivial, xtg_some h, trivial, trivial⟩
  | ifnull o => exact ⟨trivial, xtg_some h, trivial, trivial⟩
  | ifnonnull o => exact ⟨trivial, xtg_some h, trivial, trivial⟩
  | if_acmp c o => exact ⟨trivial, xtg_some h, trivial, trivial⟩
  | getfield x => exact ⟨trivial, trivial, xF h, trivial⟩
  | putfield x =>
    replace h : (match xlk xlF (xow j) x with
      | some d => xif (!(xfin d.1 (d.2 / 2)) || (decide (xkd j = 2) && decide (d.2 % 2 = 0) && decide (d.1 = xow j))) (some d)
      | none => none) = some d := h
    split at h
    · rename_i d' hd
      obtain ⟨h1, h2⟩ := xif_some h
      cases h2
      have hf := xF hd
      refine ⟨trivial, trivial, ⟨hf, ?_⟩, trivial⟩
      obtain ⟨q, ref, hq, hk, -⟩ := hf
      refine ⟨q, hq, ?_⟩
      cases hb : (q.2.1 (d.2 / 2)).2.2.2 with
      | false => exact Or.inl rfl
      | true =>
        have hx : xfin d.1 (d.2 / 2) = true := by unfold xfin; rw [hq]; exact hb
        rw [hx] at h1
        simp only [Bool.not_true, Bool.false_or, Bool.and_eq_true, decide_eq_true_eq] at h1
        obtain ⟨⟨k1, k2⟩, k3⟩ := h1
        refine Or.inr ⟨rfl, k2, ((xmf k1 (by decide)).2.2.2 k1).2.1, ?_⟩
        rw [xdecl_ok d.1 q hq _ hk hb, k3]
        rfl
    · cases h
  | new x =>
    replace h : (match xlk xlC (xow j) x with
      | some d => xif (decide (d.2 = 0) || (xtf j pc).isSome) (some d)
      | none => none) = some d := h
    split at h
    · rename_i d' hd
      obtain ⟨-, h9⟩ := xif_some h
      cases h9
      obtain ⟨l, h1, h2⟩ := xlk_mem hd
      obtain ⟨q, k1, k2, k3⟩ := xlC_ok _ l h1 _ h2
      exact ⟨trivial, trivial, fun hz => ⟨q, k1, k2, k3 hz⟩, trivial⟩
    · cases h
  | checkcast x =>
    obtain ⟨l, h1, h2⟩ := xlk_mem h
    obtain ⟨q, k1, k2, k3⟩ := xlC_ok _ l h1 _ h2
    exact ⟨trivial, trivial, ⟨q, k1, k2⟩, trivial⟩
  | anewarray x =>
    obtain ⟨l, h1, h2⟩ := xlk_mem h
    exact ⟨trivial, trivial, ⟨xlA_ok _ l h1 _ h2, xao⟩, trivial⟩
  | newarray t => obtain ⟨h1, h2⟩ := xif_some h; cases h2; exact ⟨trivial, trivial, xac_ok t (decide_eq_true_eq.mp h1), trivial⟩
  | aastore => exact ⟨trivial, trivial, fun ci q hc hq => xcast_ok ci q hc hq, trivial⟩
  | ldc x =>
    obtain ⟨l, h1, h2⟩ := xlk_mem h
    exact ⟨trivial, trivial, xlN_ok _ l h1 _ h2, trivial⟩
  | ldc2_w x =>
    obtain ⟨l, h1, h2⟩ := xlk_mem h
    exact ⟨trivial, trivial, xlJ_ok _ l h1 _ h2, trivial⟩
  | getstatic x =>
    obtain ⟨l, h1, h2⟩ := xlk_mem h
    exact ⟨trivial, trivial, xlS_ok _ l h1 _ h2, trivial⟩
  | invokevirtual x =>
    replace h : (match xlk xlM (xow j) x with
      | some d => xif (decide (d.2 < 2) && decide (xkd d.1 = 0) && xroom j d.1) (some d)
      | none => none) = some d := h
    split at h
    · rename_i d' hd
      obtain ⟨h1, h2⟩ := xif_some h
      cases h2
      simp only [Bool.and_eq_true, decide_eq_true_eq] at h1
      obtain ⟨⟨k1, k2⟩, k3⟩ := h1
      have hm := xmf k2 (by decide)
      obtain ⟨m1, m2, m3⟩ := hm.2.1 k2
      exact ⟨trivial, trivial, trivial, xroom_ok k3, hm.1 (by omega), m1, m2, m3, (xM1 hd).2.1 k1⟩
    · cases h
  | invokestatic x =>
    replace h : (match xlk xlM (xow j) x with
      | some d => xif ((decide (d.2 < 2) && decide (xkd d.1 = 1) && xroom j d.1) || (decide (d.2 = 3) && decide (xkd d.1 = 4) && xroom j d.1) || ((decide (d.2 = 4) || decide (d.2 = 5)) && decide (1 ≤ xrk j) && decide (21 ≤ xrl j)) || (decide (d.2 = 6) && decide (3 ≤ xrk j) && decide (85 ≤ xrl j))) (some d)
      | none => none) = some d := h
    split at h
    · rename_i d' hd
      obtain ⟨h1, h2⟩ := xif_some h
      cases h2
      simp only [Bool.or_eq_true, Bool.and_eq_true, decide_eq_true_eq] at h1
      have hl := xM1 hd
      refine ⟨trivial, trivial, trivial, fun hz => ?_, fun hz => ?_, fun hz => ⟨hl.2.2.1 hz, xmath.2.1⟩, fun hz => ⟨hl.2.2.2.1 hz, xmath.2.2⟩, fun hz => ?_⟩
      · rcases h1 with ((⟨⟨k1, k2⟩, k3⟩ | ⟨⟨k1, -⟩, -⟩) | ⟨⟨k1, -⟩, -⟩) | ⟨⟨k1, -⟩, -⟩
        · have hm := xmf k2 (by decide)
          exact ⟨xroom_ok k3, hm.1 (by omega), hm.2.2.1 k2, hl.2.1 k1⟩
        · omega
        · omega
        · omega
      · rcases h1 with ((⟨⟨k1, -⟩, -⟩ | ⟨⟨k1, -⟩, -⟩) | ⟨⟨-, k2⟩, k3⟩) | ⟨⟨k1, -⟩, -⟩
        · omega
        · omega
        · exact ⟨⟨k2, k3⟩, xmath.1⟩
        · omega
      · rcases h1 with ((⟨⟨k1, -⟩, -⟩ | ⟨⟨k1, -⟩, -⟩) | ⟨⟨k1, -⟩, -⟩) | ⟨⟨-, k2⟩, k3⟩
        · omega
        · omega
        · omega
        · exact ⟨⟨k2, k3⟩, hl.2.2.2.2.1 hz⟩
    · cases h
  | invokespecial x =>
    replace h : (match xlk xlM (xow j) x with
      | some d => xif ((decide (d.2 = 2) && decide (1 ≤ xrk j) && decide (20 ≤ xrl j)) || (decide (d.2 < 2) && decide (xkd d.1 = 2) && xroom j d.1)) (some d)
      | none => none) = some d := h
    split at h
    · rename_i d' hd
      obtain ⟨h1, h2⟩ := xif_some h
      cases h2
      simp only [Bool.or_eq_true, Bool.and_eq_true, decide_eq_true_eq] at h1
      have hl := xM1 hd
      refine ⟨trivial, trivial, trivial, fun hz => ?_, fun hz => ?_⟩
      · rcases h1 with ⟨⟨-, k2⟩, k3⟩ | ⟨⟨k1, -⟩, -⟩
        · exact ⟨⟨k2, k3⟩, hl.1 hz, xoi⟩
        · omega
      · rcases h1 with ⟨⟨k1, -⟩, -⟩ | ⟨⟨k1, k2⟩, k3⟩
        · exact absurd k1 hz
        · have hm := xmf k2 (by decide)
          obtain ⟨m1, m2, m3⟩ := hm.2.2.2 k2
          exact ⟨xroom_ok k3, hm.1 (by omega), m2, m3, m1, hl.2.1 k1⟩
    · cases h
  | _ => exact ⟨trivial, trivial, trivial, trivial⟩
theorem xnw_ok : ∀ w ∈ NW, sm_nwk w := by
  intro w hw
  have h := (List.mem_filter.mp hw).2
  unfold sm_isnw at h
  split at h
  · exact ⟨fun u U e => va_Nw.same rfl e, fun s U e => va_Nw.warmF e⟩
  · exact ⟨fun u U e => va_Nw.same rfl e, fun s U e => va_Nw.warmM e⟩
  · exact ⟨fun u U e => va_Nw.same rfl e, fun s U e => va_Nw.warmC e⟩
  · exact ⟨fun u U e => va_Nw.same rfl e, fun s U e z => va_tabs rfl (rfl : (s.setVm U.vm).vm = U.vm) (by rw [Cond.declares_setVm e.alike]; exact z)⟩
  · exact ⟨fun u U e z => va_AO.moved (by rw [e]; exact Vm.Alike.refl _) z, fun s U e z => va_AO.moved e.alike z⟩
  · cases h
/-- ALL THAT IS SAID OF THE TABLES -/
theorem xst : sm_st Tg NW := by
  refine ⟨xcls_ok, fun w hw => good_of_word (List.mem_filter.mp hw).2, xnw_ok, fun j pc i d h => ?_⟩
  unfold xat at h
  split at h
  · rename_i i' len hd
    split at h
    · rename_i hcnd
      split at h
      · rename_i d' hx
        cases h
        exact ⟨⟨len, hd, fun hs => hcnd.elim (fun q => by rw [hs] at q; cases q) id⟩, xrs_ok hx⟩
      · cases h
    · cases h
  · cases h
