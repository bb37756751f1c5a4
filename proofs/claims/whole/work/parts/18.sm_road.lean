theorem sm_goodOf {Tg ws : List Cond} (hg : ∀ w ∈ Tg, sm_good w) (h : ∀ w ∈ ws, w ∈ Tg) : GoodIn Tg ws := fun w hw => ⟨h w hw, hg w (h w hw)⟩
theorem sm_inX {Tg : List Cond} {j : Nat} (hc : Cond.code (xmn j) (xcc j) (xml j) (xrt j) ∈ Tg) : ∀ w ∈ xws Tg j, w ∈ Tg := by
  intro w hw
  rcases List.mem_cons.mp hw with h | h
  · rw [h]; exact hc
  · exact h
theorem sm_inV {Tg : List Cond} {own : String} {x j : Nat} (hm : sm_mok Tg j) (h1 : Cond.methodLink own x (xmn j) ∈ Tg) (h2 : Cond.instanceMethod (xmn j) ∈ Tg) (h3 : Cond.selects (xmn j).cls (xmn j) (xmn j) ∈ Tg) : ∀ w ∈ wsV own x (xmn j).cls (xmn j) (xws Tg j), w ∈ Tg := by
  intro w hw
  unfold wsV at hw
  rcases List.mem_append.mp hw with h | h
  · rcases List.mem_cons.mp h with h | h
    · rw [h]; exact h1
    · rcases List.mem_cons.mp h with h | h
      · rw [h]; exact h2
      · rcases List.mem_cons.mp h with h | h
        · rw [h]; exact h3
        · rw [List.mem_singleton.mp h]; exact hm.2.2.2.2.2.1
  · exact sm_inX hm.1 w h
theorem sm_inS {Tg : List Cond} {own : String} {x j : Nat} (hm : sm_mok Tg j) (h1 : Cond.methodLink own x (xmn j) ∈ Tg) (h2 : Cond.static (xmn j) ∈ Tg) : ∀ w ∈ va_wsS own x (xmn j) (xws Tg j), w ∈ Tg := by
  intro w hw
  unfold va_wsS at hw
  rcases List.mem_append.mp hw with h | h
  · rcases List.mem_cons.mp h with h | h
    · rw [h]; exact h1
    · rcases List.mem_cons.mp h with h | h
      · rw [h]; exact h2
      · rw [List.mem_singleton.mp h]; exact hm.2.2.2.2.2.1
  · exact sm_inX hm.1 w h
set_option maxHeartbeats 4000000 in
theorem sm_road {l : Launch} {Tg NW : List Cond} {D : va_G} {base : Nat} (hst : sm_st Tg NW) (hcp : sm_copy l Tg NW D base) (hth : sm_throws l Tg NW D base) (hct : sm_catches l Tg NW D base) (hhp : sm_helps l Tg NW D base) : ∀ n, sm_Road l Tg NW D base n
  | 0 => by
    intro j pc L S h k v h' r
    cases r
  | n + 1 => by
    have ih := sm_road hst hcp hth hct hhp n
    intro j pc L S h kk v h' r p e s m args below meth c H locs cells slots mc ms ls hin hl hR hf hb0 hmc hms
    obtain ⟨hexec, hb, hml, hret, hlocks, hmn, hown, hts, hnw, hK, hX, hZz, hexT⟩ := id hin
    unfold sm_run at r
    split at r
    · cases r
    · rename_i i d hx
      obtain ⟨⟨len, hdg, hlen⟩, hk, ht, hh, hc⟩ := hst.2.2.2 j pc i d hx
      split at r
      · rename_i ci hx1
        cases r
        obtain ⟨x, rfl, hd, hS0⟩ : ∃ x, i = .new x ∧ d = (ci, 1) ∧ S = [] := by
          unfold sm_th at hx1
          split at hx1
          · split at hx1
            · rename_i q
              split at hx1
              · cases hx1
                exact ⟨_, rfl, by rw [← q], rfl⟩
              · cases hx1
            · cases hx1
          · cases hx1
        subst hd
        subst hS0
        have w1 : hT (thH h ci) = hT h + 1 := rfl
        have w2 : hU (thH h ci) = hU h + 6 := rfl
        exact hth j x pc ci mc ms h p e s m args below meth c H locs cells slots ls hin hl.2.1 hR hf hb0 hx (by omega) (by omega)
      split at r
      · rename_i L' S' hp
        have hsw : sm_isw i = false := by cases i <;> first | rfl | cases hp
        rw [hlen hsw] at hdg
        exact sm_pure hexec hb hdg hk hl hp (fun ls' hl' => ih j _ L' S' h kk v h' r p e s m args below meth c H locs cells slots mc ms ls' hin hl' hR hf hb0 hmc hms)
      · split at r
        · rename_i C t f S' hbr
          have hsw : sm_isw i = false := by cases i <;> first | rfl | cases hbr
          rw [hlen hsw] at hdg
          refine sm_branch hexec hb hdg ht hbr (fun hC => ?_) (fun hC => ?_)
          · rw [if_pos hC] at r
            exact ih j _ L S' h kk v h' r p e s m args below meth c H locs cells slots mc ms ls hin hl hR hf hb0 hmc hms
          · rw [if_neg hC] at r
            exact ih j _ L S' h kk v h' r p e s m args below meth c H locs cells slots mc ms ls hin hl hR hf hb0 hmc hms
        · split at r
          · rename_i t S' hs
            exact sm_switch hexec hb hdg hs (ih j _ L S' h kk v h' r p e s m args below meth c H locs cells slots mc ms ls hin hl hR hf hb0 hmc hms)
          · split at r
            · rename_i S' h1 hh1
              have hsw : sm_isw i = false := by cases i <;> first | rfl | cases hh1
              rw [hlen hsw] at hdg
              have m1 := sm_hp_mono hh1
              have m2 := sm_mono _ _ _ _ _ _ _ _ _ r
              have q1 : cells + (hT h1 - hT h) ≤ mc := by omega
              have q2 : slots + (hU h1 - hU h) ≤ ms := by omega
              exact sm_heap hexec hb hts hnw hst.1 hown hK hR hdg (by rw [hmn]; exact hh) hh1 hf hb0 q1 q2 (fun H' locs' r1 r2 => ih j _ L S' h1 kk v h' r p e s m args below meth c H' locs' _ _ mc ms ls hin hl r1 r2 (Nat.le_trans hb0 m1.1) (by omega) (by omega))
            · split at r
              · rename_i v1 hrt
                cases r
                have hsw : sm_isw i = false := by cases i <;> first | rfl | cases hrt
                rw [hlen hsw] at hdg
                have e1 : cells = mc := by omega
                have e2 : slots = ms := by omega
                subst e1
                subst e2
                refine sm_Wm (fun t ht => ?_) (sm_return (Qc := sm_Qc D base v h) (free := fun q => base ≤ q) hexec hb hdg hret hrt hlocks (fun t ht hW => ⟨rfl, by rw [ht]; exact hR.moved hW.alike⟩) hf)
                obtain ⟨o, g1, g2, g3, L9, g4, g5⟩ := ht
                exact ⟨o, g1, g2, g3, L9, ⟨g4.2.1, g4.2.2⟩, g5⟩
              · split at r
                · rename_i r1 ho
                  unfold sm_oi at ho
                  split at ho
                  · split at ho
                    · rename_i x a r2 hq
                      cases ho
                      obtain ⟨c1, c2, c3, c4⟩ := hc.1 hq.1
                      rw [hlen rfl] at hdg
                      refine W.objInit hexec hb hown (hts _ c2) (hts _ c3) (hts _ c4) rfl (by rw [hml]; exact hl.2.1) rfl hdg c1.1 (Nat.le_trans (Nat.add_le_add_right (lv_room hq.2) 12) c1.2) ?_
                      exact ih j _ L r1 h kk v h' r p e s m args below meth c H locs cells slots mc ms ls hin hl hR hf hb0 hmc hms
                    · cases ho
                  · cases ho
                · split at r
                  · rename_i r1 ho
                    unfold sm_mm at ho
                    split at ho
                    · split at ho
                      · rename_i x y z r2 hsum
                        rw [hlen rfl] at hdg
                        have m2 := sm_mono _ _ _ _ _ _ _ _ _ r
                        split at ho
                        · rename_i hd
                          cases ho
                          obtain ⟨-, c0, c4, -, -⟩ := hc
                          refine va_mmax hexec hb (hml.trans hl.2.1.symm) hown (hts _ (c4 hd).1) (hts _ (c4 hd).2.1) (hts _ (c0 (Or.inl hd)).2) (hts _ (c4 hd).2.2) (c0 (Or.inl hd)).1.1 (Nat.le_trans (Nat.add_le_add_right hsum 13) (c0 (Or.inl hd)).1.2) (by show cells ≤ mc; omega) (by show slots ≤ ms; omega) hdg ?_
                          exact ih j _ L _ h kk v h' r p e s m args below meth c H locs cells slots mc ms ls hin hl hR hf hb0 hmc hms
                        · split at ho
                          · rename_i hd
                            cases ho
                            obtain ⟨-, c0, -, c5, -⟩ := hc
                            refine va_mmin hexec hb (hml.trans hl.2.1.symm) hown (hts _ (c5 hd).1) (hts _ (c5 hd).2.1) (hts _ (c0 (Or.inr hd)).2) (hts _ (c5 hd).2.2) (c0 (Or.inr hd)).1.1 (Nat.le_trans (Nat.add_le_add_right hsum 13) (c0 (Or.inr hd)).1.2) (by show cells ≤ mc; omega) (by show slots ≤ ms; omega) hdg ?_
                            exact ih j _ L _ h kk v h' r p e s m args below meth c H locs cells slots mc ms ls hin hl hR hf hb0 hmc hms
                          · cases ho
                      · cases ho
                    · cases ho
                  · split at r
                    · rename_i S' h1 hx1
                      have m2 := sm_mono _ _ _ _ _ _ _ _ _ r
                      obtain ⟨x, n1, a, r2, rfl, rfl, hq, rfl, rfl⟩ := sm_ex_some hx1
                      rw [hlen rfl] at hdg
                      have w1 : hT (cpA h a n1.toNatClampNeg) = hT h + 1 := rfl
                      have w2 : hU (cpA h a n1.toNatClampNeg) = hU h + n1.toNatClampNeg := rfl
                      exact hcp j x pc mc ms a n1 r2 h p e s m args below meth c H locs cells slots ls _ hin hl.2.1 hR hf hb0 (hc.2.2.2.2 hq.1).1 (hc.2.2.2.2 hq.1).2 hdg hq.2.1 hq.2.2.1 hq.2.2.2.1 hq.2.2.2.2.1 hq.2.2.2.2.2.1 hq.2.2.2.2.2.2 (by omega) (by omega)
                        (fun H' locs' r1 r2 => ih j _ L _ _ kk v h' r p e s m args below meth c H' locs' _ _ mc ms ls hin hl r1 r2 (by omega) (by omega) (by omega))
                    · split at r
                      · rename_i j' As r1 hcl
                        split at r
                        · rename_i v1 h1 hrun
                          have m1 := sm_mono _ _ _ _ _ _ _ _ _ hrun
                          have m2 := sm_mono _ _ _ _ _ _ _ _ _ r
                          have q1 : cells + (hT h1 - hT h) ≤ mc := by omega
                          have q2 : slots + (hU h1 - hU h) ≤ ms := by omega
                          have go : ∀ (H' : Heap) (locs' : List Loc), sm_R D base s h1 H' → (∀ q ∈ locs', base ≤ q.base) → W p l e (sm_rm j mc ms) s m args below meth c H' locs' (cells + (hT h1 - hT h)) (slots + (hU h1 - hU h)) (sm_MQ D base below kk v h' s mc ms) (F0 m (pc + 3) ls (v1.toList ++ r1)) :=
                            fun H' locs' s1 s2 => ih j _ L _ h1 kk v h' r p e s m args below meth c H' locs' _ _ mc ms ls hin hl s1 s2 (Nat.le_trans hb0 m1.1) (by omega) (by omega)
                          unfold sm_cl at hcl
                          split at hcl
                          · rename_i x
                            split at hcl
                            · rename_i hq
                              cases hcl
                              rw [hlen rfl] at hdg
                              by_cases h3 : d.2 = 3
                              · obtain ⟨z, zz⟩ := d
                                cases h3
                                exact hhp n ih j z pc _ z mc ms S _ _ v1 h h1 p e s m args below meth c H locs cells slots ls _ hin hl.2.1 hR hf hb0 hx (by unfold sm_cl; dsimp only; rw [if_pos hq]) hrun q1 q2 go
                              obtain ⟨c1, cm, c2, c3⟩ := hc.1 (by omega)
                              have hM := sm_met hst ih cm hq.2.2.2 hb0 hrun
                              have hrm : xrk d.1 + 1 ≤ xrk j ∧ 8 + (xml d.1 + 11) + xrl d.1 ≤ xrl j := c1
                              have hn : (S.take (xna d.1)).reverse.length = xna d.1 := by rw [List.length_reverse, List.length_take]; omega
                              have hsk : S = (S.take (xna d.1)).reverse.reverse ++ S.drop (xna d.1) := by rw [List.reverse_reverse, List.take_append_drop]
                              rcases c3 with c3 | ⟨host, c3⟩
                              · exact sm_back (va_runS ⟨hexec, hb, hml, hown, hts⟩ hM (va_cwS (xna d.1) hts (sm_goodOf hst.2.1 (sm_inS cm c3 c2)) rfl rfl rfl ⟨cm.2.2.1, cm.2.2.2.1, cm.2.2.2.2.1⟩ hrm) ⟨sm_Pc_blind hst.2.2.1, sm_Pc_at hst.2.2.1 hR hK hnw hX⟩ rfl hn hl.2.1 hsk (lv_room hq.2.2.1) hdg ⟨q1, q2⟩) hf go
                              · exact sm_back (va_runSN ⟨hexec, hb, hml, hown, hts⟩ hM ⟨va_cnB (xna d.1) hts (sm_goodOf hst.2.1 (sm_inX cm.1)) rfl rfl rfl (hnw _ c3) (hts _ cm.2.2.2.2.2.1) ⟨cm.2.2.1, cm.2.2.2.1, cm.2.2.2.2.1⟩ hrm, hts _ c2, trivial⟩ ⟨sm_Pc_blind hst.2.2.1, sm_Pc_at hst.2.2.1 hR hK hnw hX⟩ rfl hn hl.2.1 hsk (lv_room hq.2.2.1) hdg ⟨q1, q2⟩) hf go
                            · cases hcl
                          · rename_i x
                            split at hcl
                            · rename_i b r2 hdrop
                              split at hcl
                              · rename_i hq
                                cases hcl
                                rw [hlen rfl] at hdg
                                obtain ⟨c1, cm, c2, c3, ⟨q, hq1, hq2⟩, c4⟩ := hc
                                have hM := sm_met hst ih cm hq.2.2.2 hb0 hrun
                                have hrm : xrk d.1 + 1 ≤ xrk j ∧ 8 + (xml d.1 + 11) + xrl d.1 ≤ xrl j := c1
                                have hn : (S.take (xna d.1)).reverse.length = xna d.1 := by rw [List.length_reverse, List.length_take]; omega
                                have hsk : S = (S.take (xna d.1)).reverse.reverse ++ .ref b :: r1 := by rw [List.reverse_reverse, ← hdrop, List.take_append_drop]
                                have hrecv : ∃ cellB : Cell, H[b]? = some cellB ∧ cellB.vm.isStatics = false ∧ s.vm.findClass (xmn d.1).cls = some cellB.cls := by
                                  obtain ⟨cell, k1, k2, k3, k4⟩ := hR.2.2.1 b _ q hq.2.1 hq1
                                  exact ⟨cell, k1, by rw [k3]; rfl, by rw [k2, ← hq2]; exact (hK.1 _ q hq1).2.1⟩
                                rcases c4 with c4 | ⟨host, c4⟩
                                · exact sm_back (va_runV ⟨hexec, hb, hml, hown, hts⟩ hM (cwV (xna d.1) hts (sm_goodOf hst.2.1 (sm_inV cm c4 c2 c3)) rfl rfl rfl ⟨rfl, cm.2.2.1, cm.2.2.2.1, cm.2.2.2.2.1⟩ hrm) ⟨sm_Pc_blind hst.2.2.1, hrecv, sm_Pc_at hst.2.2.1 hR hK hnw hX⟩ rfl hn hl.2.1 hsk (lv_room hq.2.2.1) hdg ⟨q1, q2⟩) hf go
                                · exact sm_back (va_runVN ⟨hexec, hb, hml, hown, hts⟩ hM ⟨va_cnB (xna d.1) hts (sm_goodOf hst.2.1 (sm_inX cm.1)) rfl rfl rfl (hnw _ c4) (hts _ cm.2.2.2.2.2.1) ⟨cm.2.2.1, cm.2.2.2.1, cm.2.2.2.2.1⟩ hrm, hts _ c2, hts _ c3⟩ ⟨sm_Pc_blind hst.2.2.1, hrecv, sm_Pc_at hst.2.2.1 hR hK hnw hX⟩ rfl hn hl.2.1 hsk (lv_room hq.2.2.1) hdg ⟨q1, q2⟩) hf go
                              · cases hcl
                            · cases hcl
                          · rename_i x
                            split at hcl
                            · cases hcl
                            · rename_i hd2
                              split at hcl
                              · rename_i b r2 hdrop
                                split at hcl
                                · rename_i hq
                                  cases hcl
                                  rw [hlen rfl] at hdg
                                  obtain ⟨c1, cm, cn, cr, c2, c4⟩ := hc.2 hd2
                                  have hM := sm_met hst ih cm hq.2.2 hb0 hrun
                                  have hrm : xrk d.1 + 1 ≤ xrk j ∧ 8 + (xml d.1 + 11) + xrl d.1 ≤ xrl j := c1
                                  have hn : (S.take (xna d.1)).reverse.length = xna d.1 := by rw [List.length_reverse, List.length_take]; omega
                                  have hsk : S = (S.take (xna d.1)).reverse.reverse ++ .ref b :: r1 := by rw [List.reverse_reverse, ← hdrop, List.take_append_drop]
                                  have hw9 : xws Tg d.1 = Cond.code (xmn d.1) (xcc d.1) (xml d.1) none :: Tg := by unfold xws; rw [cr]
                                  rcases c4 with c4 | ⟨host, c4⟩
                                  · exact sm_back (va_runI ⟨hexec, hb, hml, hown, hts⟩ hM (cwI (xna d.1) hts (sm_goodOf hst.2.1 (sm_inX cm.1)) hw9 rfl rfl (hts _ cm.2.2.2.2.2.1) (hts _ c4) (hts _ c2) cn ⟨cm.2.2.1, cm.2.2.2.1, cm.2.2.2.2.1⟩ hrm) ⟨sm_Pc_blind hst.2.2.1, sm_Pc_at hst.2.2.1 hR hK hnw hX⟩ rfl hn hl.2.1 hsk (lv_room hq.2.1) hdg ⟨q1, q2⟩) hf go
                                  · exact sm_back (va_runIN ⟨hexec, hb, hml, hown, hts⟩ hM ⟨va_cnB (xna d.1) hts (sm_goodOf hst.2.1 (sm_inX cm.1)) hw9 rfl rfl (hnw _ c4) (hts _ cm.2.2.2.2.2.1) ⟨cm.2.2.1, cm.2.2.2.1, cm.2.2.2.2.1⟩ hrm, cn, hts _ c2⟩ ⟨sm_Pc_blind hst.2.2.1, sm_Pc_at hst.2.2.1 hR hK hnw hX⟩ rfl hn hl.2.1 hsk (lv_room hq.2.1) hdg ⟨q1, q2⟩) hf go
                                · cases hcl
                              · cases hcl
                          · cases hcl
                        · rename_i k a h1 hrun
                          split at r
                          · rename_i hp hhd
                            have m1 := sm_mono _ _ _ _ _ _ _ _ _ hrun
                            have m2 := sm_mono _ _ _ _ _ _ _ _ _ r
                            exact hct n ih j j' pc k a hp mc ms i d S As r1 h h1 p e s m args below meth c H locs cells slots ls _ hin hl.2.1 hR hf hb0 hx hcl hrun hhd (by omega) (by omega)
                              (fun H' locs' s1 s2 => ih j _ L _ h1 kk v h' r p e s m args below meth c H' locs' _ _ mc ms ls hin hl s1 s2 (Nat.le_trans hb0 m1.1) (by omega) (by omega))
                          · cases r
                        · cases r
                      · cases r
