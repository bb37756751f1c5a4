/-! the class reads an area, and a rack's line -/
def plH (h : sm_H) (n : Nat) (nm kd : Int32) (x y w hh : Nat) : sm_H := putF (putF (putF (putF (putF (putF (putF (newO h 6 16 (fun g => defaultValue (xty 6 (g - 128 * 6)))) 779 (hT h) (.int (nI n))) 768 (hT h) (.int nm)) 769 (hT h) (.int kd)) 770 (hT h) (.int (nI x))) 771 (hT h) (.int (nI y))) 772 (hT h) (.int (nI w))) 773 (hT h) (.int (nI hh))
theorem plH_fr {h : sm_H} {n : Nat} {nm kd : Int32} {x y w hh : Nat} : hT (plH h n nm kd x y w hh) = hT h + 1 ∧ hU (plH h n nm kd x y w hh) = hU h + 16 ∧ hZ (plH h n nm kd x y w hh) = hZ h ∧ ∀ a, a ≠ hT h → samA h (plH h n nm kd x y w hh) a :=
  ⟨rfl, rfl, rfl, fun a q => (samA.newO q).trans ((samA.putF q).trans ((samA.putF q).trans ((samA.putF q).trans ((samA.putF q).trans ((samA.putF q).trans ((samA.putF q).trans (samA.putF q)))))))⟩
theorem plH_pf {h : sm_H} {n : Nat} {nm kd : Int32} {x y w hh : Nat} {pa : Nat → Nat} : PF (plH h n nm kd x y w hh) (hT h) pa n (plF [nm, kd, nI x, nI y, nI w, nI hh, nI 0, -1]) := by
  refine ⟨if_pos rfl, fun a ha => ?_, ?_, ((hF_putF_f (by decide)).trans ((hF_putF_f (by decide)).trans ((hF_putF_f (by decide)).trans ((hF_putF_f (by decide)).trans ((hF_putF_f (by decide)).trans ((hF_putF_f (by decide)).trans ((hF_putF_f (by decide)).trans ((if_pos rfl))))))))), ((hF_putF_f (by decide)).trans ((hF_putF_f (by decide)).trans ((hF_putF_f (by decide)).trans ((hF_putF_f (by decide)).trans ((hF_putF_f (by decide)).trans ((hF_putF_f (by decide)).trans ((hF_putF_f (by decide)).trans ((if_pos rfl))))))))), ((hF_putF_f (by decide)).trans ((hF_putF_f (by decide)).trans ((hF_putF_f (by decide)).trans ((hF_putF_f (by decide)).trans ((hF_putF_f (by decide)).trans ((hF_putF_f (by decide)).trans ((hF_putF_f (by decide)).trans ((if_pos rfl))))))))), ((hF_putF_f (by decide)).trans ((hF_putF_f (by decide)).trans ((hF_putF_f (by decide)).trans ((hF_putF_f (by decide)).trans ((hF_putF_f (by decide)).trans ((hF_putF_f (by decide)).trans (hF_putF))))))), ((hF_putF_f (by decide)).trans ((hF_putF_f (by decide)).trans ((hF_putF_f (by decide)).trans ((hF_putF_f (by decide)).trans ((hF_putF_f (by decide)).trans ((hF_putF_f (by decide)).trans ((hF_putF_f (by decide)).trans ((if_pos rfl))))))))), ((hF_putF_f (by decide)).trans ((hF_putF_f (by decide)).trans ((hF_putF_f (by decide)).trans ((hF_putF_f (by decide)).trans ((hF_putF_f (by decide)).trans ((hF_putF_f (by decide)).trans ((hF_putF_f (by decide)).trans ((if_pos rfl))))))))), ((hF_putF_f (by decide)).trans ((hF_putF_f (by decide)).trans ((hF_putF_f (by decide)).trans ((hF_putF_f (by decide)).trans ((hF_putF_f (by decide)).trans ((hF_putF_f (by decide)).trans ((hF_putF_f (by decide)).trans ((if_pos rfl))))))))), ((hF_putF_f (by decide)).trans ((hF_putF_f (by decide)).trans ((hF_putF_f (by decide)).trans ((hF_putF_f (by decide)).trans ((hF_putF_f (by decide)).trans ((hF_putF_f (by decide)).trans ((hF_putF_f (by decide)).trans ((if_pos rfl)))))))))⟩
  · match a, ha with
    | 0, _ => exact ((hF_putF_f (by decide)).trans ((hF_putF_f (by decide)).trans ((hF_putF_f (by decide)).trans ((hF_putF_f (by decide)).trans ((hF_putF_f (by decide)).trans (hF_putF))))))
    | 1, _ => exact ((hF_putF_f (by decide)).trans ((hF_putF_f (by decide)).trans ((hF_putF_f (by decide)).trans ((hF_putF_f (by decide)).trans (hF_putF)))))
    | 2, _ => exact ((hF_putF_f (by decide)).trans ((hF_putF_f (by decide)).trans ((hF_putF_f (by decide)).trans (hF_putF))))
    | 3, _ => exact ((hF_putF_f (by decide)).trans ((hF_putF_f (by decide)).trans (hF_putF)))
    | 4, _ => exact ((hF_putF_f (by decide)).trans (hF_putF))
    | 5, _ => exact hF_putF
    | 6, _ => exact ((hF_putF_f (by decide)).trans ((hF_putF_f (by decide)).trans ((hF_putF_f (by decide)).trans ((hF_putF_f (by decide)).trans ((hF_putF_f (by decide)).trans ((hF_putF_f (by decide)).trans ((hF_putF_f (by decide)).trans ((if_pos rfl)))))))))
  · show _ = uV pa (-1)
    rw [uV_n]
    exact ((hF_putF_f (by decide)).trans ((hF_putF_f (by decide)).trans ((hF_putF_f (by decide)).trans ((hF_putF_f (by decide)).trans ((hF_putF_f (by decide)).trans ((hF_putF_f (by decide)).trans ((hF_putF_f (by decide)).trans ((if_pos rfl)))))))))
theorem c_rd69 {h h1 : sm_H} {Q : Nat → Option Value → sm_H → Prop} {r sg sp ed len : Nat} {tx : Nat → Int32} (B : RB h r sg sp ed len tx) {s : Nat × Int32} (w : RDW h h1 r len s) {D : Nat → Prop} {lp ep : Nat} {pa : Nat → Nat} {bt : Nat → Nat → Nat} {E : Ed} {un : Nat → Int32} (X : EdF h ed lp ep pa bt E un) (O : EdO h D ed lp ep pa E) (hD : ∀ a, D a → a ≠ r) (hzr : hZ h ≠ r) (hr : r < hT h) (hDT : ∀ a, D a → a < hT h) {nm kd : Int32} (K : ∀ h2, RDW h h2 r len (ar4 tx len s).2 → Q 0 (some (.ref (hT h2))) (plH h2 E.1.length nm kd (ar1 tx len s).1 (ar2 tx len s).1 (ar3 tx len s).1 (ar4 tx len s).1)) : sm_wp 69 0 [.ref r, .int nm, .int kd, jk, jk, jk, jk] [] h1 Q := by
  have hB := B.2.2.2.2.2.2.2.2.2.2
  have hs9 := w.2.2.2.2.2.2.2.2
  have sgr : sg ≠ r := kne B.2.2.2.2.2.1 B.1 (by decide)
  refine wp_pure k_69 rfl rfl ?_
  refine wp_kn k_69 rfl rfl ?_
  refine wp_kn k_69 rfl rfl ?_
  refine wp_iv k_69 rfl [.int (nI 0), .int (nI 39)] rfl w.2.2.2.2.1 (r := []) (Nat.le_of_ble_eq_true rfl) (Nat.le_of_ble_eq_true rfl) rfl ?_
  refine c_num B w (fun h2 w2 => ⟨rfl, ?_⟩)
  have w2 : RDW h h2 r len (ar1 tx len s).2 := w2
  show sm_wp 69 _ _ (.int (nI (ar1 tx len s).1) :: _) _ _
  refine wp_pure k_69 rfl rfl ?_
  refine wp_pure k_69 rfl rfl ?_
  refine wp_kn k_69 rfl rfl ?_
  refine wp_kn k_69 rfl rfl ?_
  refine wp_iv k_69 rfl [.int (nI 0), .int (nI 19)] rfl w2.2.2.2.2.1 (r := []) (Nat.le_of_ble_eq_true rfl) (Nat.le_of_ble_eq_true rfl) rfl ?_
  refine c_num B w2 (fun h3 w3 => ⟨rfl, ?_⟩)
  have w3 : RDW h h3 r len (ar2 tx len s).2 := w3
  show sm_wp 69 _ _ (.int (nI (ar2 tx len s).1) :: _) _ _
  refine wp_pure k_69 rfl rfl ?_
  refine wp_pure k_69 rfl rfl ?_
  refine wp_kn k_69 rfl rfl ?_
  refine wp_kn k_69 rfl rfl ?_
  refine wp_pure k_69 rfl rfl ?_
  refine wp_isub k_69 rfl ?_
  refine wp_iv k_69 rfl [.int (nI 1), .int ((nI 40) - (nI ((ar1 tx len s).1)))] rfl w3.2.2.2.2.1 (r := []) (Nat.le_of_ble_eq_true rfl) (Nat.le_of_ble_eq_true rfl) rfl ?_
  refine c_num B w3 (fun h4 w4 => ⟨rfl, ?_⟩)
  have w4 : RDW h h4 r len (ar3 tx len s).2 := w4
  show sm_wp 69 _ _ (.int (nI (ar3 tx len s).1) :: _) _ _
  refine wp_pure k_69 rfl rfl ?_
  refine wp_pure k_69 rfl rfl ?_
  refine wp_kn k_69 rfl rfl ?_
  refine wp_kn k_69 rfl rfl ?_
  refine wp_pure k_69 rfl rfl ?_
  refine wp_isub k_69 rfl ?_
  refine wp_iv k_69 rfl [.int (nI 1), .int ((nI 20) - (nI ((ar2 tx len s).1)))] rfl w4.2.2.2.2.1 (r := []) (Nat.le_of_ble_eq_true rfl) (Nat.le_of_ble_eq_true rfl) rfl ?_
  refine c_num B w4 (fun h5 w5 => ⟨rfl, ?_⟩)
  have w5 : RDW h h5 r len (ar4 tx len s).2 := w5
  show sm_wp 69 _ _ (.int (nI (ar4 tx len s).1) :: _) _ _
  have X5 := w5.ed X O hD hzr
  obtain ⟨⟨e0, e1, e2, e3⟩, l1, hP, hBt⟩ := id X5
  have r5 : r < hT h5 := by rw [w5.1]; exact hr
  have d5 : ed < hT h5 := by rw [w5.1]; exact hDT _ O.1.1
  refine wp_pure k_69 rfl rfl ?_
  refine wp_new k_69 rfl rfl ?_
  show sm_wp 69 43 [.ref r, .int nm, .int kd, .int (nI ((ar1 tx len s).1)), .int (nI ((ar2 tx len s).1)), .int (nI ((ar3 tx len s).1)), .int (nI ((ar4 tx len s).1))] [.ref (hT h5)] _ Q
  refine wp_pure k_69 rfl rfl ?_
  refine wp_pure k_69 rfl rfl ?_
  refine wp_get k_69 rfl ((if_neg (Nat.ne_of_lt r5)).trans w5.2.2.2.2.1) ((if_neg (Nat.ne_of_lt r5)).trans ((w5.2.2.2.2.2.1 1026 (by decide) (by decide)).trans B.2.2.2.1)) ?_
  refine wp_get k_69 rfl ((if_neg (Nat.ne_of_lt d5)).trans e0) ((if_neg (Nat.ne_of_lt d5)).trans e1) ?_
  refine wp_iv k_69 rfl [] rfl ((if_neg (Nat.ne_of_lt l1.2.2.2.2.2.1)).trans l1.1) (r := [.ref (hT h5), .ref (hT h5)]) (Nat.le_of_ble_eq_true rfl) (Nat.le_of_ble_eq_true rfl) rfl ?_
  refine s_size ((if_neg (Nat.ne_of_lt l1.2.2.2.2.2.1)).trans l1.1) ((if_neg (Nat.ne_of_lt l1.2.2.2.2.2.1)).trans l1.2.1) ⟨rfl, ?_⟩
  refine wp_pure k_69 rfl rfl ?_
  refine wp_pure k_69 rfl rfl ?_
  refine wp_pure k_69 rfl rfl ?_
  refine wp_pure k_69 rfl rfl ?_
  refine wp_pure k_69 rfl rfl ?_
  refine wp_pure k_69 rfl rfl ?_
  refine wp_ic k_69 rfl (by decide) [.int (nI (E.1.length)), .int nm, .int kd, .int (nI ((ar1 tx len s).1)), .int (nI ((ar2 tx len s).1)), .int (nI ((ar3 tx len s).1)), .int (nI ((ar4 tx len s).1))] rfl (r := [.ref (hT h5)]) (Nat.le_of_ble_eq_true rfl) (Nat.le_of_ble_eq_true rfl) rfl ?_
  refine wp_pure k_47 rfl rfl ?_
  refine wp_obj k_47 rfl (Nat.le_of_ble_eq_true rfl) ?_
  refine wp_pure k_47 rfl rfl ?_
  refine wp_pure k_47 rfl rfl ?_
  refine wp_put k_47 rfl (if_pos rfl) rfl rfl ?_
  refine wp_pure k_47 rfl rfl ?_
  refine wp_pure k_47 rfl rfl ?_
  refine wp_put k_47 rfl (if_pos rfl) rfl rfl ?_
  refine wp_pure k_47 rfl rfl ?_
  refine wp_pure k_47 rfl rfl ?_
  refine wp_put k_47 rfl (if_pos rfl) rfl rfl ?_
  refine wp_pure k_47 rfl rfl ?_
  refine wp_pure k_47 rfl rfl ?_
  refine wp_put k_47 rfl (if_pos rfl) rfl rfl ?_
  refine wp_pure k_47 rfl rfl ?_
  refine wp_pure k_47 rfl rfl ?_
  refine wp_put k_47 rfl (if_pos rfl) rfl rfl ?_
  refine wp_pure k_47 rfl rfl ?_
  refine wp_pure k_47 rfl rfl ?_
  refine wp_put k_47 rfl (if_pos rfl) rfl rfl ?_
  refine wp_pure k_47 rfl rfl ?_
  refine wp_pure k_47 rfl rfl ?_
  refine wp_put k_47 rfl (if_pos rfl) rfl rfl ?_
  refine wp_vrt k_47 rfl rfl ⟨rfl, ?_⟩
  exact wp_rt k_69 rfl rfl rfl rfl rfl rfl rfl (K h5 w5)
/-- from the line's beginning to its end: numbers, a new place, the sign of the end -/
theorem al_glue {h h3 hx h5 : sm_H} {r len : Nat} {s3 s5 : Nat × Int32} (w3 : RDW h h3 r len s3) (ax : hT hx = hT h3 + 1 ∧ hU hx = hU h3 + 16 ∧ hZ hx = hZ h3 ∧ ∀ a, a ≠ hT h3 → samA h3 hx a) (w5 : RDW hx h5 r len s5) (hr : r < hT h) : Fr h h5 (fun c => c = r) 1 16 ∧ (∀ g, g ≠ 1028 → g ≠ 1029 → hF h5 g r = hF h g r) ∧ hT h5 = hT h + 1 ∧ hT h3 = hT h ∧ samA hx h5 (hT h3) := by
  obtain ⟨a1, a2, a3, a4⟩ := ax
  have t3 := w3.1
  have u3 := w3.2.1
  have t5 := w5.1
  have u5 := w5.2.1
  refine ⟨⟨by omega, by omega, by omega, by omega, w5.2.2.1.trans (a3.trans w3.2.2.1), fun a ha q => (w3.2.2.2.1 a q).trans ((a4 a (by omega)).trans (w5.2.2.2.1 a q))⟩, fun g q1 q2 => (w5.2.2.2.2.2.1 g q1 q2).trans (((a4 r (by omega)).2.2.1 g).trans (w3.2.2.2.2.2.1 g q1 q2)), by omega, t3, w5.2.2.2.1 _ (by omega)⟩
theorem RB.al {h h3 hx : sm_H} {r sg sp ed len : Nat} {tx : Nat → Int32} {s3 : Nat × Int32} (B : RB h r sg sp ed len tx) (w3 : RDW h h3 r len s3) (ax : ∀ a, a ≠ hT h3 → samA h3 hx a) (hr : r < hT h) (hsg : sg < hT h) (hsp : sp < hT h) : RB hx r sg sp ed len tx ∧ RDW hx hx r len s3 := by
  have t3 := w3.1
  have sgr : sg ≠ r := kne B.2.2.2.2.2.1 B.1 (by decide)
  have spr : sp ≠ r := kne B.2.2.2.2.2.2.2.2.1 B.1 (by decide)
  have sr := ax r (by omega)
  have ss := (w3.2.2.2.1 sg sgr).trans (ax sg (by omega))
  have sq := (w3.2.2.2.1 sp spr).trans (ax sp (by omega))
  exact ⟨B.same (sr.1.trans w3.2.2.2.2.1) (fun g q1 q2 => (sr.2.2.1 g).trans (w3.2.2.2.2.2.1 g q1 q2)) ss (sq.1.trans B.2.2.2.2.2.2.2.2.1), ⟨rfl, rfl, rfl, fun a _ => samA.refl hx a, sr.1.trans w3.2.2.2.2.1, fun _ _ _ => rfl, (sr.2.2.1 _).trans w3.2.2.2.2.2.2.1, (sr.2.2.1 _).trans w3.2.2.2.2.2.2.2.1, w3.2.2.2.2.2.2.2.2⟩⟩
