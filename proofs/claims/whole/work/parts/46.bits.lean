/-! BITS: the kit's family 'lN n to 2^64' (kit/laws/BITS.to-paste), pasted; then Long.bitCount -/
theorem wb_tb (n : Nat) : (lN n).toBitVec = BitVec.ofNat 64 n := rfl
theorem wb_inj {a b : Int64} (h : a.toBitVec = b.toBitVec) : a = b := Int64.toBitVec_inj.mp h
theorem wb_tn {n : Nat} (h : n < 2 ^ 64) : (lN n).toBitVec.toNat = n := by rw [wb_tb, BitVec.toNat_ofNat, Nat.mod_eq_of_lt h]
theorem wb_of (x : Int64) : ∃ n, n < 2 ^ 64 ∧ x = lN n := ⟨x.toBitVec.toNat, x.toBitVec.isLt, wb_inj (by rw [wb_tb]; simp)⟩
theorem wb_of32 (x : Int32) : ∃ n, n < 2 ^ 32 ∧ x = nI n := ⟨x.toBitVec.toNat, x.toBitVec.isLt, Int32.toBitVec_inj.mp (by show _ = BitVec.ofNat 32 _; simp)⟩
theorem wb_c : ∀ k, k < 64 → ((nI k).toInt64 &&& 63) = lN k := by decide +kernel
theorem wb_cu : ∀ k, k < 64 → ((nI k).toInt64.toUInt64 &&& Int64.toUInt64 63) = UInt64.ofNat k := by decide +kernel
theorem wb_sm : ∀ k, k < 64 → (BitVec.ofNat 64 k).smod 64 = BitVec.ofNat 64 k := by decide +kernel
theorem wb_pw {a b : Nat} (h : a ≤ b) : 2 ^ b = 2 ^ a * 2 ^ (b - a) := by rw [← Nat.pow_add]; congr 1; omega
theorem wb_lt2 {a b : Nat} (h : a < b) : 2 ^ a < 2 ^ b := Nat.pow_lt_pow_right (by decide) h
theorem wb_mod (n : Nat) : lN n = lN (n % 2 ^ 64) := wb_inj (by rw [wb_tb, wb_tb]; apply BitVec.eq_of_toNat_eq; rw [BitVec.toNat_ofNat, BitVec.toNat_ofNat, Nat.mod_mod])
theorem wb_shr {n k : Nat} (hn : n < 2 ^ 64) (hk : k < 64) : ((lN n).toUInt64 >>> ((nI k).toInt64.toUInt64 &&& Int64.toUInt64 63)).toInt64 = lN (n / 2 ^ k) := by
  rw [wb_cu k hk]
  apply wb_inj
  apply BitVec.eq_of_toNat_eq
  show ((lN n).toUInt64 >>> UInt64.ofNat k).toNat = (BitVec.ofNat 64 _).toNat
  have h1 : (UInt64.ofNat k).toNat = k := by
    show (BitVec.ofNat 64 k).toNat = k
    rw [BitVec.toNat_ofNat, Nat.mod_eq_of_lt (by omega)]
  have h2 : (lN n).toUInt64.toNat = n := wb_tn hn
  rw [UInt64.toNat_shiftRight, h1, h2, Nat.mod_eq_of_lt hk, Nat.shiftRight_eq_div_pow, BitVec.toNat_ofNat, Nat.mod_eq_of_lt (Nat.lt_of_le_of_lt (Nat.div_le_self _ _) hn)]
theorem wb_shl (n : Nat) {k : Nat} (hk : k < 64) : lN n <<< ((nI k).toInt64 &&& 63) = lN (n * 2 ^ k) := by
  rw [wb_c k hk]
  apply wb_inj
  rw [Int64.toBitVec_shiftLeft, wb_tb, wb_tb, wb_tb, wb_sm k hk]
  apply BitVec.eq_of_toNat_eq
  rw [BitVec.shiftLeft_eq', BitVec.toNat_shiftLeft, BitVec.toNat_ofNat, BitVec.toNat_ofNat, BitVec.toNat_ofNat, Nat.mod_eq_of_lt (show k < 2 ^ 64 by omega), Nat.shiftLeft_eq, Nat.mul_mod, Nat.mod_mod, ← Nat.mul_mod]
theorem wb_and {a b : Nat} (ha : a < 2 ^ 64) (hb : b < 2 ^ 64) : lN a &&& lN b = lN (a &&& b) := by
  apply wb_inj
  rw [Int64.toBitVec_and, wb_tb, wb_tb, wb_tb]
  apply BitVec.eq_of_toNat_eq
  rw [BitVec.toNat_and, BitVec.toNat_ofNat, BitVec.toNat_ofNat, BitVec.toNat_ofNat, Nat.mod_eq_of_lt ha, Nat.mod_eq_of_lt hb, Nat.mod_eq_of_lt (Nat.and_lt_two_pow _ hb)]
theorem wb_or {a b : Nat} (ha : a < 2 ^ 64) (hb : b < 2 ^ 64) : lN a ||| lN b = lN (a ||| b) := by
  apply wb_inj
  rw [Int64.toBitVec_or, wb_tb, wb_tb, wb_tb]
  apply BitVec.eq_of_toNat_eq
  rw [BitVec.toNat_or, BitVec.toNat_ofNat, BitVec.toNat_ofNat, BitVec.toNat_ofNat, Nat.mod_eq_of_lt ha, Nat.mod_eq_of_lt hb, Nat.mod_eq_of_lt (Nat.or_lt_two_pow ha hb)]
theorem wb_mask {n k : Nat} (hn : n < 2 ^ 64) (hk : k < 64) : lN n &&& lN (2 ^ k - 1) = lN (n % 2 ^ k) := by
  rw [wb_and hn (by have := wb_lt2 hk; omega), Nat.and_two_pow_sub_one_eq_mod]
theorem wb_a1 {n : Nat} (hn : n < 2 ^ 64) : lN n &&& 1 = lN (n % 2) := wb_mask (k := 1) hn (by decide)
theorem wb_bit {n k : Nat} (hn : n < 2 ^ 64) (hk : k < 64) : ((lN n).toUInt64 >>> ((nI k).toInt64.toUInt64 &&& Int64.toUInt64 63)).toInt64 &&& 1 = lN (n / 2 ^ k % 2) := by
  rw [wb_shr hn hk, wb_a1 (Nat.lt_of_le_of_lt (Nat.div_le_self _ _) hn)]
theorem and256 {a m q r : Nat} (ha : a < 256) (hm : m < 256) : (a + 256 * q) &&& (m + 256 * r) = (a &&& m) + 256 * (q &&& r) := by
  have e : ∀ b z : Nat, b < 256 → b + 256 * z = 2 ^ 8 * z + b := fun b z _ => by omega
  have hl : a &&& m < 2 ^ 8 := Nat.and_lt_two_pow _ hm
  rw [e a q ha, e m r hm, e _ _ hl]
  apply Nat.eq_of_testBit_eq
  intro i
  rw [Nat.testBit_and, Nat.testBit_two_pow_mul_add _ ha, Nat.testBit_two_pow_mul_add _ hm, Nat.testBit_two_pow_mul_add _ hl]
  by_cases h : i < 8
  · rw [if_pos h, if_pos h, if_pos h, Nat.testBit_and]
  · rw [if_neg h, if_neg h, if_neg h, Nat.testBit_and]
def rpt (m : Nat) : Nat → Nat
  | 0 => 0
  | k + 1 => m + 256 * rpt m k
def pb (b : Nat) : Nat := b % 2 + b / 2 % 2 + b / 4 % 2 + b / 8 % 2 + b / 16 % 2 + b / 32 % 2 + b / 64 % 2 + b / 128 % 2
def pbs : Nat → Nat → Nat
  | 0, _ => 0
  | k + 1, n => pb (n % 256) + 256 * pbs k (n / 256)
def g1 (b : Nat) : Nat := b - (b / 2 &&& 85)
def g2 (b : Nat) : Nat := (b &&& 51) + (b / 4 &&& 51)
theorem bc1 : ∀ b, b < 256 → ∀ t, t < 2 → ((b / 2 + 128 * t) &&& 85) = (b / 2 &&& 85) ∧ (b / 2 &&& 85) ≤ b := by decide +kernel
theorem bc2 : ∀ b, b < 256 → ∀ t, t < 4 → ((b / 4 + 64 * t) &&& 51) = (b / 4 &&& 51) := by decide +kernel
theorem bc2b : ∀ b, b < 256 → g2 (g1 b) ≤ 68 ∧ g2 (g1 b) % 16 ≤ 4 ∧ g1 b < 256 := by decide +kernel
theorem bc3 : ∀ b, b < 256 → ∀ t, t < 5 → ((g2 (g1 b) + g2 (g1 b) / 16 + 16 * t) &&& 15) = pb b ∧ g2 (g1 b) + g2 (g1 b) / 16 + 16 * t < 256 := by decide +kernel
def x1 (k n : Nat) : Nat := n - (n / 2 &&& rpt 85 k)
def x2 (k n : Nat) : Nat := (x1 k n &&& rpt 51 k) + (x1 k n / 4 &&& rpt 51 k)
def x3 (k n : Nat) : Nat := (x2 k n + x2 k n / 16) &&& rpt 15 k
theorem bc_1 (k n : Nat) : (n / 2 &&& rpt 85 k) ≤ n ∧ x1 (k + 1) n = g1 (n % 256) + 256 * x1 k (n / 256) ∧ (n / 2 &&& rpt 85 (k + 1)) ≤ n := by
  have aux : ∀ k n, (n / 2 &&& rpt 85 k) ≤ n := by
    intro k n
    have := @Nat.and_le_left (n / 2) (rpt 85 k)
    omega
  refine ⟨aux k n, ?_, aux _ n⟩
  have h1 : n / 2 = (n % 256 / 2 + 128 * (n / 256 % 2)) + 256 * (n / 256 / 2) := by omega
  have h2 := bc1 (n % 256) (by omega) (n / 256 % 2) (by omega)
  have h3 := aux k (n / 256)
  unfold x1
  show n - (n / 2 &&& (85 + 256 * rpt 85 k)) = (n % 256 - (n % 256 / 2 &&& 85)) + 256 * (n / 256 - (n / 256 / 2 &&& rpt 85 k))
  rw [h1, and256 (by omega) (by decide), h2.1]
  have h4 := h2.2
  generalize (n % 256 / 2 &&& 85) = A at *
  generalize (n / 256 / 2 &&& rpt 85 k) = B at *
  omega
theorem bc_2 (k n : Nat) : x2 (k + 1) n = g2 (g1 (n % 256)) + 256 * x2 k (n / 256) := by
  have h1 := (bc_1 k n).2.1
  have hb := (bc2b (n % 256) (by omega)).2.2
  unfold x2
  rw [h1]
  generalize hq : x1 k (n / 256) = q
  generalize hg : g1 (n % 256) = b at *
  have e : (b + 256 * q) / 4 = (b / 4 + 64 * (q % 4)) + 256 * (q / 4) := by omega
  show ((b + 256 * q) &&& (51 + 256 * rpt 51 k)) + ((b + 256 * q) / 4 &&& (51 + 256 * rpt 51 k)) = _
  rw [e, and256 hb (by decide), and256 (by omega) (by decide), bc2 b hb (q % 4) (by omega)]
  show _ = (b &&& 51) + (b / 4 &&& 51) + 256 * _
  omega
theorem bc_2m : ∀ k n, x2 k n % 16 ≤ 4
  | 0, n => by
    show ((x1 0 n &&& 0) + (x1 0 n / 4 &&& 0)) % 16 ≤ 4
    rw [Nat.and_zero, Nat.and_zero]; decide
  | k + 1, n => by
    rw [bc_2]
    have := (bc2b (n % 256) (by omega)).2.1
    omega
theorem bc_3 : ∀ k n, x3 k n = pbs k n
  | 0, n => Nat.and_zero _
  | k + 1, n => by
    have ih := bc_3 k (n / 256)
    have hm := bc_2m k (n / 256)
    unfold x3 at *
    rw [bc_2]
    obtain ⟨h1, h2⟩ := bc3 (n % 256) (by omega) (x2 k (n / 256) % 16) (by omega)
    show _ &&& (15 + 256 * rpt 15 k) = pb (n % 256) + 256 * pbs k (n / 256)
    rw [← ih, ← h1]
    generalize hq : x2 k (n / 256) = q at *
    generalize hg : g2 (g1 (n % 256)) = b at *
    have e : b + 256 * q + (b + 256 * q) / 16 = (b + b / 16 + 16 * (q % 16)) + 256 * (q + q / 16) := by omega
    rw [e, and256 h2 (by decide)]
theorem pb_le (b : Nat) : pb b ≤ 8 := by unfold pb; omega
theorem bc_dig {c0 c1 c2 c3 c4 c5 c6 c7 x y z w : Nat} (h0 : c0 ≤ 8) (h1 : c1 ≤ 8) (h2 : c2 ≤ 8) (h3 : c3 ≤ 8) (h4 : c4 ≤ 8) (h5 : c5 ≤ 8) (h6 : c6 ≤ 8) (h7 : c7 ≤ 8) (hx : x = c0 + 256 * (c1 + 256 * (c2 + 256 * (c3 + 256 * (c4 + 256 * (c5 + 256 * (c6 + 256 * (c7 + 256 * 0)))))))) (hy : y = x + x / 256) (hz : z = y + y / 65536) (hw : w = z + z / 4294967296) : w % 128 = c0 + c1 + c2 + c3 + c4 + c5 + c6 + c7 := by
  have e1 : x / 256 = c1 + 256 * (c2 + 256 * (c3 + 256 * (c4 + 256 * (c5 + 256 * (c6 + 256 * c7))))) := by omega
  have ey : y = (c0 + c1) + 256 * (c1 + c2) + 65536 * ((c2 + c3) + 256 * (c3 + c4) + 65536 * ((c4 + c5) + 256 * (c5 + c6) + 65536 * ((c6 + c7) + 256 * c7))) := by omega
  clear hy hx e1
  have e2 : y / 65536 = (c2 + c3) + 256 * (c3 + c4) + 65536 * ((c4 + c5) + 256 * (c5 + c6) + 65536 * ((c6 + c7) + 256 * c7)) := by omega
  have ez : z = (c0 + c1 + c2 + c3) + 256 * (c1 + c2 + c3 + c4) + 65536 * (c2 + c3 + c4 + c5) + 16777216 * (c3 + c4 + c5 + c6) + 4294967296 * ((c4 + c5 + c6 + c7) + 256 * (c5 + c6 + c7) + 65536 * (c6 + c7) + 16777216 * c7) := by omega
  clear hz ey e2
  have e3 : z / 4294967296 = (c4 + c5 + c6 + c7) + 256 * (c5 + c6 + c7) + 65536 * (c6 + c7) + 16777216 * c7 := by omega
  rw [e3, ez] at hw
  clear ez e3
  omega
theorem bc_sum {n x y z w : Nat} (hx : x = pbs 8 n) (hy : y = x + x / 256) (hz : z = y + y / 65536) (hw : w = z + z / 4294967296) : w % 128 = pb (n % 256) + pb (n / 256 % 256) + pb (n / 256 / 256 % 256) + pb (n / 256 / 256 / 256 % 256) + pb (n / 256 / 256 / 256 / 256 % 256) + pb (n / 256 / 256 / 256 / 256 / 256 % 256) + pb (n / 256 / 256 / 256 / 256 / 256 / 256 % 256) + pb (n / 256 / 256 / 256 / 256 / 256 / 256 / 256 % 256) :=
  bc_dig (pb_le _) (pb_le _) (pb_le _) (pb_le _) (pb_le _) (pb_le _) (pb_le _) (pb_le _) hx hy hz hw
theorem cntP_add (f : Nat → Prop) (a : Nat) : ∀ b, cntP (a + b) f = cntP a f + cntP b (fun i => f (a + i))
  | 0 => rfl
  | b + 1 => by
    have ih := cntP_add f a b
    show cntP (a + b) f + _ = cntP a f + (cntP b (fun i => f (a + i)) + _)
    rw [ih, Nat.add_assoc]
    rfl
theorem cnt8 (b : Nat) : cntP 8 (fun i => b.testBit i = true) = pb b := by
  have h : ∀ i, @ite _ (b.testBit i = true) (Classical.propDecidable _) 1 0 = b / 2 ^ i % 2 := by
    intro i
    rw [Nat.testBit_eq_decide_div_mod_eq]
    by_cases e : b / 2 ^ i % 2 = 1
    · rw [if_pos (by simp [e]), e]
    · rw [if_neg (by simp [e])]; omega
  simp only [cntP, h]
  unfold pb
  simp
theorem cnt64 (n : Nat) : cntP 64 (fun i => n.testBit i = true) = pb (n % 256) + pb (n / 256 % 256) + pb (n / 256 / 256 % 256) + pb (n / 256 / 256 / 256 % 256) + pb (n / 256 / 256 / 256 / 256 % 256) + pb (n / 256 / 256 / 256 / 256 / 256 % 256) + pb (n / 256 / 256 / 256 / 256 / 256 / 256 % 256) + pb (n / 256 / 256 / 256 / 256 / 256 / 256 / 256 % 256) := by
  have st : ∀ k n, cntP (8 + k) (fun i => n.testBit i = true) = pb (n % 256) + cntP k (fun i => (n / 256).testBit i = true) := by
    intro k n
    rw [cntP_add, ← cnt8]
    congr 1
    · apply cntP_eq
      intro i hi
      rw [show (256 : Nat) = 2 ^ 8 from rfl, Nat.testBit_mod_two_pow]
      simp [hi]
    · apply cntP_eq
      intro i hi
      rw [show (256 : Nat) = 2 ^ 8 from rfl, Nat.testBit_div_two_pow, Nat.add_comm]
  rw [show (64 : Nat) = 8 + 56 from rfl, st, show (56 : Nat) = 8 + 48 from rfl, st, show (48 : Nat) = 8 + 40 from rfl, st, show (40 : Nat) = 8 + 32 from rfl, st, show (32 : Nat) = 8 + 24 from rfl, st, show (24 : Nat) = 8 + 16 from rfl, st, show (16 : Nat) = 8 + 8 from rfl, st, show cntP 8 = cntP (8 + 0) from rfl, st]
  show _ + (_ + (_ + (_ + (_ + (_ + (_ + (_ + 0))))))) = _
  omega
