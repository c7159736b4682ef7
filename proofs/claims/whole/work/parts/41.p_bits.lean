/-! (pasted family of kit/laws/BITS.to-paste: lN to 2^64) -/
/-! ===== lN n to 2^64: shifts, and, or, masks, one bit ===== -/
theorem wb_tb (n : Nat) : (lN n).toBitVec = BitVec.ofNat 64 n := rfl
theorem wb_inj {a b : Int64} (h : a.toBitVec = b.toBitVec) : a = b := Int64.toBitVec_inj.mp h
theorem wb_tn {n : Nat} (h : n < 2 ^ 64) : (lN n).toBitVec.toNat = n := by rw [wb_tb, BitVec.toNat_ofNat, Nat.mod_eq_of_lt h]
theorem wb_of (x : Int64) : ∃ n, n < 2 ^ 64 ∧ x = lN n := ⟨x.toBitVec.toNat, x.toBitVec.isLt, wb_inj (by rw [wb_tb]; simp)⟩
theorem wb_of32 (x : Int32) : ∃ n, n < 2 ^ 32 ∧ x = nI n := ⟨x.toBitVec.toNat, x.toBitVec.isLt, Int32.toBitVec_inj.mp (by show _ = BitVec.ofNat 32 _; simp)⟩
theorem wb_c : ∀ k, k < 64 → ((nI k).toInt64 &&& 63) = lN k := by decide +kernel
theorem wb_cu : ∀ k, k < 64 → ((nI k).toInt64.toUInt64 &&& Int64.toUInt64 63) = UInt64.ofNat k := by decide +kernel
theorem wb_sm : ∀ k, k < 64 → (BitVec.ofNat 64 k).smod 64 = BitVec.ofNat 64 k := by decide +kernel
theorem wb_pw {a b : Nat} (h : a ≤ b) : 2 ^ b = 2 ^ a * 2 ^ (b - a) := by rw [← Nat.pow_add]; congr 1; omega
theorem wb_lt2 {a b : Nat} (h : a < b) : 2 ^ a < 2 ^ b := Nat.pow_lt_pow_right (by decide) h
theorem wb_mod (n : Nat) : lN n = lN (n % 2 ^ 64) := wb_inj (by rw [wb_tb, wb_tb]; apply BitVec.eq_of_toNat_eq; rw [BitVec.toNat_ofNat, BitVec.toNat_ofNat, Nat.mod_mod])
theorem wb_shr {n k : Nat} (hn : n < 2 ^ 64) (hk : k < 64) : ((lN n).toUInt64 >>> ((nI k).toInt64.toUInt64 &&& Int64.toUInt64 63)).toInt64 = lN (n / 2 ^ k) := by
  rw [wb_cu k hk]
  apply wb_inj
  apply BitVec.eq_of_toNat_eq
  show ((lN n).toUInt64 >>> UInt64.ofNat k).toNat = (BitVec.ofNat 64 _).toNat
  have h1 : (UInt64.ofNat k).toNat = k := by
    show (BitVec.ofNat 64 k).toNat = k
    rw [BitVec.toNat_ofNat, Nat.mod_eq_of_lt (by omega)]
  have h2 : (lN n).toUInt64.toNat = n := wb_tn hn
  rw [UInt64.toNat_shiftRight, h1, h2, Nat.mod_eq_of_lt hk, Nat.shiftRight_eq_div_pow, BitVec.toNat_ofNat, Nat.mod_eq_of_lt (Nat.lt_of_le_of_lt (Nat.div_le_self _ _) hn)]
theorem wb_shl (n : Nat) {k : Nat} (hk : k < 64) : lN n <<< ((nI k).toInt64 &&& 63) = lN (n * 2 ^ k) := by
  rw [wb_c k hk]
  apply wb_inj
  rw [Int64.toBitVec_shiftLeft, wb_tb, wb_tb, wb_tb, wb_sm k hk]
  apply BitVec.eq_of_toNat_eq
  rw [BitVec.shiftLeft_eq', BitVec.toNat_shiftLeft, BitVec.toNat_ofNat, BitVec.toNat_ofNat, BitVec.toNat_ofNat, Nat.mod_eq_of_lt (show k < 2 ^ 64 by omega), Nat.shiftLeft_eq, Nat.mul_mod, Nat.mod_mod, ← Nat.mul_mod]
theorem wb_and {a b : Nat} (ha : a < 2 ^ 64) (hb : b < 2 ^ 64) : lN a &&& lN b = lN (a &&& b) := by
  apply wb_inj
  rw [Int64.toBitVec_and, wb_tb, wb_tb, wb_tb]
  apply BitVec.eq_of_toNat_eq
  rw [BitVec.toNat_and, BitVec.toNat_ofNat, BitVec.toNat_ofNat, BitVec.toNat_ofNat, Nat.mod_eq_of_lt ha, Nat.mod_eq_of_lt hb, Nat.mod_eq_of_lt (Nat.and_lt_two_pow _ hb)]
theorem wb_or {a b : Nat} (ha : a < 2 ^ 64) (hb : b < 2 ^ 64) : lN a ||| lN b = lN (a ||| b) := by
  apply wb_inj
  rw [Int64.toBitVec_or, wb_tb, wb_tb, wb_tb]
  apply BitVec.eq_of_toNat_eq
  rw [BitVec.toNat_or, BitVec.toNat_ofNat, BitVec.toNat_ofNat, BitVec.toNat_ofNat, Nat.mod_eq_of_lt ha, Nat.mod_eq_of_lt hb, Nat.mod_eq_of_lt (Nat.or_lt_two_pow ha hb)]
theorem wb_mask {n k : Nat} (hn : n < 2 ^ 64) (hk : k < 64) : lN n &&& lN (2 ^ k - 1) = lN (n % 2 ^ k) := by
  rw [wb_and hn (by have := wb_lt2 hk; omega), Nat.and_two_pow_sub_one_eq_mod]
theorem wb_a1 {n : Nat} (hn : n < 2 ^ 64) : lN n &&& 1 = lN (n % 2) := wb_mask (k := 1) hn (by decide)
theorem wb_bit {n k : Nat} (hn : n < 2 ^ 64) (hk : k < 64) : ((lN n).toUInt64 >>> ((nI k).toInt64.toUInt64 &&& Int64.toUInt64 63)).toInt64 &&& 1 = lN (n / 2 ^ k % 2) := by
  rw [wb_shr hn hk, wb_a1 (Nat.lt_of_le_of_lt (Nat.div_le_self _ _) hn)]
/-! bytes of a word: reading one, writing one -/
theorem pb_nI (k : Nat) : tl_I (k : Int) = nI k := Int32.ofInt_eq_ofNat
def pb_by (n k : Nat) : Nat := n / 2 ^ (8 * k) % 256
theorem pb_by_bit (n k j : Nat) : (pb_by n k).testBit j = (decide (j < 8) && n.testBit (8 * k + j)) := by
  unfold pb_by
  rw [show (256 : Nat) = 2 ^ 8 from rfl, Nat.testBit_mod_two_pow, Nat.testBit_div_two_pow, Nat.add_comm j]
/-- the byte k of n put to v -/
def pb_pu (n k v : Nat) : Nat := (n &&& ((255 * 2 ^ (8 * k)) ^^^ (2 ^ 64 - 1))) ||| (v * 2 ^ (8 * k))
theorem pb_pu_bit {n k v : Nat} (hk : k < 6) (j : Nat) (hj : j < 64) : (pb_pu n k v).testBit j = ((n.testBit j && !(decide (8 * k ≤ j) && decide (j - 8 * k < 8))) || (decide (8 * k ≤ j) && v.testBit (j - 8 * k))) := by
  unfold pb_pu
  rw [Nat.testBit_or, Nat.testBit_and, Nat.testBit_xor, Nat.testBit_mul_two_pow, Nat.testBit_mul_two_pow, Nat.testBit_two_pow_sub_one, show (255 : Nat) = 2 ^ 8 - 1 from rfl, Nat.testBit_two_pow_sub_one, decide_eq_true hj]
  simp
theorem pb_pu_lt {n k v : Nat} (hn : n < 2 ^ 64) (hk : k < 6) (hv : v < 256) : pb_pu n k v < 2 ^ 64 := by
  unfold pb_pu
  refine Nat.or_lt_two_pow (Nat.lt_of_le_of_lt Nat.and_le_left hn) ?_
  have h1 : 2 ^ (8 * k) ≤ 2 ^ 40 := Nat.pow_le_pow_right (by decide) (by omega)
  have h2 : v * 2 ^ (8 * k) ≤ 255 * 2 ^ 40 := Nat.mul_le_mul (by omega) h1
  omega
theorem pb_same {n k v : Nat} (hk : k < 6) (hv : v < 256) : pb_by (pb_pu n k v) k = v := by
  apply Nat.eq_of_testBit_eq
  intro j
  rw [pb_by_bit]
  by_cases hj : j < 8
  · rw [pb_pu_bit hk _ (by omega), decide_eq_true hj, decide_eq_true (show 8 * k ≤ 8 * k + j by omega), show 8 * k + j - 8 * k = j by omega, decide_eq_true hj]
    simp
  · rw [decide_eq_false hj, Nat.testBit_lt_two_pow (x := v) (i := j)]
    · rfl
    · exact Nat.lt_of_lt_of_le hv (show (256 : Nat) ≤ _ from Nat.pow_le_pow_right (n := 2) (i := 8) (by decide) (by omega))
theorem pb_other {n k q v : Nat} (hk : k < 6) (hq : q < 6) (hv : v < 256) (hne : q ≠ k) : pb_by (pb_pu n k v) q = pb_by n q := by
  apply Nat.eq_of_testBit_eq
  intro j
  rw [pb_by_bit, pb_by_bit]
  by_cases hj : j < 8
  · rw [pb_pu_bit hk _ (by omega)]
    by_cases h1 : 8 * k ≤ 8 * q + j
    · rw [decide_eq_true h1, decide_eq_false (show ¬ 8 * q + j - 8 * k < 8 by omega), Nat.testBit_lt_two_pow (x := v) (i := 8 * q + j - 8 * k)]
      · simp
      · exact Nat.lt_of_lt_of_le hv (show (256 : Nat) ≤ _ from Nat.pow_le_pow_right (n := 2) (i := 8) (by decide) (by omega))
    · rw [decide_eq_false h1]
      simp
  · rw [decide_eq_false hj]
    simp
theorem pb_read {n k : Nat} (hn : n < 2 ^ 64) (hk : k < 6) : tl_l2i (tl_lushr (lN n) ((8 * k : Nat) : Int) &&& (255 : Int64)) = ((pb_by n k : Nat) : Int) := by
  unfold tl_l2i tl_lushr
  rw [pb_nI, wb_shr hn (by omega), show (255 : Int64) = lN (2 ^ 8 - 1) from rfl, wb_mask (Nat.lt_of_le_of_lt (Nat.div_le_self _ _) hn) (by decide), lN_i, nI_toInt (Nat.lt_of_lt_of_le (Nat.mod_lt _ (by decide)) (by decide))]
  rfl
theorem pb_write {n k v : Nat} (hn : n < 2 ^ 64) (hk : k < 6) (hv : v < 256) : (lN n &&& (tl_lshl (255 : Int64) ((8 * k : Nat) : Int) ^^^ (-1 : Int64))) ||| tl_lshl (tl_i2l (v : Int)) ((8 * k : Nat) : Int) = lN (pb_pu n k v) := by
  unfold tl_lshl tl_i2l
  have h1 : 2 ^ (8 * k) ≤ 2 ^ 40 := Nat.pow_le_pow_right (by decide) (by omega)
  have h2 : v * 2 ^ (8 * k) ≤ 255 * 2 ^ 40 := Nat.mul_le_mul (by omega) h1
  have h3 : 255 * 2 ^ (8 * k) ≤ 255 * 2 ^ 40 := Nat.mul_le_mul (Nat.le_refl _) h1
  have hx : (255 * 2 ^ (8 * k)) ^^^ (2 ^ 64 - 1) < 2 ^ 64 := Nat.xor_lt_two_pow (by omega) (by decide)
  rw [pb_nI, pb_nI, show (nI v).toInt64 = lN v from nI_l (by omega), show (255 : Int64) = lN 255 from rfl, wb_shl 255 (by omega), wb_shl v (by omega), show (-1 : Int64) = lN (2 ^ 64 - 1) from rfl]
  rw [show lN (255 * 2 ^ (8 * k)) ^^^ lN (2 ^ 64 - 1) = lN ((255 * 2 ^ (8 * k)) ^^^ (2 ^ 64 - 1)) from ?_, wb_and hn hx, wb_or (Nat.lt_of_le_of_lt Nat.and_le_left hn) (by omega)]
  · rfl
  · apply wb_inj
    rw [Int64.toBitVec_xor, wb_tb, wb_tb, wb_tb]
    apply BitVec.eq_of_toNat_eq
    rw [BitVec.toNat_xor, BitVec.toNat_ofNat, BitVec.toNat_ofNat, BitVec.toNat_ofNat, Nat.mod_eq_of_lt (show 255 * 2 ^ (8 * k) < 2 ^ 64 by omega), Nat.mod_eq_of_lt (show 2 ^ 64 - 1 < 2 ^ 64 by decide), Nat.mod_eq_of_lt hx]
