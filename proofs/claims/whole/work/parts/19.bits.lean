/-! ===== lN n to 2^64: shifts, and, or, masks, one bit ===== -/
theorem wb_tb (n : Nat) : (lN n).toBitVec = BitVec.ofNat 64 n := rfl
theorem wb_inj {a b : Int64} (h : a.toBitVec = b.toBitVec) : a = b := Int64.toBitVec_inj.mp h
theorem wb_tn {n : Nat} (h : n < 2 ^ 64) : (lN n).toBitVec.toNat = n := by rw [wb_tb, BitVec.toNat_ofNat, Nat.mod_eq_of_lt h]
theorem wb_of (x : Int64) : ∃ n, n < 2 ^ 64 ∧ x = lN n := ⟨x.toBitVec.toNat, x.toBitVec.isLt, wb_inj (by rw [wb_tb]; simp)⟩
theorem wb_of32 (x : Int32) : ∃ n, n < 2 ^ 32 ∧ x = nI n := ⟨x.toBitVec.toNat, x.toBitVec.isLt, Int32.toBitVec_inj.mp (by show _ = BitVec.ofNat 32 _; simp)⟩
theorem wb_c : ∀ k, k < 64 → ((nI k).toInt64 &&& 63) = lN k := by decide +kernel
theorem wb_cu : ∀ k, k < 64 → ((nI k).toInt64.toUInt64 &&& Int64.toUInt64 63) = UInt64.ofNat k := by decide +kernel
theorem wb_sm : ∀ k, k < 64 → (BitVec.ofNat 64 k).smod 64 = BitVec.ofNat 64 k := by decide +kernel
theorem wb_pw {a b : Nat} (h : a ≤ b) : 2 ^ b = 2 ^ a * 2 ^ (b - a) := by rw [← Nat.pow_add]; congr 1; omega
theorem wb_lt2 {a b : Nat} (h : a < b) : 2 ^ a < 2 ^ b := Nat.pow_lt_pow_right (by decide) h
theorem wb_mod (n : Nat) : lN n = lN (n % 2 ^ 64) := wb_inj (by rw [wb_tb, wb_tb]; apply BitVec.eq_of_toNat_eq; rw [BitVec.toNat_ofNat, BitVec.toNat_ofNat, Nat.mod_mod])
theorem wb_shr {n k : Nat} (hn : n < 2 ^ 64) (hk : k < 64) : ((lN n).toUInt64 >>> ((nI k).toInt64.toUInt64 &&& Int64.toUInt64 63)).toInt64 = lN (n / 2 ^ k) := by
  rw [wb_cu k hk]
  apply wb_inj
  apply BitVec.eq_of_toNat_eq
  show ((lN n).toUInt64 >>> UInt64.ofNat k).toNat = (BitVec.ofNat 64 _).toNat
  have h1 : (UInt64.ofNat k).toNat = k := by
    show (BitVec.ofNat 64 k).toNat = k
    rw [BitVec.toNat_ofNat, Nat.mod_eq_of_lt (by omega)]
  have h2 : (lN n).toUInt64.toNat = n := wb_tn hn
  rw [UInt64.toNat_shiftRight, h1, h2, Nat.mod_eq_of_lt hk, Nat.shiftRight_eq_div_pow, BitVec.toNat_ofNat, Nat.mod_eq_of_lt (Nat.lt_of_le_of_lt (Nat.div_le_self _ _) hn)]
theorem wb_shl (n : Nat) {k : Nat} (hk : k < 64) : lN n <<< ((nI k).toInt64 &&& 63) = lN (n * 2 ^ k) := by
  rw [wb_c k hk]
  apply wb_inj
  rw [Int64.toBitVec_shiftLeft, wb_tb, wb_tb, wb_tb, wb_sm k hk]
  apply BitVec.eq_of_toNat_eq
  rw [BitVec.shiftLeft_eq', BitVec.toNat_shiftLeft, BitVec.toNat_ofNat, BitVec.toNat_ofNat, BitVec.toNat_ofNat, Nat.mod_eq_of_lt (show k < 2 ^ 64 by omega), Nat.shiftLeft_eq, Nat.mul_mod, Nat.mod_mod, ← Nat.mul_mod]
theorem wb_and {a b : Nat} (ha : a < 2 ^ 64) (hb : b < 2 ^ 64) : lN a &&& lN b = lN (a &&& b) := by
  apply wb_inj
  rw [Int64.toBitVec_and, wb_tb, wb_tb, wb_tb]
  apply BitVec.eq_of_toNat_eq
  rw [BitVec.toNat_and, BitVec.toNat_ofNat, BitVec.toNat_ofNat, BitVec.toNat_ofNat, Nat.mod_eq_of_lt ha, Nat.mod_eq_of_lt hb, Nat.mod_eq_of_lt (Nat.and_lt_two_pow _ hb)]
theorem wb_or {a b : Nat} (ha : a < 2 ^ 64) (hb : b < 2 ^ 64) : lN a ||| lN b = lN (a ||| b) := by
  apply wb_inj
  rw [Int64.toBitVec_or, wb_tb, wb_tb, wb_tb]
  apply BitVec.eq_of_toNat_eq
  rw [BitVec.toNat_or, BitVec.toNat_ofNat, BitVec.toNat_ofNat, BitVec.toNat_ofNat, Nat.mod_eq_of_lt ha, Nat.mod_eq_of_lt hb, Nat.mod_eq_of_lt (Nat.or_lt_two_pow ha hb)]
theorem wb_mask {n k : Nat} (hn : n < 2 ^ 64) (hk : k < 64) : lN n &&& lN (2 ^ k - 1) = lN (n % 2 ^ k) := by
  rw [wb_and hn (by have := wb_lt2 hk; omega), Nat.and_two_pow_sub_one_eq_mod]
theorem wb_a1 {n : Nat} (hn : n < 2 ^ 64) : lN n &&& 1 = lN (n % 2) := wb_mask (k := 1) hn (by decide)
theorem wb_bit {n k : Nat} (hn : n < 2 ^ 64) (hk : k < 64) : ((lN n).toUInt64 >>> ((nI k).toInt64.toUInt64 &&& Int64.toUInt64 63)).toInt64 &&& 1 = lN (n / 2 ^ k % 2) := by
  rw [wb_shr hn hk, wb_a1 (Nat.lt_of_le_of_lt (Nat.div_le_self _ _) hn)]
-- BYTES OF A LONG
def w8 (w : Int64) (j : Nat) : Nat := w.toBitVec.toNat / 2 ^ (8 * j) % 256
theorem w8_lt (w : Int64) (j : Nat) : w8 w j < 256 := Nat.mod_lt _ (by decide)
theorem w8_bit (w : Int64) (j i : Nat) : (w8 w j).testBit i = (decide (i < 8) && w.toBitVec.toNat.testBit (8 * j + i)) := by
  unfold w8
  rw [show (256 : Nat) = 2 ^ 8 from rfl, Nat.testBit_mod_two_pow, ← Nat.shiftRight_eq_div_pow, Nat.testBit_shiftRight]
theorem nI_mod (n : Nat) : (nI n).toBitVec.toNat = n % 2 ^ 32 := by
  show (BitVec.ofNat 32 n).toNat = _
  rw [BitVec.toNat_ofNat]
theorem i255 (x : Int32) : x &&& 255 = nI (x.toBitVec.toNat % 256) := pk_and x 8 (by decide)
theorem w8_get (w : Int64) {j : Nat} (hj : j < 8) : (Int64.toInt32 ((Int64.toUInt64 w >>> ((Int32.toInt64 (nI (8 * j))).toUInt64 &&& Int64.toUInt64 63)).toInt64)) &&& 255 = nI (w8 w j) := by
  obtain ⟨n, hn, rfl⟩ := wb_of w
  rw [wb_shr hn (by omega), lN_i, i255, nI_mod]
  unfold w8
  rw [wb_tn hn]
  congr 1
  omega
theorem l255 (y : Int64) : y &&& 255 = lN (y.toBitVec.toNat % 256) := by
  obtain ⟨n, hn, rfl⟩ := wb_of y
  have := wb_mask (n := n) (k := 8) hn (by decide)
  rw [wb_tn hn]
  exact this
theorem sx8 (x : Int32) : x.toInt64.toBitVec.toNat % 256 = x.toBitVec.toNat % 256 := by
  apply Nat.eq_of_testBit_eq
  intro i
  rw [show (256 : Nat) = 2 ^ 8 from rfl, Nat.testBit_mod_two_pow, Nat.testBit_mod_two_pow]
  by_cases hi : i < 8
  · have h1 : x.toInt64.toBitVec = x.toBitVec.signExtend 64 := by simp
    rw [h1]
    have h2 : (x.toBitVec.signExtend 64).getLsbD i = x.toBitVec.getLsbD i := by
      rw [BitVec.getLsbD_signExtend]
      simp [show i < 64 by omega, show i < 32 by omega]
    simp only [BitVec.getLsbD] at h2
    rw [h2]
  · simp [hi]
theorem lxm (a : Nat) (ha : a < 2 ^ 64) : lN a ^^^ (-1) = lN (a ^^^ (2 ^ 64 - 1)) := by
  apply wb_inj
  rw [show ((-1 : Int64)) = lN (2 ^ 64 - 1) by decide +kernel, Int64.toBitVec_xor, wb_tb, wb_tb, wb_tb]
  apply BitVec.eq_of_toNat_eq
  rw [BitVec.toNat_xor, BitVec.toNat_ofNat, BitVec.toNat_ofNat, BitVec.toNat_ofNat, Nat.mod_eq_of_lt ha, Nat.mod_eq_of_lt (by decide), Nat.mod_eq_of_lt (Nat.xor_lt_two_pow ha (by decide))]
theorem t255 (i : Nat) : (255 : Nat).testBit i = decide (i < 8) := by
  rw [show (255 : Nat) = 2 ^ 8 - 1 from rfl, Nat.testBit_two_pow_sub_one]
theorem tmp (x k i : Nat) : (x * 2 ^ k).testBit i = (decide (k ≤ i) && x.testBit (i - k)) := by
  rw [← Nat.shiftLeft_eq, Nat.testBit_shiftLeft]
theorem w8_set (w : Int64) {j : Nat} (hj : j < 8) (x : Int32) :
    w8 ((w &&& ((255 <<< (Int32.toInt64 (nI (8 * j)) &&& 63)) ^^^ (-1))) ||| (((Int32.toInt64 x) &&& 255) <<< (Int32.toInt64 (nI (8 * j)) &&& 63))) j = x.toBitVec.toNat % 256 ∧
    ∀ i, i < 8 → i ≠ j → w8 ((w &&& ((255 <<< (Int32.toInt64 (nI (8 * j)) &&& 63)) ^^^ (-1))) ||| (((Int32.toInt64 x) &&& 255) <<< (Int32.toInt64 (nI (8 * j)) &&& 63))) i = w8 w i := by
  obtain ⟨n, hn, rfl⟩ := wb_of w
  have hb : x.toBitVec.toNat % 256 < 256 := Nat.mod_lt _ (by decide)
  have hp : 2 ^ (8 * j) * 256 ≤ 2 ^ 64 := by
    rw [show (256 : Nat) = 2 ^ 8 from rfl, ← Nat.pow_add]
    exact Nat.pow_le_pow_right (by decide) (by omega)
  have hp0 : 0 < 2 ^ (8 * j) := Nat.pow_pos (by decide)
  have h255 : 255 * 2 ^ (8 * j) < 2 ^ 64 := by
    have : 255 * 2 ^ (8 * j) < 256 * 2 ^ (8 * j) := Nat.mul_lt_mul_of_pos_right (by decide) hp0
    rw [Nat.mul_comm] at hp
    omega
  have hbb : (x.toBitVec.toNat % 256) * 2 ^ (8 * j) < 2 ^ 64 := by
    have : (x.toBitVec.toNat % 256) * 2 ^ (8 * j) < 256 * 2 ^ (8 * j) := Nat.mul_lt_mul_of_pos_right hb hp0
    rw [Nat.mul_comm] at hp
    omega
  have hx : (255 * 2 ^ (8 * j)) ^^^ (2 ^ 64 - 1) < 2 ^ 64 := Nat.xor_lt_two_pow h255 (by decide)
  have ha : n &&& ((255 * 2 ^ (8 * j)) ^^^ (2 ^ 64 - 1)) < 2 ^ 64 := Nat.and_lt_two_pow _ hx
  have e : (lN n &&& ((255 <<< (Int32.toInt64 (nI (8 * j)) &&& 63)) ^^^ (-1))) ||| (((Int32.toInt64 x) &&& 255) <<< (Int32.toInt64 (nI (8 * j)) &&& 63)) = lN ((n &&& ((255 * 2 ^ (8 * j)) ^^^ (2 ^ 64 - 1))) ||| (x.toBitVec.toNat % 256) * 2 ^ (8 * j)) := by
    rw [show (255 : Int64) <<< (Int32.toInt64 (nI (8 * j)) &&& 63) = lN (255 * 2 ^ (8 * j)) from wb_shl 255 (by omega), lxm _ h255, wb_and hn hx, l255, sx8, wb_shl _ (by omega), wb_or ha hbb]
  rw [e]
  have hbit : ∀ i, ((n &&& ((255 * 2 ^ (8 * j)) ^^^ (2 ^ 64 - 1))) ||| (x.toBitVec.toNat % 256) * 2 ^ (8 * j)).testBit i = if 8 * j ≤ i ∧ i < 8 * j + 8 then (x.toBitVec.toNat % 256).testBit (i - 8 * j) else (n.testBit i && decide (i < 64)) := by
    intro i
    rw [Nat.testBit_or, Nat.testBit_and, Nat.testBit_xor, tmp, tmp, t255, Nat.testBit_two_pow_sub_one]
    have hz : ∀ k, 8 ≤ k → (x.toBitVec.toNat % 256).testBit k = false := fun k hk => Nat.testBit_lt_two_pow (Nat.lt_of_lt_of_le hb (by rw [show (256 : Nat) = 2 ^ 8 from rfl]; exact Nat.pow_le_pow_right (by decide) hk))
    by_cases h1 : 8 * j ≤ i
    · by_cases h2 : i < 8 * j + 8
      · rw [if_pos ⟨h1, h2⟩]
        simp [h1, show i - 8 * j < 8 by omega, show i < 64 by omega]
      · rw [if_neg (by omega), hz _ (by omega)]
        simp [h1, show ¬ (i - 8 * j < 8) by omega]
    · rw [if_neg (by omega)]
      simp [h1]
  have hlt : ((n &&& ((255 * 2 ^ (8 * j)) ^^^ (2 ^ 64 - 1))) ||| (x.toBitVec.toNat % 256) * 2 ^ (8 * j)) < 2 ^ 64 := Nat.or_lt_two_pow ha hbb
  refine ⟨?_, fun i hi hij => ?_⟩
  · apply Nat.eq_of_testBit_eq
    intro k
    rw [w8_bit, wb_tn hlt, hbit]
    by_cases hk : k < 8
    · rw [if_pos (by omega)]
      simp [hk]
    · have : (x.toBitVec.toNat % 256).testBit k = false := Nat.testBit_lt_two_pow (Nat.lt_of_lt_of_le hb (by rw [show (256 : Nat) = 2 ^ 8 from rfl]; exact Nat.pow_le_pow_right (by decide) (by omega)))
      rw [this]
      simp [hk]
  · apply Nat.eq_of_testBit_eq
    intro k
    rw [w8_bit, w8_bit, wb_tn hlt, wb_tn hn, hbit]
    by_cases hk : k < 8
    · rw [if_neg (by omega)]
      simp [show 8 * i + k < 64 by omega]
    · simp [hk]
