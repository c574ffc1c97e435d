/-! rows on lN: begun with the kit's BITS.to-paste (lN n to 2^64) -/
/-! ===== lN n to 2^64: shifts, and, or, masks, one bit ===== -/
theorem wb_tb (n : Nat) : (lN n).toBitVec = BitVec.ofNat 64 n := rfl
theorem wb_inj {a b : Int64} (h : a.toBitVec = b.toBitVec) : a = b := Int64.toBitVec_inj.mp h
theorem wb_tn {n : Nat} (h : n < 2 ^ 64) : (lN n).toBitVec.toNat = n := by rw [wb_tb, BitVec.toNat_ofNat, Nat.mod_eq_of_lt h]
theorem wb_of (x : Int64) : ∃ n, n < 2 ^ 64 ∧ x = lN n := ⟨x.toBitVec.toNat, x.toBitVec.isLt, wb_inj (by rw [wb_tb]; simp)⟩
theorem wb_of32 (x : Int32) : ∃ n, n < 2 ^ 32 ∧ x = nI n := ⟨x.toBitVec.toNat, x.toBitVec.isLt, Int32.toBitVec_inj.mp (by show _ = BitVec.ofNat 32 _; simp)⟩
theorem wb_c : ∀ k, k < 64 → ((nI k).toInt64 &&& 63) = lN k := by decide +kernel
theorem wb_cu : ∀ k, k < 64 → ((nI k).toInt64.toUInt64 &&& Int64.toUInt64 63) = UInt64.ofNat k := by decide +kernel
theorem wb_sm : ∀ k, k < 64 → (BitVec.ofNat 64 k).smod 64 = BitVec.ofNat 64 k := by decide +kernel
theorem wb_pw {a b : Nat} (h : a ≤ b) : 2 ^ b = 2 ^ a * 2 ^ (b - a) := by rw [← Nat.pow_add]; congr 1; omega
theorem wb_lt2 {a b : Nat} (h : a < b) : 2 ^ a < 2 ^ b := Nat.pow_lt_pow_right (by decide) h
theorem wb_mod (n : Nat) : lN n = lN (n % 2 ^ 64) := wb_inj (by rw [wb_tb, wb_tb]; apply BitVec.eq_of_toNat_eq; rw [BitVec.toNat_ofNat, BitVec.toNat_ofNat, Nat.mod_mod])
theorem wb_shr {n k : Nat} (hn : n < 2 ^ 64) (hk : k < 64) : ((lN n).toUInt64 >>> ((nI k).toInt64.toUInt64 &&& Int64.toUInt64 63)).toInt64 = lN (n / 2 ^ k) := by
  rw [wb_cu k hk]
  apply wb_inj
  apply BitVec.eq_of_toNat_eq
  show ((lN n).toUInt64 >>> UInt64.ofNat k).toNat = (BitVec.ofNat 64 _).toNat
  have h1 : (UInt64.ofNat k).toNat = k := by
    show (BitVec.ofNat 64 k).toNat = k
    rw [BitVec.toNat_ofNat, Nat.mod_eq_of_lt (by omega)]
  have h2 : (lN n).toUInt64.toNat = n := wb_tn hn
  rw [UInt64.toNat_shiftRight, h1, h2, Nat.mod_eq_of_lt hk, Nat.shiftRight_eq_div_pow, BitVec.toNat_ofNat, Nat.mod_eq_of_lt (Nat.lt_of_le_of_lt (Nat.div_le_self _ _) hn)]
theorem wb_shl (n : Nat) {k : Nat} (hk : k < 64) : lN n <<< ((nI k).toInt64 &&& 63) = lN (n * 2 ^ k) := by
  rw [wb_c k hk]
  apply wb_inj
  rw [Int64.toBitVec_shiftLeft, wb_tb, wb_tb, wb_tb, wb_sm k hk]
  apply BitVec.eq_of_toNat_eq
  rw [BitVec.shiftLeft_eq', BitVec.toNat_shiftLeft, BitVec.toNat_ofNat, BitVec.toNat_ofNat, BitVec.toNat_ofNat, Nat.mod_eq_of_lt (show k < 2 ^ 64 by omega), Nat.shiftLeft_eq, Nat.mul_mod, Nat.mod_mod, ← Nat.mul_mod]
theorem wb_and {a b : Nat} (ha : a < 2 ^ 64) (hb : b < 2 ^ 64) : lN a &&& lN b = lN (a &&& b) := by
  apply wb_inj
  rw [Int64.toBitVec_and, wb_tb, wb_tb, wb_tb]
  apply BitVec.eq_of_toNat_eq
  rw [BitVec.toNat_and, BitVec.toNat_ofNat, BitVec.toNat_ofNat, BitVec.toNat_ofNat, Nat.mod_eq_of_lt ha, Nat.mod_eq_of_lt hb, Nat.mod_eq_of_lt (Nat.and_lt_two_pow _ hb)]
theorem wb_or {a b : Nat} (ha : a < 2 ^ 64) (hb : b < 2 ^ 64) : lN a ||| lN b = lN (a ||| b) := by
  apply wb_inj
  rw [Int64.toBitVec_or, wb_tb, wb_tb, wb_tb]
  apply BitVec.eq_of_toNat_eq
  rw [BitVec.toNat_or, BitVec.toNat_ofNat, BitVec.toNat_ofNat, BitVec.toNat_ofNat, Nat.mod_eq_of_lt ha, Nat.mod_eq_of_lt hb, Nat.mod_eq_of_lt (Nat.or_lt_two_pow ha hb)]
theorem wb_mask {n k : Nat} (hn : n < 2 ^ 64) (hk : k < 64) : lN n &&& lN (2 ^ k - 1) = lN (n % 2 ^ k) := by
  rw [wb_and hn (by have := wb_lt2 hk; omega), Nat.and_two_pow_sub_one_eq_mod]
theorem wb_a1 {n : Nat} (hn : n < 2 ^ 64) : lN n &&& 1 = lN (n % 2) := wb_mask (k := 1) hn (by decide)
theorem wb_bit {n k : Nat} (hn : n < 2 ^ 64) (hk : k < 64) : ((lN n).toUInt64 >>> ((nI k).toInt64.toUInt64 &&& Int64.toUInt64 63)).toInt64 &&& 1 = lN (n / 2 ^ k % 2) := by
  rw [wb_shr hn hk, wb_a1 (Nat.lt_of_le_of_lt (Nat.div_le_self _ _) hn)]
theorem wb_xor {q k : Nat} (hk : k < 63) (h : 2 ^ k ≤ q) (h2 : q < 2 ^ (k + 1)) : lN q ^^^ lN (2 ^ k) = lN (q - 2 ^ k) := by
  obtain ⟨r, rfl⟩ : ∃ r, q = 2 ^ k + r := ⟨q - 2 ^ k, by omega⟩
  have hr : r < 2 ^ k := by rw [Nat.pow_succ] at h2; omega
  have hx : (2 ^ k + r) ^^^ 2 ^ k = r := by
    apply Nat.eq_of_testBit_eq
    intro i
    rw [Nat.testBit_xor, Nat.testBit_two_pow]
    rcases Nat.lt_trichotomy i k with h | h | h
    · rw [Nat.testBit_two_pow_add_gt h]
      simp [show ¬ k = i by omega]
    · subst h
      rw [Nat.testBit_two_pow_add_eq]
      simp
    · have a1 : 2 ^ (k + 1) ≤ 2 ^ i := Nat.pow_le_pow_right (by decide) h
      rw [Nat.testBit_lt_two_pow (show 2 ^ k + r < 2 ^ i by omega), Nat.testBit_lt_two_pow (show r < 2 ^ i by omega)]
      simp [show ¬ k = i by omega]
  have b1 := wb_lt2 (show k + 1 < 64 by omega)
  have b2 := wb_lt2 (show k < 64 by omega)
  apply wb_inj
  rw [Int64.toBitVec_xor, wb_tb, wb_tb, wb_tb]
  apply BitVec.eq_of_toNat_eq
  rw [BitVec.toNat_xor, BitVec.toNat_ofNat, BitVec.toNat_ofNat, BitVec.toNat_ofNat, Nat.mod_eq_of_lt (by omega : 2 ^ k + r < 2 ^ 64), Nat.mod_eq_of_lt b2, hx, Nat.add_sub_cancel_left, Nat.mod_eq_of_lt (by omega)]
/-! THE CLASS'S BITS AS NATURAL NUMBERS -/
theorem lc_le {a b : Nat} (ha : a < 2 ^ 63) (hb : b < 2 ^ 63) : lg_cmp (lN a) (lN b) ≤ 0 ↔ a ≤ b := by rw [lg_cmp_le, pk_lLE ha hb]
theorem lc_lt {a b : Nat} (ha : a < 2 ^ 63) (hb : b < 2 ^ 63) : lg_cmp (lN a) (lN b) < 0 ↔ a < b := by rw [lg_cmp_lt, pk_lLT ha hb]
theorem lc_gt {a b : Nat} (ha : a < 2 ^ 63) (hb : b < 2 ^ 63) : 0 < lg_cmp (lN a) (lN b) ↔ b < a := by rw [lg_cmp_gt, pk_lLT hb ha]
theorem lc_ge {a b : Nat} (ha : a < 2 ^ 63) (hb : b < 2 ^ 63) : 0 ≤ lg_cmp (lN a) (lN b) ↔ b ≤ a := by rw [lg_cmp_ge, pk_lLE hb ha]
theorem lN_inj64 {a b : Nat} (ha : a < 2 ^ 64) (hb : b < 2 ^ 64) : lN a = lN b ↔ a = b := by
  constructor
  · intro h
    have := congrArg (fun x : Int64 => x.toBitVec.toNat) h
    simpa [wb_tn ha, wb_tn hb] using this
  · intro h; rw [h]
theorem lc_eq {a b : Nat} (ha : a < 2 ^ 64) (hb : b < 2 ^ 64) : lg_cmp (lN a) (lN b) = 0 ↔ a = b := by rw [lg_cmp_eq, lN_inj64 ha hb]
theorem mag_and {u : Nat} (h : u < 2 ^ 64) : lN u &&& (9223372036854775807 : Int64) = lN (u % 2 ^ 63) := wb_mask (k := 63) h (by decide)
theorem tl_and {u : Nat} (h : u < 2 ^ 64) : lN u &&& (4503599627370495 : Int64) = lN (u % 2 ^ 52) := wb_mask (k := 52) h (by decide)
theorem ex_nat (u : Nat) : u &&& 9218868437227405312 = u / 2 ^ 52 % 2048 * 2 ^ 52 := by
  have e : (9218868437227405312 : Nat) = 2047 * 2 ^ 52 := by decide
  rw [e]
  have h1 : u = u / 2 ^ 52 * 2 ^ 52 + u % 2 ^ 52 := by omega
  apply Nat.eq_of_testBit_eq
  intro i
  rw [Nat.testBit_and, Nat.testBit_mul_two_pow, Nat.testBit_mul_two_pow]
  by_cases hi : 52 ≤ i
  · simp only [hi, decide_true, Bool.true_and]
    rw [show (2048 : Nat) = 2 ^ 11 by decide, Nat.testBit_mod_two_pow, Nat.testBit_div_two_pow, show (2047 : Nat) = 2 ^ 11 - 1 by decide, Nat.testBit_two_pow_sub_one]
    rw [show i - 52 + 52 = i by omega]
    cases decide (i - 52 < 11) <;> simp
  · simp [hi]
theorem ex_and {u : Nat} (h : u < 2 ^ 64) : lN u &&& (9218868437227405312 : Int64) = lN (u / 2 ^ 52 % 2048 * 2 ^ 52) := by
  rw [show (9218868437227405312 : Int64) = lN 9218868437227405312 from rfl, wb_and h (by decide), ex_nat]
theorem sg_nat {u : Nat} (h : u < 2 ^ 64) : u &&& 9223372036854775808 = u / 2 ^ 63 * 2 ^ 63 := by
  apply Nat.eq_of_testBit_eq
  intro i
  rw [show (9223372036854775808 : Nat) = 2 ^ 63 by decide, Nat.testBit_and, Nat.testBit_mul_two_pow, Nat.testBit_two_pow]
  by_cases hi : i = 63
  · subst hi; simp only [Nat.testBit_div_two_pow, Nat.sub_self, Nat.zero_add, Nat.le_refl, decide_true, Bool.true_and, Bool.and_true]
  · by_cases h2 : 63 ≤ i
    · have : u.testBit i = false := Nat.testBit_lt_two_pow (Nat.lt_of_lt_of_le h (Nat.pow_le_pow_right (by decide) (by omega)))
      rw [Nat.testBit_div_two_pow, show i - 63 + 63 = i by omega, this]; simp
    · simp [h2, Ne.symm hi]
theorem sg_and {u : Nat} (h : u < 2 ^ 64) : lN u &&& (-9223372036854775808 : Int64) = lN (u / 2 ^ 63 * 2 ^ 63) := by
  rw [show (-9223372036854775808 : Int64) = lN 9223372036854775808 from rfl, wb_and h (by decide), sg_nat h]
/-- not a number -/
def nNaN (u : Nat) : Prop := 9218868437227405312 < u % 2 ^ 63
theorem r_isNone {u : Nat} (h : u < 2 ^ 64) : fX1_isNone (lN u) = if u % 2 ^ 63 ≤ 9218868437227405312 then 0 else 1 := by
  unfold fX1_isNone
  rw [mag_and h, show (9218868437227405312 : Int64) = lN 9218868437227405312 from rfl]
  simp only [lc_le (show u % 2 ^ 63 < 2 ^ 63 from Nat.mod_lt _ (by decide)) (show 9218868437227405312 < 2 ^ 63 by decide)]
theorem r_isZero {u : Nat} (h : u < 2 ^ 64) : fX1_isZero (lN u) = if u % 2 ^ 63 = 0 then 1 else 0 := by
  unfold fX1_isZero
  rw [mag_and h, show (0 : Int64) = lN 0 from rfl]
  simp only [lc_eq (show u % 2 ^ 63 < 2 ^ 64 by omega) (show 0 < 2 ^ 64 by decide)]
theorem r_isInf {u : Nat} (h : u < 2 ^ 64) : fX1_isInfinite (lN u) = if u % 2 ^ 63 = 9218868437227405312 then 1 else 0 := by
  unfold fX1_isInfinite
  rw [mag_and h, show (9218868437227405312 : Int64) = lN 9218868437227405312 from rfl]
  simp only [lc_eq (show u % 2 ^ 63 < 2 ^ 64 by omega) (show 9218868437227405312 < 2 ^ 64 by decide)]
theorem r_isFinite {u : Nat} (h : u < 2 ^ 64) : fX1_isFinite (lN u) = if u % 2 ^ 63 < 9218868437227405312 then 1 else 0 := by
  unfold fX1_isFinite
  rw [mag_and h, show (9218868437227405312 : Int64) = lN 9218868437227405312 from rfl]
  simp only [lc_ge (show u % 2 ^ 63 < 2 ^ 63 from Nat.mod_lt _ (by decide)) (show 9218868437227405312 < 2 ^ 63 by decide)]
  by_cases q : u % 2 ^ 63 < 9218868437227405312
  · rw [if_neg (by omega), if_pos q]
  · rw [if_pos (by omega), if_neg q]
def nE (u : Nat) : Nat := u / 2 ^ 52 % 2048
def nSc (u : Nat) : Nat := if nE u = 0 then 1 else nE u
def nFr (u : Nat) : Nat := if nE u = 0 then u % 2 ^ 52 else 2 ^ 52 + u % 2 ^ 52
theorem nE_lt (u : Nat) : nE u < 2048 := Nat.mod_lt _ (by decide)
theorem r_scale {u : Nat} (h : u < 2 ^ 64) : fX1_scale (lN u) = nI (nSc u) := by
  unfold fX1_scale nSc
  have hE := nE_lt u
  have e : ((lN u &&& (9218868437227405312 : Int64)).toUInt64 >>> ((52 : Int32).toInt64.toUInt64 &&& Int64.toUInt64 63)).toInt64.toInt32 = nI (nE u) := by
    have h9 : u / 2 ^ 52 % 2048 * 2 ^ 52 < 2 ^ 64 := by omega
    rw [ex_and h, show (52 : Int32) = nI 52 from rfl, wb_shr h9 (by decide), Nat.mul_div_cancel _ (by decide), lN_i]
    rfl
  rw [e]
  by_cases q : nE u = 0
  · rw [if_pos (by rw [q]; rfl), if_pos q]; rfl
  · rw [if_neg (nI_ne0 (by omega) (by omega)), if_neg q]
theorem or_sum {a b k : Nat} (ha : a < 2 ^ k) : a ||| (2 ^ k * b) = a + 2 ^ k * b := by
  rw [Nat.or_comm, Nat.add_comm]
  exact (Nat.two_pow_add_eq_or_of_lt ha b).symm
theorem r_fraction {u : Nat} (h : u < 2 ^ 64) : fX1_fraction (lN u) = lN (nFr u) := by
  unfold fX1_fraction nFr
  have hE := nE_lt u
  have h9 : nE u * 2 ^ 52 < 2 ^ 64 := by omega
  have hT : u % 2 ^ 52 < 2 ^ 52 := Nat.mod_lt _ (by decide)
  rw [ex_and h, tl_and h, show (0 : Int64) = lN 0 from rfl, show (4503599627370496 : Int64) = lN (2 ^ 52) from rfl]
  simp only [lc_eq (show u / 2 ^ 52 % 2048 * 2 ^ 52 < 2 ^ 64 from h9) (show 0 < 2 ^ 64 by decide)]
  by_cases q : nE u = 0
  · rw [if_pos (by unfold nE at q; rw [q]), if_pos q]
  · rw [if_neg (by unfold nE at q; omega), if_neg q, wb_or (by omega) (by decide)]
    have := or_sum (b := 1) hT
    rw [Nat.mul_one] at this
    rw [this, Nat.add_comm]
