/-! LEADING ZEROS, MOVING RIGHT, PACKING -/
theorem iu {n k : Nat} (hn : n < 2 ^ 31) (hk : k < 32) : ((nI n).toUInt32 >>> ((nI k).toUInt32 &&& Int32.toUInt32 31)).toInt32 = nI (n / 2 ^ k) := by
  refine pk_ushrN (by omega) (nI k) k ?_
  have : ∀ k, k < 32 → (((nI k).toUInt32 &&& Int32.toUInt32 31).toBitVec % 32).toNat = k := by decide +kernel
  exact this k hk
theorem i32_sub {a b : Nat} (h : b ≤ a) : nI a - nI b = nI (a - b) := pk_sub h
theorem log2_eq {n L : Nat} (h1 : 2 ^ L ≤ n) (h2 : n < 2 ^ (L + 1)) : n.log2 = L := by
  have hn : n ≠ 0 := by have := Nat.two_pow_pos L; omega
  have a1 := Nat.log2_self_le hn
  have a2 := @Nat.lt_log2_self n
  have b1 : L < n.log2 + 1 := (Nat.pow_lt_pow_iff_right (by decide : 1 < 2)).mp (Nat.lt_of_le_of_lt h1 a2)
  have b2 : n.log2 < L + 1 := (Nat.pow_lt_pow_iff_right (by decide : 1 < 2)).mp (Nat.lt_of_le_of_lt a1 h2)
  omega
theorem nlz_leaf {n s : Nat} (h1 : 1 ≤ n / 2 ^ s) (h4 : n / 2 ^ s < 4) (hs : s ≤ 30) : ∃ L, nI (31 - s) - nI (n / 2 ^ s / 2) = nI (31 - L) ∧ L ≤ 31 ∧ 2 ^ L ≤ n ∧ n < 2 ^ (L + 1) := by
  have hp := Nat.two_pow_pos s
  have e1 : 2 ^ (s + 1) = 2 * 2 ^ s := by rw [Nat.pow_succ, Nat.mul_comm]
  have e2 : 2 ^ (s + 1 + 1) = 4 * 2 ^ s := by rw [Nat.pow_succ, e1]; omega
  have hm := Nat.div_add_mod n (2 ^ s)
  have hl := Nat.mod_lt n hp
  generalize n % 2 ^ s = r at hm hl
  rcases (show n / 2 ^ s = 1 ∨ n / 2 ^ s = 2 ∨ n / 2 ^ s = 3 by omega) with q | q | q
  · rw [q] at hm ⊢
    exact ⟨s, by rw [show (1 : Nat) / 2 = 0 from rfl, i32_sub (Nat.zero_le _), Nat.sub_zero], by omega, by omega, by omega⟩
  · rw [q] at hm ⊢
    exact ⟨s + 1, by rw [show (2 : Nat) / 2 = 1 from rfl, i32_sub (by omega), Nat.sub_sub], by omega, by omega, by omega⟩
  · rw [q] at hm ⊢
    exact ⟨s + 1, by rw [show (3 : Nat) / 2 = 1 from rfl, i32_sub (by omega), Nat.sub_sub], by omega, by omega, by omega⟩
set_option maxHeartbeats 4000000 in
theorem nlz32 {n : Nat} (h0 : 0 < n) (h : n < 2 ^ 31) : ∃ L, fJ6_numberOfLeadingZeros_0f7a4 (nI n) = nI (31 - L) ∧ L ≤ 31 ∧ 2 ^ L ≤ n ∧ n < 2 ^ (L + 1) := by
  unfold fJ6_numberOfLeadingZeros_0f7a4
  rw [if_pos (show (0 : Int32) < nI n from nI_lt (a := 0) h0 (by omega))]
  simp only [show (65536 : Int32) = nI 65536 from rfl, show (256 : Int32) = nI 256 from rfl, show (16 : Int32) = nI 16 from rfl, show (4 : Int32) = nI 4 from rfl, show (1 : Int32) = nI 1 from rfl, show (2 : Int32) = nI 2 from rfl, show (8 : Int32) = nI 8 from rfl]
  have d : n < 2 ^ 31 := by omega
  have d_16 : n / 2 ^ 16 < 2 ^ 31 := by omega
  have d_8 : n / 2 ^ 8 < 2 ^ 31 := by omega
  have d_4 : n / 2 ^ 4 < 2 ^ 31 := by omega
  have d_2 : n / 2 ^ 2 < 2 ^ 31 := by omega
  have d_16_8 : n / 2 ^ 16 / 2 ^ 8 < 2 ^ 31 := by omega
  have d_16_4 : n / 2 ^ 16 / 2 ^ 4 < 2 ^ 31 := by omega
  have d_16_2 : n / 2 ^ 16 / 2 ^ 2 < 2 ^ 31 := by omega
  have d_8_4 : n / 2 ^ 8 / 2 ^ 4 < 2 ^ 31 := by omega
  have d_8_2 : n / 2 ^ 8 / 2 ^ 2 < 2 ^ 31 := by omega
  have d_4_2 : n / 2 ^ 4 / 2 ^ 2 < 2 ^ 31 := by omega
  have d_16_8_4 : n / 2 ^ 16 / 2 ^ 8 / 2 ^ 4 < 2 ^ 31 := by omega
  have d_16_8_2 : n / 2 ^ 16 / 2 ^ 8 / 2 ^ 2 < 2 ^ 31 := by omega
  have d_16_4_2 : n / 2 ^ 16 / 2 ^ 4 / 2 ^ 2 < 2 ^ 31 := by omega
  have d_8_4_2 : n / 2 ^ 8 / 2 ^ 4 / 2 ^ 2 < 2 ^ 31 := by omega
  have d_16_8_4_2 : n / 2 ^ 16 / 2 ^ 8 / 2 ^ 4 / 2 ^ 2 < 2 ^ 31 := by omega
  simp only [iu d (show 16 < 32 by decide), iu d (show 8 < 32 by decide), iu d (show 4 < 32 by decide), iu d (show 2 < 32 by decide), iu d (show 1 < 32 by decide), nI_ltI d (show 65536 < 2 ^ 31 by decide), nI_ltI d (show 256 < 2 ^ 31 by decide), nI_ltI d (show 16 < 2 ^ 31 by decide), nI_ltI d (show 4 < 2 ^ 31 by decide), iu d_16 (show 8 < 32 by decide), iu d_16 (show 4 < 32 by decide), iu d_16 (show 2 < 32 by decide), iu d_16 (show 1 < 32 by decide), nI_ltI d_16 (show 256 < 2 ^ 31 by decide), nI_ltI d_16 (show 16 < 2 ^ 31 by decide), nI_ltI d_16 (show 4 < 2 ^ 31 by decide), iu d_8 (show 4 < 32 by decide), iu d_8 (show 2 < 32 by decide), iu d_8 (show 1 < 32 by decide), nI_ltI d_8 (show 16 < 2 ^ 31 by decide), nI_ltI d_8 (show 4 < 2 ^ 31 by decide), iu d_4 (show 2 < 32 by decide), iu d_4 (show 1 < 32 by decide), nI_ltI d_4 (show 4 < 2 ^ 31 by decide), iu d_2 (show 1 < 32 by decide), iu d_16_8 (show 4 < 32 by decide), iu d_16_8 (show 2 < 32 by decide), iu d_16_8 (show 1 < 32 by decide), nI_ltI d_16_8 (show 16 < 2 ^ 31 by decide), nI_ltI d_16_8 (show 4 < 2 ^ 31 by decide), iu d_16_4 (show 2 < 32 by decide), iu d_16_4 (show 1 < 32 by decide), nI_ltI d_16_4 (show 4 < 2 ^ 31 by decide), iu d_16_2 (show 1 < 32 by decide), iu d_8_4 (show 2 < 32 by decide), iu d_8_4 (show 1 < 32 by decide), nI_ltI d_8_4 (show 4 < 2 ^ 31 by decide), iu d_8_2 (show 1 < 32 by decide), iu d_4_2 (show 1 < 32 by decide), iu d_16_8_4 (show 2 < 32 by decide), iu d_16_8_4 (show 1 < 32 by decide), nI_ltI d_16_8_4 (show 4 < 2 ^ 31 by decide), iu d_16_8_2 (show 1 < 32 by decide), iu d_16_4_2 (show 1 < 32 by decide), iu d_8_4_2 (show 1 < 32 by decide), iu d_16_8_4_2 (show 1 < 32 by decide)]
  by_cases q0 : n < 65536
  · rw [if_pos q0]
    by_cases q1 : n < 256
    · rw [if_pos q1]
      by_cases q2 : n < 16
      · rw [if_pos q2]
        by_cases q3 : n < 4
        · rw [if_pos q3]
          have z := nlz_leaf (n := n) (s := 0) (by rw [Nat.pow_zero, Nat.div_one]; omega) (by rw [Nat.pow_zero, Nat.div_one]; omega) (by decide)
          rw [Nat.pow_zero, Nat.div_one] at z
          exact z
        · rw [if_neg q3]
          exact nlz_leaf (s := 2) (by omega) (by omega) (by decide)
      · rw [if_neg q2]
        by_cases q3 : n / 2 ^ 4 < 4
        · rw [if_pos q3]
          exact nlz_leaf (s := 4) (by omega) (by omega) (by decide)
        · rw [if_neg q3]
          rw [(show n / 2 ^ 4 / 2 ^ 2 = n / 2 ^ 6 by omega)]
          exact nlz_leaf (s := 6) (by omega) (by omega) (by decide)
    · rw [if_neg q1]
      by_cases q2 : n / 2 ^ 8 < 16
      · rw [if_pos q2]
        by_cases q3 : n / 2 ^ 8 < 4
        · rw [if_pos q3]
          exact nlz_leaf (s := 8) (by omega) (by omega) (by decide)
        · rw [if_neg q3]
          rw [(show n / 2 ^ 8 / 2 ^ 2 = n / 2 ^ 10 by omega)]
          exact nlz_leaf (s := 10) (by omega) (by omega) (by decide)
      · rw [if_neg q2]
        by_cases q3 : n / 2 ^ 8 / 2 ^ 4 < 4
        · rw [if_pos q3]
          rw [(show n / 2 ^ 8 / 2 ^ 4 = n / 2 ^ 12 by omega)]
          exact nlz_leaf (s := 12) (by omega) (by omega) (by decide)
        · rw [if_neg q3]
          rw [(show n / 2 ^ 8 / 2 ^ 4 / 2 ^ 2 = n / 2 ^ 14 by omega)]
          exact nlz_leaf (s := 14) (by omega) (by omega) (by decide)
  · rw [if_neg q0]
    by_cases q1 : n / 2 ^ 16 < 256
    · rw [if_pos q1]
      by_cases q2 : n / 2 ^ 16 < 16
      · rw [if_pos q2]
        by_cases q3 : n / 2 ^ 16 < 4
        · rw [if_pos q3]
          exact nlz_leaf (s := 16) (by omega) (by omega) (by decide)
        · rw [if_neg q3]
          rw [(show n / 2 ^ 16 / 2 ^ 2 = n / 2 ^ 18 by omega)]
          exact nlz_leaf (s := 18) (by omega) (by omega) (by decide)
      · rw [if_neg q2]
        by_cases q3 : n / 2 ^ 16 / 2 ^ 4 < 4
        · rw [if_pos q3]
          rw [(show n / 2 ^ 16 / 2 ^ 4 = n / 2 ^ 20 by omega)]
          exact nlz_leaf (s := 20) (by omega) (by omega) (by decide)
        · rw [if_neg q3]
          rw [(show n / 2 ^ 16 / 2 ^ 4 / 2 ^ 2 = n / 2 ^ 22 by omega)]
          exact nlz_leaf (s := 22) (by omega) (by omega) (by decide)
    · rw [if_neg q1]
      by_cases q2 : n / 2 ^ 16 / 2 ^ 8 < 16
      · rw [if_pos q2]
        by_cases q3 : n / 2 ^ 16 / 2 ^ 8 < 4
        · rw [if_pos q3]
          rw [(show n / 2 ^ 16 / 2 ^ 8 = n / 2 ^ 24 by omega)]
          exact nlz_leaf (s := 24) (by omega) (by omega) (by decide)
        · rw [if_neg q3]
          rw [(show n / 2 ^ 16 / 2 ^ 8 / 2 ^ 2 = n / 2 ^ 26 by omega)]
          exact nlz_leaf (s := 26) (by omega) (by omega) (by decide)
      · rw [if_neg q2]
        by_cases q3 : n / 2 ^ 16 / 2 ^ 8 / 2 ^ 4 < 4
        · rw [if_pos q3]
          rw [(show n / 2 ^ 16 / 2 ^ 8 / 2 ^ 4 = n / 2 ^ 28 by omega)]
          exact nlz_leaf (s := 28) (by omega) (by omega) (by decide)
        · rw [if_neg q3]
          rw [(show n / 2 ^ 16 / 2 ^ 8 / 2 ^ 4 / 2 ^ 2 = n / 2 ^ 30 by omega)]
          exact nlz_leaf (s := 30) (by omega) (by omega) (by decide)
theorem nlz32h {n : Nat} (h0 : 2 ^ 31 ≤ n) (h : n < 2 ^ 32) : fJ6_numberOfLeadingZeros_0f7a4 (nI n) = nI 0 := by
  have ht : (nI n).toInt = (n : Int) - 2 ^ 32 := by
    show (Int32.ofNat n).toInt = _
    rw [Int32.toInt_ofNat', show Int32.size = 4294967296 from rfl, Int.bmod_def, if_neg (by omega)]
    omega
  unfold fJ6_numberOfLeadingZeros_0f7a4
  rw [if_neg (by rw [Int32.lt_iff_toInt_lt, ht]; show ¬ (0 : Int) < _; omega), if_neg (fun e => by have := congrArg Int32.toInt e; rw [ht] at this; have h0 : (0 : Int32).toInt = 0 := rfl; rw [h0] at this; omega)]
  rfl
/-- the place of the leading bit -/
theorem nlz64 {n : Nat} (h0 : 0 < n) (h : n < 2 ^ 63) : ∃ L, fJ13_numberOfLeadingZeros_95d88 (lN n) = nI (63 - L) ∧ L ≤ 62 ∧ 2 ^ L ≤ n ∧ n < 2 ^ (L + 1) := by
  unfold fJ13_numberOfLeadingZeros_95d88
  have e : ((lN n).toUInt64 >>> ((32 : Int32).toInt64.toUInt64 &&& Int64.toUInt64 63)).toInt64.toInt32 = nI (n / 2 ^ 32) := by
    rw [show (32 : Int32) = nI 32 from rfl, wb_shr (by omega) (by decide), lN_i]
  rw [e, lN_i]
  by_cases q : n / 2 ^ 32 = 0
  · rw [if_pos (by rw [q]; rfl)]
    by_cases q2 : n < 2 ^ 31
    · obtain ⟨L, e1, e2, e3, e4⟩ := nlz32 h0 q2
      refine ⟨L, ?_, by omega, e3, e4⟩
      rw [e1, show (32 : Int32) = nI 32 from rfl, nI_add, show 32 + (31 - L) = 63 - L by omega]
    · rw [nlz32h (by omega) (by omega)]
      exact ⟨31, rfl, by omega, by omega, by omega⟩
  · rw [if_neg (nI_ne0 (by omega) (by omega))]
    obtain ⟨L, e1, e2, e3, e4⟩ := nlz32 (n := n / 2 ^ 32) (by omega) (by omega)
    have p1 : 2 ^ (L + 32) = 2 ^ L * 2 ^ 32 := Nat.pow_add 2 L 32
    have p2 : 2 ^ (L + 32 + 1) = 2 ^ (L + 1) * 2 ^ 32 := by rw [show L + 32 + 1 = (L + 1) + 32 by omega, Nat.pow_add]
    have hL : L ≤ 30 := by
      rcases Nat.lt_or_ge 30 L with z | z
      · have : 2 ^ 31 ≤ 2 ^ L := Nat.pow_le_pow_right (by decide) z
        omega
      · exact z
    refine ⟨L + 32, ?_, by omega, ?_, ?_⟩
    · rw [e1, show 63 - (L + 32) = 31 - L by omega]
    · rw [p1]; exact (Nat.le_div_iff_mul_le (by decide)).mp e3
    · rw [p2]; exact (Nat.div_lt_iff_lt_mul (by decide)).mp e4
/-- moved right, what falls off in the last bit -/
def jam (m b : Nat) : Nat := m / 2 ^ b ||| (if m % 2 ^ b = 0 then 0 else 1)
theorem or_one (n : Nat) : n ||| 1 = if n % 2 = 1 then n else n + 1 := by
  have h := Nat.div_add_mod n 2
  rcases Nat.mod_two_eq_zero_or_one n with q | q
  · rw [if_neg (by omega)]
    have := or_sum (a := 1) (b := n / 2) (k := 1) (by decide)
    have e : n = 2 ^ 1 * (n / 2) := by omega
    calc n ||| 1 = 1 ||| n := Nat.or_comm _ _
      _ = 1 ||| 2 ^ 1 * (n / 2) := by rw [← e]
      _ = 1 + 2 ^ 1 * (n / 2) := this
      _ = n + 1 := by omega
  · rw [if_pos q]
    apply Nat.eq_of_testBit_eq
    intro i
    rw [Nat.testBit_or]
    cases i with
    | zero => simp [Nat.testBit_zero, q]
    | succ i => rw [Nat.testBit_succ 1, show (1 : Nat) / 2 = 0 from rfl, Nat.zero_testBit, Bool.or_false]
theorem jam_near (m b : Nat) : Near (jam m b) m (2 ^ b) := by
  have hp := Nat.two_pow_pos b
  have h := Nat.div_add_mod m (2 ^ b)
  have hl := Nat.mod_lt m hp
  unfold jam
  by_cases q : m % 2 ^ b = 0
  · rw [if_pos q, Nat.or_zero]
    left; rw [q, Nat.add_zero, Nat.mul_comm] at h; exact h.symm
  · rw [if_neg q, or_one]
    generalize m / 2 ^ b = x at h
    right
    have ex : ∀ y : Nat, (y + 1) * 2 ^ b = y * 2 ^ b + 2 ^ b := fun y => Nat.succ_mul y _
    rw [Nat.mul_comm] at h
    by_cases o : x % 2 = 1
    · rw [if_pos o]
      obtain ⟨y, rfl⟩ : ∃ y, x = y + 1 := ⟨x - 1, by omega⟩
      refine ⟨o, ?_, ?_⟩
      · rw [Nat.add_sub_cancel, ← h, ex]; omega
      · rw [ex, ← h]; omega
    · rw [if_neg o]
      refine ⟨by omega, ?_, ?_⟩
      · rw [Nat.add_sub_cancel, ← h]; omega
      · rw [ex, ex, ← h]; omega
theorem r_moved {m b : Nat} (hm : m < 2 ^ 63) (hb : b < 2 ^ 30) : fX1_moved (lN m) (nI b) = lN (jam m b) := by
  unfold fX1_moved jam
  by_cases q : b < 63
  · rw [if_pos (show nI b < (63 : Int32) from nI_lt (a := b) (b := 63) q (by decide))]
    rw [wb_shr (by omega) (by omega), wb_shl _ (by omega)]
    have hd : m / 2 ^ b ≤ m := Nat.div_le_self _ _
    have h := Nat.div_add_mod m (2 ^ b)
    rw [Nat.mul_comm] at h
    have hle : m / 2 ^ b * 2 ^ b ≤ m := Nat.div_mul_le_self _ _
    simp only [lc_eq (show m / 2 ^ b * 2 ^ b < 2 ^ 64 by omega) (show m < 2 ^ 64 by omega)]
    by_cases z : m % 2 ^ b = 0
    · rw [if_pos (by omega), if_pos z, Nat.or_zero]
    · rw [if_neg (by omega), if_neg z, show (1 : Int64) = lN 1 from rfl, wb_or (by omega) (by decide)]
  · have h2 : m / 2 ^ b = 0 := Nat.div_eq_of_lt (Nat.lt_of_lt_of_le hm (Nat.pow_le_pow_right (by decide) (by omega)))
    have h3 : m % 2 ^ b = m := Nat.mod_eq_of_lt (Nat.lt_of_lt_of_le hm (Nat.pow_le_pow_right (by decide) (by omega)))
    rw [if_neg (show ¬ nI b < (63 : Int32) from nI_nlt (a := b) (b := 63) (by omega) (by omega)), h2, h3]
    simp only [show (0 : Int64) = lN 0 from rfl, lc_eq (show m < 2 ^ 64 by omega) (show 0 < 2 ^ 64 by decide)]
    by_cases z : m = 0
    · rw [if_pos z, if_pos z]; rfl
    · rw [if_neg z, if_neg z]; rfl
