/-! PRODUCTS -/
theorem rr_up {f : FP.Core.Fmt} {s : Bool} {A B : Nat} {e : Int} (t : Nat) (hB : 0 < B) : FP.Core.roundRatio f s A B e = FP.Core.roundRatio f s (A * 2 ^ t) B (e - t) := by
  refine FP.Core.roundRatio_congr hB hB ?_
  rw [show (e - (e - (t : Int))).toNat = t by omega, show (e - (t : Int) - e).toNat = 0 by omega, Nat.pow_zero, Nat.mul_one, Nat.mul_assoc, Nat.mul_comm B, ← Nat.mul_assoc]
theorem rr_dn {f : FP.Core.Fmt} {s : Bool} {A B : Nat} {e : Int} (t : Nat) (hB : 0 < B) : FP.Core.roundRatio f s A B e = FP.Core.roundRatio f s A (B * 2 ^ t) (e + t) := by
  refine FP.Core.roundRatio_congr hB (Nat.mul_pos hB (Nat.two_pow_pos t)) ?_
  rw [show (e - (e + (t : Int))).toNat = 0 by omega, show (e + (t : Int) - e).toNat = t by omega, Nat.pow_zero, Nat.mul_one, Nat.mul_assoc]
/-- how far a fraction lies below a full one -/
def nLk (c : Nat) : Nat := 52 - c.log2
theorem r_lack {c : Nat} (h0 : 0 < c) (h : c < 2 ^ 53) : fX1_lack (lN c) = nI (nLk c) ∧ nLk c ≤ 52 ∧ 2 ^ 52 ≤ c * 2 ^ nLk c ∧ c * 2 ^ nLk c < 2 ^ 53 := by
  obtain ⟨L, e1, e2, e3, e4⟩ := nlz64 h0 (show c < 2 ^ 63 by omega)
  have hL : L ≤ 52 := by
    have : L < 53 := (Nat.pow_lt_pow_iff_right (by decide : 1 < 2)).mp (Nat.lt_of_le_of_lt e3 h)
    omega
  have hl : c.log2 = L := log2_eq e3 e4
  unfold nLk fX1_lack
  rw [hl, e1, show (11 : Int32) = nI 11 from rfl, i32_sub (by omega), show 63 - L - 11 = 52 - L by omega]
  refine ⟨rfl, by omega, ?_, ?_⟩
  · have : 2 ^ 52 = 2 ^ L * 2 ^ (52 - L) := by rw [← Nat.pow_add]; congr 1; omega
    rw [this]; exact Nat.mul_le_mul_right _ e3
  · have : 2 ^ 53 = 2 ^ (L + 1) * 2 ^ (52 - L) := by rw [← Nat.pow_add]; congr 1; omega
    rw [this]; exact (Nat.mul_lt_mul_right (Nat.two_pow_pos _)).mpr e4
theorem or_lo {a b k : Nat} (ha : a < 2 ^ k) (h : b * 2 ^ k + a < 2 ^ 64) : lN (b * 2 ^ k) ||| lN a = lN (b * 2 ^ k + a) := by
  have hb : b * 2 ^ k < 2 ^ 64 := by omega
  rw [wb_or hb (by omega), Nat.or_comm, Nat.mul_comm b, or_sum ha, Nat.add_comm]
theorem jam_cat {t r : Nat} : jam (t * 2 ^ 54 + r) 49 = t * 2 ^ 5 + jam r 49 := by
  unfold jam
  have e1 : (t * 2 ^ 54 + r) / 2 ^ 49 = t * 2 ^ 5 + r / 2 ^ 49 := by omega
  have e2 : (t * 2 ^ 54 + r) % 2 ^ 49 = r % 2 ^ 49 := by omega
  rw [e1, e2]
  by_cases q : r % 2 ^ 49 = 0
  · rw [if_pos q, Nat.or_zero, Nat.or_zero]
  · rw [if_neg q, or_one, or_one]
    by_cases o : r / 2 ^ 49 % 2 = 1
    · rw [if_pos o, if_pos (by omega)]
    · rw [if_neg o, if_neg (by omega)]; omega
set_option maxHeartbeats 2000000 in
theorem r_top {M N : Nat} (hM : M < 2 ^ 53) (hN : N < 2 ^ 53) : fX1_topOfProduct (lN M) (lN N) = lN (jam (M * N) 49) := by
  have mk : ((1 : Int64) <<< ((27 : Int32).toInt64 &&& 63)) - (1 : Int64) = lN (2 ^ 27 - 1) := by decide
  have sh : ∀ {n : Nat}, n < 2 ^ 64 → ((lN n).toUInt64 >>> ((27 : Int32).toInt64.toUInt64 &&& Int64.toUInt64 63)).toInt64 = lN (n / 2 ^ 27) := fun h => wb_shr (k := 27) h (by decide)
  have ms : ∀ {n : Nat}, n < 2 ^ 64 → lN n &&& lN (2 ^ 27 - 1) = lN (n % 2 ^ 27) := fun h => wb_mask h (by decide)
  have sl : ∀ n : Nat, lN n <<< ((27 : Int32).toInt64 &&& 63) = lN (n * 2 ^ 27) := fun n => wb_shl (k := 27) n (by decide)
  have s5 : ∀ n : Nat, lN n <<< ((5 : Int32).toInt64 &&& 63) = lN (n * 2 ^ 5) := fun n => wb_shl (k := 5) n (by decide)
  unfold fX1_topOfProduct
  rw [mk, sh (show M < 2 ^ 64 by omega), sh (show N < 2 ^ 64 by omega), ms (show M < 2 ^ 64 by omega), ms (show N < 2 ^ 64 by omega)]
  have hm1 : M / 2 ^ 27 < 2 ^ 26 := by omega
  have hn1 : N / 2 ^ 27 < 2 ^ 26 := by omega
  have hm0 : M % 2 ^ 27 < 2 ^ 27 := Nat.mod_lt _ (by decide)
  have hn0 : N % 2 ^ 27 < 2 ^ 27 := Nat.mod_lt _ (by decide)
  have eP : M * N = (M / 2 ^ 27 * 2 ^ 27 + M % 2 ^ 27) * (N / 2 ^ 27 * 2 ^ 27 + N % 2 ^ 27) := by
    rw [show M / 2 ^ 27 * 2 ^ 27 + M % 2 ^ 27 = M by omega, show N / 2 ^ 27 * 2 ^ 27 + N % 2 ^ 27 = N by omega]
  generalize M / 2 ^ 27 = m1 at hm1 eP ⊢
  generalize N / 2 ^ 27 = n1 at hn1 eP ⊢
  generalize M % 2 ^ 27 = m0 at hm0 eP ⊢
  generalize N % 2 ^ 27 = n0 at hn0 eP ⊢
  have p11 : m1 * n1 ≤ (2 ^ 26 - 1) * (2 ^ 26 - 1) := Nat.mul_le_mul (by omega) (by omega)
  have p10 : m1 * n0 ≤ (2 ^ 26 - 1) * (2 ^ 27 - 1) := Nat.mul_le_mul (by omega) (by omega)
  have p01 : m0 * n1 ≤ (2 ^ 27 - 1) * (2 ^ 26 - 1) := Nat.mul_le_mul (by omega) (by omega)
  have p00 : m0 * n0 ≤ (2 ^ 27 - 1) * (2 ^ 27 - 1) := Nat.mul_le_mul (by omega) (by omega)
  have eX : (m1 * 2 ^ 27 + m0) * (n1 * 2 ^ 27 + n0) = m1 * n1 * 2 ^ 54 + (m1 * n0 + m0 * n1) * 2 ^ 27 + m0 * n0 := by
    rw [Nat.add_mul, Nat.mul_add, Nat.mul_add, Nat.add_mul, show m1 * 2 ^ 27 * (n1 * 2 ^ 27) = m1 * n1 * 2 ^ 54 by rw [Nat.mul_mul_mul_comm], show m1 * 2 ^ 27 * n0 = m1 * n0 * 2 ^ 27 by rw [Nat.mul_right_comm], show m0 * (n1 * 2 ^ 27) = m0 * n1 * 2 ^ 27 by rw [Nat.mul_assoc]]
    omega
  rw [eX] at eP
  rw [lN_mul, lN_mul, lN_mul, lN_mul]
  generalize m1 * n1 = a at p11 eP ⊢
  generalize m1 * n0 = b at p10 eP ⊢
  generalize m0 * n1 = c at p01 eP ⊢
  generalize m0 * n0 = d at p00 eP ⊢
  rw [sh (show d < 2 ^ 64 by omega), ms (show d < 2 ^ 64 by omega), lN_add, lN_add, sh (show b + c + d / 2 ^ 27 < 2 ^ 64 by omega), ms (show b + c + d / 2 ^ 27 < 2 ^ 64 by omega), lN_add, sl, or_lo (k := 27) (Nat.mod_lt _ (by decide)) (by omega), s5]
  rw [show (49 : Int32) = nI 49 from rfl, r_moved (by omega) (by decide)]
  have hj : jam ((b + c + d / 2 ^ 27) % 2 ^ 27 * 2 ^ 27 + d % 2 ^ 27) 49 < 2 ^ 5 := jam_lt (k := 4) (by omega)
  rw [or_lo (k := 5) hj (by omega), ← jam_cat]
  congr 2
  omega
