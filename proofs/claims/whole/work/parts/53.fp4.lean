/-! PACKING -/
theorem i_bm {z : Int} (h : -2147483648 ≤ z ∧ z < 2147483648) : z.bmod (2 ^ 32) = z := by
  rw [Int.bmod_eq_of_le] <;> omega
theorem i_add {x y : Int32} (h : -2147483648 ≤ x.toInt + y.toInt ∧ x.toInt + y.toInt < 2147483648) : (x + y).toInt = x.toInt + y.toInt := by rw [Int32.toInt_add, i_bm h]
theorem i_sub {x y : Int32} (h : -2147483648 ≤ x.toInt - y.toInt ∧ x.toInt - y.toInt < 2147483648) : (x - y).toInt = x.toInt - y.toInt := by rw [Int32.toInt_sub, i_bm h]
theorem i_neg {x : Int32} (h : -2147483648 < x.toInt) : (-x).toInt = -x.toInt := by
  have h2 : x.toInt < 2147483648 := x.toInt_lt
  rw [Int32.toInt_neg, i_bm (by omega)]
theorem i_inj {x y : Int32} (h : x.toInt = y.toInt) : x = y := Int32.toInt_inj.mp h
theorem i_nI {x : Int32} {n : Nat} (hn : n < 2 ^ 31) (h : x.toInt = (n : Int)) : x = nI n := i_inj (by rw [h, nI_toInt hn])
theorem i_max (x y : Int32) : (fJ9_max_7cf53 x y).toInt = max x.toInt y.toInt := by
  unfold fJ9_max_7cf53
  by_cases h : x < y
  · rw [if_pos h]; rw [Int32.lt_iff_toInt_lt] at h; omega
  · rw [if_neg h]; rw [Int32.lt_iff_toInt_lt] at h; omega
/-- the bits without sign of the number nearest to m times two to the power of S - 1078, m's leading bit at L -/
def pkM (S : Int) (L m : Nat) : Nat :=
  if S + max ((L : Int) - 55) (1 - S) ≤ 2046 then
    (S + max ((L : Int) - 55) (1 - S) - 1).toNat * 2 ^ 52 + FP.Core.nearest (if max ((L : Int) - 55) (1 - S) < 0 then m * 2 ^ (-(max ((L : Int) - 55) (1 - S))).toNat else jam m (max ((L : Int) - 55) (1 - S)).toNat) 8
  else 9218868437227405312
theorem or_hi {x b : Nat} (hx : x < 2 ^ 63) (hb : b ≤ 1) : lN (b * 2 ^ 63) ||| lN x = lN (b * 2 ^ 63 + x) := by
  rw [wb_or (by omega) (by omega), Nat.or_comm, Nat.mul_comm, or_sum hx, Nat.add_comm]
theorem near8 (W : Nat) : FP.Core.nearest W 8 = W / 8 + (if 4 < W % 8 ∨ (W % 8 = 4 ∧ W / 8 % 2 = 1) then 1 else 0) := by
  unfold FP.Core.nearest
  by_cases h1 : 2 * (W % 8) < 8
  · rw [if_pos h1, if_neg (by omega)]; rfl
  · rw [if_neg h1]
    by_cases h2 : 8 < 2 * (W % 8)
    · rw [if_pos h2, if_pos (by omega)]
    · rw [if_neg h2]
      by_cases h3 : W / 8 % 2 = 1
      · rw [if_pos (by omega), h3]
      · rw [if_neg (by omega)]; omega
theorem pkk_in {W r b : Nat} {x : Int32} (hW : W < 2 ^ 56) (hr : r ≤ 2045) (hb : b ≤ 1) (hx : x = nI r) {wd : Int64} (hw : wd = lN W) :
    (if 0 < (lg_cmp (wd &&& (7 : Int64)) (4 : Int64)) then (lN (b * 2 ^ 63) ||| ((x.toInt64 <<< ((52 : Int32).toInt64 &&& 63)) + ((wd.toUInt64 >>> ((3 : Int32).toInt64.toUInt64 &&& Int64.toUInt64 63)).toInt64 + (1 : Int64))))
     else if (lg_cmp (wd &&& (7 : Int64)) (4 : Int64)) = 0 then
       if (lg_cmp ((wd.toUInt64 >>> ((3 : Int32).toInt64.toUInt64 &&& Int64.toUInt64 63)).toInt64 &&& (1 : Int64)) (0 : Int64)) = 0 then (lN (b * 2 ^ 63) ||| ((x.toInt64 <<< ((52 : Int32).toInt64 &&& 63)) + (wd.toUInt64 >>> ((3 : Int32).toInt64.toUInt64 &&& Int64.toUInt64 63)).toInt64))
       else (lN (b * 2 ^ 63) ||| ((x.toInt64 <<< ((52 : Int32).toInt64 &&& 63)) + ((wd.toUInt64 >>> ((3 : Int32).toInt64.toUInt64 &&& Int64.toUInt64 63)).toInt64 + (1 : Int64))))
     else (lN (b * 2 ^ 63) ||| ((x.toInt64 <<< ((52 : Int32).toInt64 &&& 63)) + (wd.toUInt64 >>> ((3 : Int32).toInt64.toUInt64 &&& Int64.toUInt64 63)).toInt64)))
    = lN (b * 2 ^ 63 + (r * 2 ^ 52 + FP.Core.nearest W 8)) := by
  subst hx hw
  have e7 : lN W &&& (7 : Int64) = lN (W % 8) := wb_mask (k := 3) (by omega) (by decide)
  have e3 : ((lN W).toUInt64 >>> ((3 : Int32).toInt64.toUInt64 &&& Int64.toUInt64 63)).toInt64 = lN (W / 8) := wb_shr (k := 3) (by omega) (by decide)
  have e1 : lN (W / 8) &&& (1 : Int64) = lN (W / 8 % 2) := wb_a1 (by omega)
  have es : (nI r).toInt64 <<< ((52 : Int32).toInt64 &&& 63) = lN (r * 2 ^ 52) := by rw [nI_l (by omega)]; exact wb_shl (k := 52) r (by decide)
  rw [e7, e3, e1, es, show (1 : Int64) = lN 1 from rfl, show (4 : Int64) = lN 4 from rfl, show (0 : Int64) = lN 0 from rfl, lN_add, lN_add, lN_add]
  simp only [lc_gt (show W % 8 < 2 ^ 63 by omega) (show 4 < 2 ^ 63 by decide), lc_eq (show W % 8 < 2 ^ 64 by omega) (show 4 < 2 ^ 64 by decide), lc_eq (show W / 8 % 2 < 2 ^ 64 by omega) (show 0 < 2 ^ 64 by decide)]
  rw [or_hi (x := r * 2 ^ 52 + (W / 8 + 1)) (by omega) hb, or_hi (x := r * 2 ^ 52 + W / 8) (by omega) hb, near8]
  by_cases h1 : 4 < W % 8
  · rw [if_pos h1, if_pos (Or.inl h1)]
  · rw [if_neg h1]
    by_cases h2 : W % 8 = 4
    · rw [if_pos h2]
      by_cases h3 : W / 8 % 2 = 0
      · rw [if_pos h3, if_neg (by omega)]; rfl
      · rw [if_neg h3, if_pos (by omega)]
    · rw [if_neg h2, if_neg (by omega)]; rfl
theorem jam_lt {m b k : Nat} (h : m / 2 ^ b < 2 ^ (k + 1)) : jam m b < 2 ^ (k + 1) := by
  unfold jam
  apply Nat.or_lt_two_pow h
  by_cases q : m % 2 ^ b = 0
  · rw [if_pos q]; exact Nat.two_pow_pos _
  · rw [if_neg q]; exact Nat.one_lt_two_pow (by omega)
theorem r_packed {m L b : Nat} {sc : Int32} (h1 : 2 ^ L ≤ m) (h2 : m < 2 ^ (L + 1)) (hL : L ≤ 61) (hb : b ≤ 1) (hs : -5000 ≤ sc.toInt ∧ sc.toInt ≤ 5000) : fX1_packed (lN (b * 2 ^ 63)) sc (lN m) = lN (b * 2 ^ 63 + pkM sc.toInt L m) := by
  have hm0 : 0 < m := Nat.lt_of_lt_of_le (Nat.two_pow_pos L) h1
  have hm63 : m < 2 ^ 63 := Nat.lt_of_lt_of_le h2 (Nat.pow_le_pow_right (by decide) (by omega))
  obtain ⟨L', eL, hL', g1, g2⟩ := nlz64 hm0 hm63
  have : L' = L := by rw [← log2_eq g1 g2, log2_eq h1 h2]
  subst this
  unfold fX1_packed
  rw [eL]
  obtain ⟨by32, hby⟩ : ∃ z, z = fJ9_max_7cf53 (((64 : Int32) - nI (63 - L')) - (56 : Int32)) ((1 : Int32) - sc) := ⟨_, rfl⟩
  rw [← hby]
  have hc63 : (nI (63 - L')).toInt = 63 - (L' : Int) := by rw [nI_toInt (by omega)]; omega
  have t64 : ((64 : Int32)).toInt = 64 := rfl
  have t56 : ((56 : Int32)).toInt = 56 := rfl
  have t1 : ((1 : Int32)).toInt = 1 := rfl
  have a1 : ((64 : Int32) - nI (63 - L')).toInt = 1 + (L' : Int) := by rw [i_sub (by rw [hc63, t64]; omega), hc63, t64]; omega
  have a2 : ((64 : Int32) - nI (63 - L') - (56 : Int32)).toInt = (L' : Int) - 55 := by rw [i_sub (by rw [a1, t56]; omega), a1, t56]; omega
  have a3 : ((1 : Int32) - sc).toInt = 1 - sc.toInt := by rw [i_sub (by rw [t1]; omega), t1]
  have hB : by32.toInt = max ((L' : Int) - 55) (1 - sc.toInt) := by rw [hby, i_max, a2, a3]
  have hre : (sc + by32).toInt = sc.toInt + by32.toInt := i_add (by omega)
  rw [show (0 : Int64) = lN 0 from rfl]
  simp only [lc_eq (show m < 2 ^ 64 by omega) (show 0 < 2 ^ 64 by decide)]
  rw [if_neg (by omega)]
  unfold pkM
  rw [← hB]
  by_cases q1 : sc.toInt + by32.toInt ≤ 2046
  · rw [if_pos (show sc + by32 ≤ (2046 : Int32) by rw [Int32.le_iff_toInt_le, hre]; exact q1), if_pos q1]
    have hr1 : (sc + by32 - (1 : Int32)).toInt = sc.toInt + by32.toInt - 1 := by rw [i_sub (by rw [hre, t1]; omega), hre, t1]
    have hr2 : sc + by32 - (1 : Int32) = nI (sc.toInt + by32.toInt - 1).toNat := i_nI (by omega) (by rw [hr1]; omega)
    by_cases q2 : by32.toInt < 0
    · rw [if_pos (show by32 < 0 by rw [Int32.lt_iff_toInt_lt]; exact q2), if_pos q2]
      have hk : -by32 = nI (-by32.toInt).toNat := i_nI (by omega) (by rw [i_neg (by omega)]; omega)
      have hpw : m * 2 ^ (-by32.toInt).toNat < 2 ^ 56 := by
        have e : 2 ^ (L' + 1) * 2 ^ (-by32.toInt).toNat ≤ 2 ^ 56 := by rw [← Nat.pow_add]; exact Nat.pow_le_pow_right (by decide) (by omega)
        have : m * 2 ^ (-by32.toInt).toNat < 2 ^ (L' + 1) * 2 ^ (-by32.toInt).toNat := (Nat.mul_lt_mul_right (Nat.two_pow_pos _)).mpr h2
        omega
      refine pkk_in hpw (by omega) hb hr2 ?_
      rw [hk]; exact wb_shl m (by omega)
    · rw [if_neg (show ¬ by32 < 0 by rw [Int32.lt_iff_toInt_lt]; exact q2), if_neg q2]
      have hk : by32 = nI by32.toInt.toNat := i_nI (by omega) (by omega)
      have hd : m / 2 ^ by32.toInt.toNat < 2 ^ (55 + 1) := by
        rw [Nat.div_lt_iff_lt_mul (Nat.two_pow_pos _), ← Nat.pow_add]
        exact Nat.lt_of_lt_of_le h2 (Nat.pow_le_pow_right (by decide) (by omega))
      have hj := jam_lt hd
      refine pkk_in (Nat.lt_of_lt_of_le hj (by decide)) (by omega) hb hr2 ?_
      rw [hk, r_moved hm63 (by omega), ← hk]
  · rw [if_neg (show ¬ sc + by32 ≤ (2046 : Int32) by rw [Int32.le_iff_toInt_le, hre]; exact q1), if_neg q1]
    rw [show (9218868437227405312 : Int64) = lN 9218868437227405312 from rfl]
    exact or_hi (by decide) hb
