/-! through a float -/
def tfD (u : Nat) : Nat := max 29 (926 - nSc u)
def tfK (u : Nat) : Nat := FP.Core.nearest (nFr u) (2 ^ tfD u) * 2 ^ tfD u
def tfT (u K : Nat) : Nat := if K = 0 then u / 2 ^ 63 * 2 ^ 63 else if (nSc u - 1) * 2 ^ 52 + K < 5183643171103440896 then u / 2 ^ 63 * 2 ^ 63 + ((nSc u - 1) * 2 ^ 52 + K) else u / 2 ^ 63 * 2 ^ 63 + 9218868437227405312
def sTf (u : Nat) : Nat := if ¬ u % 2 ^ 63 < 9218868437227405312 ∨ u % 2 ^ 63 = 0 then u else if 53 < tfD u then u / 2 ^ 63 * 2 ^ 63 else tfT u (tfK u)
theorem tf_max {u : Nat} (h : nSc u ≤ 2047) : fJ9_max_7cf53 (29 : Int32) ((926 : Int32) - nI (nSc u)) = nI (tfD u) := by
  refine i_nI (by unfold tfD; omega) ?_
  rw [i_max, i_sub (by rw [nI_toInt (by omega)]; show -2147483648 ≤ (926 : Int) - _ ∧ (926 : Int) - _ < 2147483648; omega), nI_toInt (by omega)]
  show max (29 : Int) ((926 : Int) - _) = _
  unfold tfD; omega
theorem tf_tail {u K : Nat} (hu : u < 2 ^ 64) (fu : nE u ≠ 2047) (hK : K ≤ 2 ^ 53) : (if (lg_cmp (lN K) (0 : Int64)) = 0 then (lN u &&& (-9223372036854775808 : Int64)) else if (lg_cmp (((nI (nSc u) - (1 : Int32)).toInt64 <<< ((52 : Int32).toInt64 &&& 63)) + lN K) (5183643171103440896 : Int64)) < 0 then ((lN u &&& (-9223372036854775808 : Int64)) ||| (((nI (nSc u) - (1 : Int32)).toInt64 <<< ((52 : Int32).toInt64 &&& 63)) + lN K)) else ((lN u &&& (-9223372036854775808 : Int64)) ||| (9218868437227405312 : Int64))) = lN (tfT u K) := by
  have h1 := nSc_lt fu
  have h2 := nSc_pos u
  have e1 : (nI (nSc u) - (1 : Int32)).toInt64 <<< ((52 : Int32).toInt64 &&& 63) = lN ((nSc u - 1) * 2 ^ 52) := by
    rw [show (1 : Int32) = nI 1 from rfl, i32_sub h2, show (nI (nSc u - 1)).toInt64 = lN (nSc u - 1) from ?_]
    · exact wb_shl (k := 52) _ (by decide)
    · apply Int64.toInt_inj.mp
      rw [Int32.toInt_toInt64, nI_toInt (by omega), lN_int (by omega), if_neg (by omega)]
  rw [e1, l_add, sg_and hu, show (0 : Int64) = lN 0 from rfl, show (5183643171103440896 : Int64) = lN 5183643171103440896 from rfl, show (9218868437227405312 : Int64) = lN 9218868437227405312 from rfl]
  unfold tfT
  by_cases z : K = 0
  · rw [if_pos ((lc_eq (by omega) (by decide)).mpr z), if_pos z]
  · rw [if_neg (fun q => z ((lc_eq (by omega) (by decide)).mp q)), if_neg z]
    by_cases q : (nSc u - 1) * 2 ^ 52 + K < 5183643171103440896
    · rw [if_pos ((lc_lt (by omega) (by decide)).mpr q), if_pos q]
      exact or_hi (by omega) (by omega)
    · rw [if_neg (fun r => q ((lc_lt (by omega) (by decide)).mp r)), if_neg q]
      exact or_hi (by decide) (by omega)
theorem tf_half {d : Nat} (h1 : 1 ≤ d) (h2 : d ≤ 53) : (1 : Int64) <<< ((nI d - (1 : Int32)).toInt64 &&& 63) = lN (2 ^ (d - 1)) := by
  rw [show (1 : Int32) = nI 1 from rfl, i32_sub h1, show (1 : Int64) = lN 1 from rfl, wb_shl 1 (by omega), Nat.one_mul]
theorem c_tf {u : Nat} (hu : u < 2 ^ 64) : fX1_throughFloat (lN u) = lN (sTf u) := by
  unfold fX1_throughFloat
  have hs := nSc_le u
  rw [r_scale hu, tf_max hs, r_isFinite hu, c_isZero hu, r_fraction hu]
  unfold sTf
  by_cases f : u % 2 ^ 63 < 9218868437227405312
  · rw [if_pos f, if_neg (by decide)]
    by_cases z : u % 2 ^ 63 = 0
    · rw [if_pos z, if_neg (by decide), if_pos (.inr z)]
    · rw [if_neg z, if_pos rfl, if_neg (show ¬ (¬ u % 2 ^ 63 < 9218868437227405312 ∨ u % 2 ^ 63 = 0) from fun q => q.elim (fun k => k f) z)]
      have fu := fin_iff.mp f
      have hD : 29 ≤ tfD u := by unfold tfD; omega
      have hD2 : tfD u ≤ 926 := by unfold tfD; omega
      by_cases d : 53 < tfD u
      · rw [if_neg (by rw [show (53 : Int32) = nI 53 from rfl, nI_le' (by omega) (by decide)]; omega), if_pos d, sg_and hu]
      · rw [if_pos (by rw [show (53 : Int32) = nI 53 from rfl, nI_le' (by omega) (by decide)]; omega), if_neg d]
        have hf := nFr_lt u
        have e2 : 2 ^ tfD u = 2 ^ (tfD u - 1) + 2 ^ (tfD u - 1) := by
          rw [← Nat.two_mul, ← Nat.pow_succ']; congr 1; omega
        have p53 : 2 ^ tfD u ≤ 2 ^ 53 := Nat.pow_le_pow_right (by decide) (by omega)
        rw [tf_half (by omega) (by omega), l_add, ← e2]
        have pp := Nat.two_pow_pos (tfD u)
        have e3 : lN (2 ^ tfD u) - (1 : Int64) = lN (2 ^ tfD u - 1) := l_dec pp (by omega)
        rw [e3, wb_mask (k := tfD u) (by omega) (by omega)]
        have hdm : 2 ^ tfD u * (nFr u / 2 ^ tfD u) + nFr u % 2 ^ tfD u = nFr u := Nat.div_add_mod _ _
        have hml : nFr u % 2 ^ tfD u < 2 ^ tfD u := Nat.mod_lt _ pp
        have e4 : lN (nFr u) - lN (nFr u % 2 ^ tfD u) = lN (nFr u / 2 ^ tfD u * 2 ^ tfD u) := by
          have : nFr u = nFr u / 2 ^ tfD u * 2 ^ tfD u + nFr u % 2 ^ tfD u := by rw [Nat.mul_comm]; exact hdm.symm
          conv => lhs; arg 1; rw [this]
          rw [← l_add, Int64.add_sub_cancel]
        have e5 : nFr u / 2 ^ tfD u * 2 ^ tfD u + 2 ^ tfD u = (nFr u / 2 ^ tfD u + 1) * 2 ^ tfD u := by rw [Nat.add_mul, Nat.one_mul]
        have hle : nFr u / 2 ^ tfD u * 2 ^ tfD u ≤ nFr u := Nat.div_mul_le_self _ _
        have hup : nFr u / 2 ^ tfD u * 2 ^ tfD u + 2 ^ tfD u ≤ 2 ^ 53 := by
          rw [e5]
          have ee : 2 ^ 53 = 2 ^ (53 - tfD u) * 2 ^ tfD u := by rw [← Nat.pow_add]; congr 1; omega
          have : nFr u / 2 ^ tfD u < 2 ^ (53 - tfD u) := (Nat.div_lt_iff_lt_mul pp).mpr (by rw [← ee]; exact hf)
          conv => rhs; rw [ee]
          exact Nat.mul_le_mul_right _ (by omega)
        rw [e4, wb_shr (by omega) (by omega), wb_a1 (Nat.lt_of_le_of_lt (Nat.div_le_self _ _) (by omega)), l_add]
        rw [tf_tail hu fu (K := nFr u / 2 ^ tfD u * 2 ^ tfD u) (by omega), tf_tail hu fu (K := nFr u / 2 ^ tfD u * 2 ^ tfD u + 2 ^ tfD u) hup, e5]
        unfold tfK FP.Core.nearest
        have hh : 2 ^ (tfD u - 1) < 2 ^ 63 := by omega
        by_cases a : 2 ^ (tfD u - 1) < nFr u % 2 ^ tfD u
        · rw [if_pos ((lc_gt (by omega) hh).mpr a), if_neg (show ¬ 2 * (nFr u % 2 ^ tfD u) < 2 ^ tfD u by omega), if_pos (show 2 ^ tfD u < 2 * (nFr u % 2 ^ tfD u) by omega)]
        · rw [if_neg (fun q => a ((lc_gt (by omega) hh).mp q))]
          by_cases b : nFr u % 2 ^ tfD u = 2 ^ (tfD u - 1)
          · rw [if_pos ((lc_eq (by omega) (by omega)).mpr b), if_neg (show ¬ 2 * (nFr u % 2 ^ tfD u) < 2 ^ tfD u by omega), if_neg (show ¬ 2 ^ tfD u < 2 * (nFr u % 2 ^ tfD u) by omega)]
            rcases Nat.mod_two_eq_zero_or_one (nFr u / 2 ^ tfD u) with r | r
            · rw [r, if_pos (show lg_cmp (lN 0) (0 : Int64) = 0 by decide), Nat.add_zero]
            · rw [r, if_neg (show ¬ lg_cmp (lN 1) (0 : Int64) = 0 by decide)]
          · rw [if_neg (fun q => b ((lc_eq (by omega) (by omega)).mp q)), if_pos (show 2 * (nFr u % 2 ^ tfD u) < 2 ^ tfD u by omega)]
  · rw [if_neg f, if_pos rfl, if_pos (.inl f)]
