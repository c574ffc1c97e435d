/-! sizes, signs, ends; floor and cut to whole numbers, of both sides -/
def sAb (u : Nat) : Nat := if isN u then NOT64 else u % 2 ^ 63
theorem c_size {u : Nat} (h : u < 2 ^ 64) : fX1_size (lN u) = lN (sAb u) := by
  unfold fX1_size sAb; rw [c_isNone h, mag_and h]
  by_cases q : isN u
  · rw [if_pos q, if_neg (by decide), if_pos q]; rfl
  · rw [if_neg q, if_pos rfl, if_neg q]
theorem sAb_cn {u : Nat} : Cn (sAb u) := by
  unfold sAb; split
  · exact Cn_NOT
  · rename_i q; exact ⟨by omega, fun k => absurd k (by omega)⟩
theorem m_size {u : Nat} (h : Cn u) {kr : UInt64 → Prop} (k : kr (dN (sAb u))) : wX4_size (dN u) kr := by
  unfold wX4_size bX4_size_0
  refine m_isMinus h ?_
  unfold sAb at k
  have hu := h.1
  by_cases q : isN u
  · rw [if_pos q] at k
    rw [h.2 q, if_pos (by decide)]; exact k
  · rw [if_neg q] at k
    by_cases s : 2 ^ 63 ≤ u
    · rw [if_pos s, if_neg (by decide), dneg_N h.1]
      rw [show u % 2 ^ 63 = flip u by unfold flip; rw [if_neg (by omega)]; omega] at k; exact k
    · rw [if_neg s, if_pos rfl]
      rw [show u % 2 ^ 63 = u by omega] at k; exact k
def sSg (u : Nat) : Nat := if isN u ∨ u % 2 ^ 63 = 0 then u else u / 2 ^ 63 * 2 ^ 63 + 4607182418800017408
theorem c_signum {u : Nat} (h : u < 2 ^ 64) : fX1_signum (lN u) = lN (sSg u) := by
  unfold fX1_signum sSg; rw [c_isNone h, c_isZero h, sg_and h]
  by_cases q : isN u
  · rw [if_pos q, if_neg (by decide), if_pos (.inl q)]
  · rw [if_neg q, if_pos rfl]
    by_cases z : u % 2 ^ 63 = 0
    · rw [if_pos z, if_neg (by decide), if_pos (.inr z)]
    · rw [if_neg z, if_pos rfl, if_neg (show ¬ (isN u ∨ u % 2 ^ 63 = 0) from fun k => k.elim q z)]
      exact or_hi (by decide) (by omega)
theorem sSg_cn {u : Nat} (h : Cn u) : Cn (sSg u) := by
  unfold sSg
  by_cases q : isN u ∨ u % 2 ^ 63 = 0
  · rw [if_pos q]; exact h
  · rw [if_neg q]
    have := h.1
    exact ⟨by omega, fun k => absurd k (by omega)⟩
def sZl (u : Nat) : Nat := if isN u ∨ bLt u 0 then 0 else u
theorem c_zeroIfLess {u : Nat} (h : u < 2 ^ 64) : fX1_zeroIfLess (lN u) = lN (sZl u) := by
  unfold fX1_zeroIfLess sZl; rw [c_isNone h, show (0 : Int64) = lN 0 from rfl, c_below h (by decide)]
  by_cases q : isN u
  · rw [if_pos q, if_neg (by decide), if_pos (.inl q)]
  · rw [if_neg q, if_pos rfl]
    by_cases z : bLt u 0
    · rw [if_pos z, if_neg (by decide), if_pos (.inr z)]
    · rw [if_neg z, if_pos rfl, if_neg (show ¬ (isN u ∨ bLt u 0) from fun k => k.elim q z)]
theorem sZl_cn {u : Nat} (h : u < 2 ^ 64) : Cn (sZl u) := by
  unfold sZl; split
  · exact ⟨by decide, fun k => absurd k (by decide)⟩
  · rename_i q; exact ⟨h, fun k => absurd (.inl k) q⟩
theorem sZl_n {u : Nat} : ¬ isN (sZl u) := by
  unfold sZl; split
  · decide
  · rename_i q; exact fun k => q (.inl k)
def sOm (u : Nat) : Nat := if isN u ∨ bLt 4607182418800017408 u then 4607182418800017408 else u
theorem c_oneIfMore {u : Nat} (h : u < 2 ^ 64) : fX1_oneIfMore (lN u) = lN (sOm u) := by
  unfold fX1_oneIfMore sOm; rw [c_isNone h, show (4607182418800017408 : Int64) = lN 4607182418800017408 from rfl, c_below (by decide) h]
  by_cases q : isN u
  · rw [if_pos q, if_neg (by decide), if_pos (.inl q)]
  · rw [if_neg q, if_pos rfl]
    by_cases z : bLt 4607182418800017408 u
    · rw [if_pos z, if_neg (by decide), if_pos (.inr z)]
    · rw [if_neg z, if_pos rfl, if_neg (show ¬ (isN u ∨ bLt 4607182418800017408 u) from fun k => k.elim q z)]
theorem sOm_cn {u : Nat} (h : u < 2 ^ 64) : Cn (sOm u) := by
  unfold sOm; split
  · exact ⟨by decide, fun k => absurd k (by decide)⟩
  · rename_i q; exact ⟨h, fun k => absurd (.inl k) q⟩
def sLt (u v : Nat) : Nat := sZl (sDn (sTi u (sZl v)))
theorem c_lowTimes {u v : Nat} (hu : u < 2 ^ 64) (hv : v < 2 ^ 64) : fX1_lowTimes (lN u) (lN v) = lN (sLt u v) := by
  unfold fX1_lowTimes sLt
  have h1 := (sZl_cn hv).1
  have h2 := (sTi_cn hu h1).1
  rw [c_zeroIfLess hv, c_times hu h1, c_down h2, c_zeroIfLess (sDn_cn h2).1]
def sHt (u v : Nat) : Nat := if isN (sUp (sTi u (sZl v))) then 9218868437227405312 else sUp (sTi u (sZl v))
theorem c_highTimes {u v : Nat} (hu : u < 2 ^ 64) (hv : v < 2 ^ 64) : fX1_highTimes (lN u) (lN v) = lN (sHt u v) := by
  unfold fX1_highTimes sHt
  have h1 := (sZl_cn hv).1
  have h2 := (sTi_cn hu h1).1
  rw [c_zeroIfLess hv, c_times hu h1, c_up h2, c_isNone (sUp_lt h2)]
  by_cases q : isN (sUp (sTi u (sZl v)))
  · rw [if_pos q, if_neg (by decide), if_pos q]; rfl
  · rw [if_neg q, if_pos rfl, if_neg q]
/-- the bits behind the point -/
theorem bh_div {j : Nat} (h : j ≤ 52) : (2 ^ 52 - 1) / 2 ^ j = 2 ^ (52 - j) - 1 := by
  have e : 2 ^ 52 = 2 ^ j * 2 ^ (52 - j) := by rw [← Nat.pow_add]; congr 1; omega
  have p := Nat.two_pow_pos j
  have p2 := Nat.two_pow_pos (52 - j)
  rw [e]
  generalize 2 ^ j = P at *
  generalize 2 ^ (52 - j) = Q at *
  obtain ⟨q, rfl⟩ : ∃ q, Q = q + 1 := ⟨Q - 1, by omega⟩
  rw [show P * (q + 1) - 1 = P * q + (P - 1) by rw [Nat.mul_add]; omega, Nat.mul_add_div p, Nat.div_eq_of_lt (by omega)]
  omega
theorem c_behind {sc : Nat} (h1 : 1023 ≤ sc) (h2 : sc ≤ 1074) : fX1_behindPoint (nI sc) = lN (2 ^ (1075 - sc) - 1) := by
  unfold fX1_behindPoint
  rw [show (1023 : Int32) = nI 1023 from rfl, i32_sub h1, show (4503599627370495 : Int64) = lN (2 ^ 52 - 1) from rfl, wb_shr (by decide) (by omega), bh_div (by omega)]
  rw [show 52 - (sc - 1023) = 1075 - sc by omega]
theorem andn {u k : Nat} (hu : u < 2 ^ 64) : u &&& ((2 ^ k - 1) ^^^ (2 ^ 64 - 1)) = u / 2 ^ k * 2 ^ k := by
  apply Nat.eq_of_testBit_eq
  intro i
  rw [Nat.testBit_and, Nat.testBit_xor, Nat.testBit_two_pow_sub_one, Nat.testBit_two_pow_sub_one, ← Nat.shiftLeft_eq, Nat.testBit_shiftLeft, Nat.testBit_div_two_pow]
  by_cases a : i < k
  · rw [decide_eq_true a, decide_eq_false (show ¬ i ≥ k by omega)]
    by_cases b : i < 64
    · rw [decide_eq_true b]; cases u.testBit i <;> rfl
    · rw [Nat.testBit_lt_two_pow (Nat.lt_of_lt_of_le hu (Nat.pow_le_pow_right (by decide) (Nat.le_of_not_lt b)))]; rfl
  · rw [decide_eq_false a, decide_eq_true (show i ≥ k by omega), show i - k + k = i by omega]
    by_cases b : i < 64
    · rw [decide_eq_true b]; cases u.testBit i <;> rfl
    · rw [Nat.testBit_lt_two_pow (Nat.lt_of_lt_of_le hu (Nat.pow_le_pow_right (by decide) (Nat.le_of_not_lt b)))]; rfl
theorem c_andn {u k : Nat} (hu : u < 2 ^ 64) (hk : k ≤ 63) : lN u &&& (lN (2 ^ k - 1) ^^^ (-1 : Int64)) = lN (u / 2 ^ k * 2 ^ k) := by
  have hp : 2 ^ k ≤ 2 ^ 63 := Nat.pow_le_pow_right (by decide) hk
  rw [show (-1 : Int64) = lN (2 ^ 64 - 1) from rfl, x_lN, wb_and hu (Nat.xor_lt_two_pow (by omega) (by decide)), andn hu]
def sFl (u : Nat) : Nat := if u % 2 ^ 63 = 0 ∨ 1075 ≤ nSc u then u else if nSc u < 1023 then (if u < 2 ^ 63 then 0 else 13830554455654793216) else if u < 2 ^ 63 then u / 2 ^ (1075 - nSc u) * 2 ^ (1075 - nSc u) else (u + (2 ^ (1075 - nSc u) - 1)) / 2 ^ (1075 - nSc u) * 2 ^ (1075 - nSc u)
theorem nSc_le (u : Nat) : nSc u ≤ 2047 := by have := nE_lt u; unfold nSc; split <;> omega
theorem nI_lt' {a b : Nat} (ha : a < 2 ^ 31) (hb : b < 2 ^ 31) : nI a < nI b ↔ a < b := by
  rw [Int32.lt_iff_toInt_lt, nI_toInt ha, nI_toInt hb]; omega
theorem nI_le' {a b : Nat} (ha : a < 2 ^ 31) (hb : b < 2 ^ 31) : nI a ≤ nI b ↔ a ≤ b := by
  rw [Int32.le_iff_toInt_le, nI_toInt ha, nI_toInt hb]; omega
theorem c_neg {u : Nat} (h : u < 2 ^ 64) : 0 ≤ lg_cmp (lN u) (0 : Int64) ↔ u < 2 ^ 63 := by
  rw [lg_cmp_ge, Int64.le_iff_toInt_le, lN_int h]
  show (0 : Int) ≤ _ ↔ _
  split <;> omega
theorem l_add (a b : Nat) : lN a + lN b = lN (a + b) := by
  apply wb_inj
  rw [Int64.toBitVec_add, wb_tb, wb_tb, wb_tb]
  apply BitVec.eq_of_toNat_eq
  rw [BitVec.toNat_add, BitVec.toNat_ofNat, BitVec.toNat_ofNat, BitVec.toNat_ofNat]
  omega
theorem c_floor {u : Nat} (h : u < 2 ^ 64) : fX1_floor (lN u) = lN (sFl u) := by
  unfold fX1_floor sFl
  have hs := nSc_le u
  rw [c_isZero h, r_scale h, show (1075 : Int32) = nI 1075 from rfl, show (1023 : Int32) = nI 1023 from rfl]
  by_cases z : u % 2 ^ 63 = 0
  · rw [if_pos z, if_neg (by decide), if_pos (.inl z)]
  · rw [if_neg z, if_pos rfl]
    by_cases a : 1075 ≤ nSc u
    · rw [if_neg (by rw [nI_lt' (by omega) (by decide)]; omega), if_pos (.inr a)]
    · rw [if_pos (by rw [nI_lt' (by omega) (by decide)]; omega), if_neg (show ¬ (u % 2 ^ 63 = 0 ∨ 1075 ≤ nSc u) from fun k => k.elim z a)]
      by_cases b : nSc u < 1023
      · rw [if_neg (by rw [nI_le' (by decide) (by omega)]; omega), if_pos b]
        by_cases s : u < 2 ^ 63
        · rw [if_pos ((c_neg h).mpr s), if_pos s]; rfl
        · rw [if_neg (fun k => s ((c_neg h).mp k)), if_neg s]; rfl
      · rw [if_pos (by rw [nI_le' (by decide) (by omega)]; omega), if_neg b, c_behind (by omega) (by omega)]
        by_cases s : u < 2 ^ 63
        · rw [if_pos ((c_neg h).mpr s), if_pos s, c_andn h (by omega)]
        · rw [if_neg (fun k => s ((c_neg h).mp k)), if_neg s, l_add]
          have hp : 2 ^ (1075 - nSc u) ≤ 2 ^ 52 := Nat.pow_le_pow_right (by decide) (by omega)
          have hm : u % 2 ^ 63 < 1075 * 2 ^ 52 := by
            have := mag_eq u; have := nFr_lt u; have := nSc_pos u; omega
          exact c_andn (by omega) (by omega)
