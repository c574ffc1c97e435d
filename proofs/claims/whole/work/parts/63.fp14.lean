/-! THE SMALL OPERATIONS, on the bits, of both sides -/
theorem rk_cases (u : Nat) : (2 ^ 63 ≤ u ∧ rk u = (2 ^ 63 : Int) - u) ∨ (u < 2 ^ 63 ∧ rk u = u) := by
  unfold rk; by_cases h : 2 ^ 63 ≤ u
  · exact .inl ⟨h, if_pos h⟩
  · exact .inr ⟨by omega, if_neg h⟩
/-- one NaN alone -/
def Cn (u : Nat) : Prop := u < 2 ^ 64 ∧ (isN u → u = NOT64)
def flip (u : Nat) : Nat := if u < 2 ^ 63 then u + 2 ^ 63 else u - 2 ^ 63
theorem flip_lt {u : Nat} (h : u < 2 ^ 64) : flip u < 2 ^ 64 := by unfold flip; split <;> omega
theorem flip_mod {u : Nat} (h : u < 2 ^ 64) : flip u % 2 ^ 63 = u % 2 ^ 63 := by unfold flip; split <;> omega
theorem flip_flip {u : Nat} (h : u < 2 ^ 64) : flip (flip u) = u := by unfold flip; split <;> split <;> omega
theorem flip_rk {u : Nat} (h : u < 2 ^ 64) : rk (flip u) = - rk u := by
  unfold flip
  split
  · rcases rk_cases (u + 2 ^ 63) with ⟨a, b⟩ | ⟨a, b⟩ <;> rcases rk_cases u with ⟨c, d⟩ | ⟨c, d⟩ <;> rw [b, d] <;> omega
  · rcases rk_cases (u - 2 ^ 63) with ⟨a, b⟩ | ⟨a, b⟩ <;> rcases rk_cases u with ⟨c, d⟩ | ⟨c, d⟩ <;> rw [b, d] <;> omega
theorem dneg_N {u : Nat} (h : u < 2 ^ 64) : FP.dneg (dN u) = dN (flip u) := by
  apply UInt64.toNat.inj
  rw [dN_nat (flip_lt h)]
  unfold FP.dneg
  rw [UInt64.toNat_xor, dN_nat h]
  exact xor_top h
theorem c_flip {u : Nat} (h : u < 2 ^ 64) : lN u ^^^ (-9223372036854775808 : Int64) = lN (flip u) := by
  rw [show (-9223372036854775808 : Int64) = lN (2 ^ 63) from rfl, x_lN, xor_top h]; rfl
def tld (u : Nat) : Nat := if isN u then NOT64 else u
theorem NOT_lt : NOT64 < 2 ^ 64 := by decide
theorem Cn_NOT : Cn NOT64 := ⟨NOT_lt, fun _ => rfl⟩
theorem NOT_n : isN NOT64 := by decide
theorem Cn_tld {u : Nat} (h : u < 2 ^ 64) : Cn (tld u) := by
  unfold tld; split
  · exact Cn_NOT
  · rename_i q; exact ⟨h, fun k => absurd k q⟩
theorem tld_id {u : Nat} (h : Cn u) : tld u = u := by
  unfold tld; split
  · rename_i q; exact (h.2 q).symm
  · rfl
theorem c_told {u : Nat} (h : u < 2 ^ 64) : fX1_told (lN u) = lN (tld u) := by
  unfold fX1_told tld; rw [c_isNone h]
  by_cases q : isN u
  · rw [if_pos q, if_neg (by decide), if_pos q]; rfl
  · rw [if_neg q, if_pos rfl, if_neg q]
theorem vn_ok {u : Nat} (h : u < 2 ^ 64) (q : ¬ isN u) : vn_snl2d (lN u) = false := by
  unfold vn_snl2d
  rw [dN_lN]
  have : ¬ dN u &&& 0x7fffffffffffffff > (0x7ff0000000000000 : UInt64) := by
    rw [gt_iff_lt, UInt64.lt_iff_toNat_lt, FP.Core.mask_toNat, dN_nat h]
    exact q
  rw [decide_eq_false this]; rfl
theorem m_of {u : Nat} (h : u < 2 ^ 64) {kr : UInt64 → Prop} (k : kr (dN (tld u))) : wX4_of (lN u) kr := by
  unfold wX4_of bX4_of_0
  have e : lg_cmp (lN u &&& (9223372036854775807 : Int64)) (9218868437227405312 : Int64) ≤ 0 ↔ ¬ isN u := by
    rw [mag_and h, show (9218868437227405312 : Int64) = lN 9218868437227405312 from rfl, lc_le (by omega) (by decide)]; omega
  unfold tld at k
  by_cases q : isN u
  · rw [if_neg (by rw [e]; exact fun z => z q)]; rw [if_pos q] at k; exact k
  · rw [if_pos (by rw [e]; exact q)]; rw [if_neg q] at k; rw [dN_lN]; exact ⟨vn_ok h q, k⟩
theorem self_eq {u : Nat} (h : u < 2 ^ 64) : Op.cmpValue (FP.dcmp (dN u) (dN u)) .l = 0 ↔ ¬ isN u := by
  rw [cvl_eq h h]; exact ⟨fun q => q.1, fun q => ⟨q, q, rfl⟩⟩
theorem m_bits {u : Nat} (h : Cn u) {kr : Int64 → Prop} (k : kr (lN u)) : wX4_bits (dN u) kr := by
  unfold wX4_bits bX4_bits_0 wJxe99ae_doubleToLongBits_ccdee bJxe99ae_doubleToLongBits_ccdee_0 wJxe99ae_isNaN_b9ae7 bJxe99ae_isNaN_b9ae7_0
  by_cases q : isN u
  · rw [if_neg (by rw [self_eq h.1]; exact fun z => z q)]
    show kr (9221120237041090560 : Int64)
    rw [h.2 q] at k; exact k
  · rw [if_pos (by rw [self_eq h.1]; exact q)]
    show kr (dN u).toInt64
    rw [dN_back]; exact k
theorem m_isMinus {u : Nat} (h : Cn u) {kr : Int32 → Prop} (k : kr (if 2 ^ 63 ≤ u then 1 else 0)) : wX4_isMinus (dN u) kr := by
  unfold wX4_isMinus bX4_isMinus_0
  refine m_bits h ?_
  have e : 0 ≤ lg_cmp (lN u) (0 : Int64) ↔ ¬ 2 ^ 63 ≤ u := by
    rw [lg_cmp_ge, Int64.le_iff_toInt_le]
    have : (lN u).toInt = (lN u).toBitVec.toInt := rfl
    rw [this, wb_tb, BitVec.toInt_eq_toNat_bmod, BitVec.toNat_ofNat, Nat.mod_eq_of_lt h.1, Int.bmod_def]
    show 0 ≤ _ ↔ _
    have := h.1
    split <;> omega
  by_cases q : 2 ^ 63 ≤ u
  · rw [if_neg (by rw [e]; exact fun z => z q)]; rw [if_pos q] at k; exact k
  · rw [if_pos (by rw [e]; exact q)]; rw [if_neg q] at k; exact k
def sNeg (u : Nat) : Nat := if isN u then NOT64 else flip u
theorem c_opp {u : Nat} (h : u < 2 ^ 64) : fX1_opposite (lN u) = lN (sNeg u) := by
  unfold fX1_opposite sNeg; rw [c_isNone h, c_flip h]
  by_cases q : isN u
  · rw [if_pos q, if_neg (by decide), if_pos q]; rfl
  · rw [if_neg q, if_pos rfl, if_neg q]
theorem sNeg_cn {u : Nat} (h : u < 2 ^ 64) : Cn (sNeg u) := by
  unfold sNeg; split
  · exact Cn_NOT
  · rename_i q; exact ⟨flip_lt h, fun k => absurd (by unfold isN at k ⊢; rwa [flip_mod h] at k) q⟩
theorem sNeg_n {u : Nat} (h : u < 2 ^ 64) : isN (sNeg u) ↔ isN u := by
  unfold sNeg; split
  · rename_i q; exact ⟨fun _ => q, fun _ => NOT_n⟩
  · unfold isN; rw [flip_mod h]
theorem sNeg_flip {u : Nat} (q : ¬ isN u) : sNeg u = flip u := by unfold sNeg; rw [if_neg q]
def sUp (u : Nat) : Nat := if isN u ∨ u = 9218868437227405312 then u else if u % 2 ^ 63 = 0 then 1 else if u < 2 ^ 63 then u + 1 else u - 1
theorem sUp_lt {u : Nat} (h : u < 2 ^ 64) : sUp u < 2 ^ 64 := by
  unfold sUp
  by_cases q : isN u ∨ u = 9218868437227405312
  · rw [if_pos q]; exact h
  · rw [if_neg q]; split
    · decide
    · split <;> omega
theorem sUp_n {u : Nat} (h : u < 2 ^ 64) : isN (sUp u) ↔ isN u := by
  unfold sUp
  by_cases q : isN u ∨ u = 9218868437227405312
  · rw [if_pos q]
  · rw [if_neg q]; split
    · constructor <;> intro h <;> omega
    · split <;> omega
theorem sUp_cn {u : Nat} (h : Cn u) : Cn (sUp u) := by
  refine ⟨sUp_lt h.1, fun q => ?_⟩
  have := (sUp_n h.1).mp q
  unfold sUp; rw [if_pos (.inl this)]; exact h.2 this
theorem lc_pos {u : Nat} (h : u < 2 ^ 64) : lg_cmp (lN u) (0 : Int64) ≤ 0 ↔ u = 0 ∨ 2 ^ 63 ≤ u := by
  rw [lg_cmp_le, Int64.le_iff_toInt_le]
  have : (lN u).toInt = (lN u).toBitVec.toInt := rfl
  rw [this, wb_tb, BitVec.toInt_eq_toNat_bmod, BitVec.toNat_ofNat, Nat.mod_eq_of_lt h, Int.bmod_def]
  show _ ≤ (0 : Int) ↔ _
  split <;> omega
theorem l_dec {u : Nat} (h : 0 < u) (h2 : u < 2 ^ 64) : lN u - 1 = lN (u - 1) := by
  apply wb_inj
  rw [Int64.toBitVec_sub, wb_tb, wb_tb]
  apply BitVec.eq_of_toNat_eq
  rw [BitVec.toNat_sub, BitVec.toNat_ofNat, BitVec.toNat_ofNat]
  show (2 ^ 64 - 1 + u % 2 ^ 64) % 2 ^ 64 = _
  omega
theorem l_inc (u : Nat) : lN u + 1 = lN (u + 1) := by
  apply wb_inj
  rw [Int64.toBitVec_add, wb_tb, wb_tb]
  apply BitVec.eq_of_toNat_eq
  rw [BitVec.toNat_add, BitVec.toNat_ofNat, BitVec.toNat_ofNat]
  show (u % 2 ^ 64 + 1) % 2 ^ 64 = _
  omega
theorem c_isZero {u : Nat} (h : u < 2 ^ 64) : fX1_isZero (lN u) = if u % 2 ^ 63 = 0 then 1 else 0 := r_isZero h
theorem c_up {u : Nat} (h : u < 2 ^ 64) : fX1_up (lN u) = lN (sUp u) := by
  unfold fX1_up sUp; rw [c_isNone h, c_isZero h]
  have e : lg_cmp (lN u) (9218868437227405312 : Int64) = 0 ↔ u = 9218868437227405312 := by
    rw [show (9218868437227405312 : Int64) = lN 9218868437227405312 from rfl, lc_eq h (by decide)]
  by_cases q : isN u
  · rw [if_pos q, if_neg (by decide), if_pos (.inl q)]
  · rw [if_neg q, if_pos rfl]
    by_cases r : u = 9218868437227405312
    · rw [if_pos (e.mpr r), if_pos (.inr r)]
    · rw [if_neg (fun z => r (e.mp z)), if_neg (show ¬ (isN u ∨ u = 9218868437227405312) from fun z => z.elim q r)]
      by_cases z : u % 2 ^ 63 = 0
      · rw [if_pos z, if_pos z]; rfl
      · rw [if_neg z, if_neg z, if_pos rfl]
        by_cases s : u < 2 ^ 63
        · rw [if_neg (by rw [lc_pos h]; omega), if_pos s, l_inc]
        · rw [if_pos (by rw [lc_pos h]; omega), if_neg s, l_dec (by omega) h]
theorem eq_inf {u : Nat} (h : u < 2 ^ 64) : bEq u 9218868437227405312 ↔ u = 9218868437227405312 := by
  constructor
  · rintro ⟨_, _, q⟩
    rcases rk_cases u with ⟨a, b⟩ | ⟨a, b⟩ <;> rw [b, show rk 9218868437227405312 = 9218868437227405312 from rfl] at q <;> omega
  · intro q; subst q; exact ⟨by decide, by decide, rfl⟩
theorem eq_minf {u : Nat} (h : u < 2 ^ 64) : bEq u 18442240474082181120 ↔ u = 18442240474082181120 := by
  constructor
  · rintro ⟨_, _, q⟩
    rcases rk_cases u with ⟨a, b⟩ | ⟨a, b⟩ <;> rw [b, show rk 18442240474082181120 = -9218868437227405312 from rfl] at q <;> omega
  · intro q; subst q; exact ⟨by decide, by decide, rfl⟩
theorem eq_zero {u : Nat} (h : u < 2 ^ 64) : bEq u 0 ↔ u % 2 ^ 63 = 0 := by
  constructor
  · rintro ⟨_, _, q⟩
    rcases rk_cases u with ⟨a, b⟩ | ⟨a, b⟩ <;> rw [b, show rk 0 = 0 from rfl] at q <;> omega
  · intro q
    refine ⟨by omega, by decide, ?_⟩
    rcases rk_cases u with ⟨a, b⟩ | ⟨a, b⟩ <;> rw [b, show rk 0 = 0 from rfl] <;> omega
theorem gt_zero {u : Nat} (h : u < 2 ^ 64) (n : ¬ isN u) : bLt 0 u ↔ 0 < u ∧ u < 2 ^ 63 := by
  constructor
  · rintro ⟨_, _, q⟩
    rcases rk_cases u with ⟨a, b⟩ | ⟨a, b⟩ <;> rw [b, show rk 0 = 0 from rfl] at q <;> omega
  · intro q
    refine ⟨by decide, n, ?_⟩
    rcases rk_cases u with ⟨a, b⟩ | ⟨a, b⟩ <;> rw [b, show rk 0 = 0 from rfl] <;> omega
theorem lt_zero {u : Nat} (h : u < 2 ^ 64) (n : ¬ isN u) : bLt u 0 ↔ 2 ^ 63 < u := by
  constructor
  · rintro ⟨_, _, q⟩
    rcases rk_cases u with ⟨a, b⟩ | ⟨a, b⟩ <;> rw [b, show rk 0 = 0 from rfl] at q <;> omega
  · intro q
    refine ⟨n, by decide, ?_⟩
    rcases rk_cases u with ⟨a, b⟩ | ⟨a, b⟩ <;> rw [b, show rk 0 = 0 from rfl] <;> omega
theorem d0 : (FP.dconst0 : UInt64) = dN 0 := rfl
theorem dI : (9218868437227405312 : UInt64) = dN 9218868437227405312 := rfl
theorem dMI : (18442240474082181120 : UInt64) = dN 18442240474082181120 := rfl
theorem m_up {u : Nat} (h : Cn u) {kr : UInt64 → Prop} (k : kr (dN (sUp u))) : wX4_up (dN u) kr := by
  unfold wX4_up bX4_up_0
  rw [d0, dI]
  unfold sUp at k
  by_cases q : isN u
  · rw [if_neg (by rw [self_eq h.1]; exact fun z => z q)]; rw [if_pos (.inl q)] at k; exact k
  · rw [if_pos (by rw [self_eq h.1]; exact q)]
    by_cases r : u = 9218868437227405312
    · rw [if_pos (by rw [cvl_eq h.1 (by decide), eq_inf h.1]; exact r)]; rw [if_pos (.inr r)] at k; exact k
    · rw [if_neg (by rw [cvl_eq h.1 (by decide), eq_inf h.1]; exact r)]; rw [if_neg (fun z => z.elim q r)] at k
      by_cases z : u % 2 ^ 63 = 0
      · rw [if_pos (by rw [cvl_eq h.1 (by decide), eq_zero h.1]; exact z)]; rw [if_pos z] at k
        exact m_of (u := 1) (by decide) (by rw [show tld 1 = 1 from rfl]; exact k)
      · rw [if_neg (by rw [cvl_eq h.1 (by decide), eq_zero h.1]; exact z)]; rw [if_neg z] at k
        have hu := h.1
        by_cases s : u < 2 ^ 63
        · rw [if_neg (by rw [cvl_le h.1 (by decide), gt_zero h.1 q]; omega)]; rw [if_pos s] at k
          refine m_bits h ?_
          rw [l_inc]
          refine m_of (by omega) ?_
          unfold tld; rw [if_neg (by omega)]; exact k
        · rw [if_pos (by rw [cvl_le h.1 (by decide), gt_zero h.1 q]; omega)]; rw [if_neg s] at k
          refine m_bits h ?_
          rw [l_dec (by omega) h.1]
          refine m_of (by omega) ?_
          unfold tld; rw [if_neg (by omega)]; exact k
def sDn (u : Nat) : Nat := sNeg (sUp (sNeg u))
theorem c_down {u : Nat} (h : u < 2 ^ 64) : fX1_down (lN u) = lN (sDn u) := by
  unfold fX1_down sDn; rw [c_opp h, c_up (sNeg_cn h).1, c_opp (sUp_lt (sNeg_cn h).1)]
theorem sDn_cn {u : Nat} (h : u < 2 ^ 64) : Cn (sDn u) := sNeg_cn (sUp_lt (sNeg_cn h).1)
theorem sDn_n {u : Nat} (h : u < 2 ^ 64) : isN (sDn u) ↔ isN u := by
  unfold sDn; rw [sNeg_n (sUp_lt (sNeg_cn h).1), sUp_n (sNeg_cn h).1, sNeg_n h]
theorem m_down {u : Nat} (h : Cn u) {kr : UInt64 → Prop} (k : kr (dN (sDn u))) : wX4_down (dN u) kr := by
  unfold wX4_down bX4_down_0
  have hd := sDn_n h.1
  by_cases q : isN u
  · rw [if_neg (by rw [self_eq h.1]; exact fun z => z q)]
    rw [(sDn_cn h.1).2 (hd.mpr q)] at k; rw [h.2 q]; exact k
  · rw [if_pos (by rw [self_eq h.1]; exact q), dneg_N h.1]
    have e : flip u = sNeg u := by unfold sNeg; rw [if_neg q]
    rw [e]
    refine m_up (sNeg_cn h.1) ?_
    rw [dneg_N (sUp_lt (sNeg_cn h.1).1)]
    have e2 : flip (sUp (sNeg u)) = sDn u := (sNeg_flip (by rw [sUp_n (sNeg_cn h.1).1, sNeg_n h.1]; exact q)).symm
    rw [e2]; exact k
