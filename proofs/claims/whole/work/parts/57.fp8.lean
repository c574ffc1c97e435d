theorem x_lN (a b : Nat) : lN a ^^^ lN b = lN (a ^^^ b) := by
  apply wb_inj
  rw [Int64.toBitVec_xor, wb_tb, wb_tb, wb_tb]
  apply BitVec.eq_of_toNat_eq
  rw [BitVec.toNat_xor, BitVec.toNat_ofNat, BitVec.toNat_ofNat, BitVec.toNat_ofNat, Nat.xor_mod_two_pow]
theorem nS_bit (u : Nat) : nS u = u.testBit 63 := by
  unfold nS
  rw [Nat.testBit_eq_decide_div_mod_eq]
  rcases Nat.mod_two_eq_zero_or_one (u / 2 ^ 63) with q | q <;> rw [q] <;> rfl
theorem xor_sg {u v : Nat} (hu : u < 2 ^ 64) (hv : v < 2 ^ 64) : lg_cmp ((lN u ^^^ lN v) &&& (-9223372036854775808 : Int64)) (0 : Int64) = 0 ↔ nS u = nS v := by
  have hx : u ^^^ v < 2 ^ 64 := Nat.xor_lt_two_pow hu hv
  rw [x_lN, sg_and hx, show (0 : Int64) = lN 0 from rfl, lc_eq (by omega) (by decide)]
  have : (u ^^^ v) / 2 ^ 63 * 2 ^ 63 = 0 ↔ (u ^^^ v).testBit 63 = false := by
    rw [Nat.testBit_eq_decide_div_mod_eq]
    constructor
    · intro h; exact decide_eq_false (by omega)
    · intro h; have := of_decide_eq_false h; omega
  rw [this, Nat.testBit_xor, nS_bit, nS_bit]
  cases u.testBit 63 <;> cases v.testBit 63 <;> simp
theorem xor_top {u : Nat} (h : u < 2 ^ 64) : u ^^^ 2 ^ 63 = if u < 2 ^ 63 then u + 2 ^ 63 else u - 2 ^ 63 := by
  have key : ∀ x : Nat, x < 2 ^ 63 → x ^^^ 2 ^ 63 = x + 2 ^ 63 := by
    intro x hx
    apply Nat.eq_of_testBit_eq
    intro i
    rw [Nat.testBit_xor, Nat.testBit_two_pow, Nat.add_comm]
    have e := Nat.two_pow_add_eq_or_of_lt hx 1
    rw [Nat.mul_one] at e
    rw [e, Nat.testBit_or, Nat.testBit_two_pow]
    by_cases q : 63 = i
    · subst q
      rw [Nat.testBit_lt_two_pow hx]; rfl
    · simp [q]
  by_cases q : u < 2 ^ 63
  · rw [if_pos q]; exact key u q
  · rw [if_neg q]
    have h1 := key (u - 2 ^ 63) (by omega)
    rw [show u - 2 ^ 63 + 2 ^ 63 = u by omega] at h1
    have h2 : (u - 2 ^ 63) ^^^ 2 ^ 63 ^^^ 2 ^ 63 = u ^^^ 2 ^ 63 := by rw [h1]
    rw [Nat.xor_assoc, Nat.xor_self, Nat.xor_zero] at h2
    exact h2.symm
abbrev isN (u : Nat) : Prop := 9218868437227405312 < u % 2 ^ 63
abbrev isI (u : Nat) : Prop := u % 2 ^ 63 = 9218868437227405312
def NOT64 : Nat := 9221120237041090560
theorem sc_dec (u : Nat) : u % 2 ^ 63 < 9218868437227405312 ∨ isI u ∨ isN u := by omega
theorem dec_inf {u : Nat} (h : isI u) : FP.Core.decode FP.Core.b64 u = .inf (nS u) := by
  unfold FP.Core.decode FP.Core.fieldE FP.Core.fieldT FP.Core.fieldS
  simp only [b64_exps, b64_tails]
  rw [if_pos (by omega), if_pos (by omega)]
  unfold nS; congr 2; omega
theorem enc_inf {u : Nat} (hu : u < 2 ^ 64) (h : isI u) : FP.Core.encode FP.Core.b64 (.inf (nS u)) = u := by
  unfold FP.Core.encode FP.Core.assemble
  simp only [b64_exps, b64_tails]
  have := nS_nat hu
  omega
theorem enc_lt (d : FP.Core.Datum) (h : FP.Core.fits FP.Core.b64 d) : FP.Core.encode FP.Core.b64 d < 2 ^ 64 := by
  have := FP.Core.encode_lt FP.Core.good_b64 d h
  rw [FP.Core.size_b64] at this; exact this
theorem add_lt (u v : Nat) : FP.Core.add FP.Core.b64 u v < 2 ^ 64 := enc_lt _ (FP.Core.round_fits FP.Core.good_b64 _)
/-- a + b, one NaN for all that is none -/
def sAdd (u v : Nat) : Nat := if isN u ∨ isN v ∨ (isI u ∧ isI v ∧ u ≠ v) then NOT64 else FP.Core.add FP.Core.b64 u v
set_option maxHeartbeats 1000000 in
theorem r_plus {u v : Nat} (hu : u < 2 ^ 64) (hv : v < 2 ^ 64) : fX1_plus (lN u) (lN v) = lN (if u % 2 ^ 63 ≤ 9218868437227405312 ∧ v % 2 ^ 63 ≤ 9218868437227405312 ∧ ¬ (u % 2 ^ 63 = 9218868437227405312 ∧ v % 2 ^ 63 = 9218868437227405312 ∧ u ≠ v) then FP.Core.add FP.Core.b64 u v else NOT64) := by
  have hnot : (9221120237041090560 : Int64) = lN NOT64 := rfl
  unfold fX1_plus
  rw [r_isNone hu, r_isNone hv, r_isInf hu, r_isInf hv, hnot]
  by_cases n1 : u % 2 ^ 63 ≤ 9218868437227405312
  · rw [if_pos (show (if u % 2 ^ 63 ≤ 9218868437227405312 then (0 : Int32) else 1) = 0 by rw [if_pos n1])]
    by_cases n2 : v % 2 ^ 63 ≤ 9218868437227405312
    · rw [if_pos (show (if v % 2 ^ 63 ≤ 9218868437227405312 then (0 : Int32) else 1) = 0 by rw [if_pos n2])]
      by_cases i1 : u % 2 ^ 63 = 9218868437227405312
      · rw [if_neg (show ¬ (if u % 2 ^ 63 = 9218868437227405312 then (1 : Int32) else 0) = 0 by rw [if_pos i1]; decide)]
        rw [show (-9223372036854775808 : Int64) = lN (2 ^ 63) from rfl, x_lN, xor_top hu]
        have hfl : (if u < 2 ^ 63 then u + 2 ^ 63 else u - 2 ^ 63) < 2 ^ 64 := by split <;> omega
        simp only [lc_eq hv hfl]
        by_cases z : v = (if u < 2 ^ 63 then u + 2 ^ 63 else u - 2 ^ 63)
        · rw [if_pos z, if_neg]
          intro h
          refine h.2.2 ⟨i1, ?_, ?_⟩
          · rw [z]; split <;> omega
          · rw [z]; split <;> omega
        · rw [if_neg z]
          have hne : ¬ (u % 2 ^ 63 = 9218868437227405312 ∧ v % 2 ^ 63 = 9218868437227405312 ∧ u ≠ v) := by
            intro h
            apply z
            split <;> omega
          rw [if_pos ⟨n1, n2, hne⟩]
          congr 1
          unfold FP.Core.add
          rw [dec_inf i1]
          by_cases i2 : v % 2 ^ 63 = 9218868437227405312
          · have : u = v := by
              apply Classical.byContradiction; intro h; exact hne ⟨i1, i2, h⟩
            subst this
            rw [dec_inf i1]
            rw [show FP.Core.exactSum (.inf (nS u)) (.inf (nS u)) = .inf (nS u) from if_pos rfl]
            exact (enc_inf hu i1).symm
          · rw [dec_fin (fin_iff.mp (show v % 2 ^ 63 < 9218868437227405312 by omega))]
            unfold FP.Core.exactSum FP.Core.round
            exact (enc_inf hu i1).symm
      · rw [if_pos (show (if u % 2 ^ 63 = 9218868437227405312 then (1 : Int32) else 0) = 0 by rw [if_neg i1])]
        have fu := fin_iff.mp (show u % 2 ^ 63 < 9218868437227405312 by omega)
        have hcond : u % 2 ^ 63 ≤ 9218868437227405312 ∧ v % 2 ^ 63 ≤ 9218868437227405312 ∧ ¬ (u % 2 ^ 63 = 9218868437227405312 ∧ v % 2 ^ 63 = 9218868437227405312 ∧ u ≠ v) := ⟨n1, n2, fun h => i1 h.1⟩
        rw [if_pos hcond]
        by_cases i2 : v % 2 ^ 63 = 9218868437227405312
        · rw [if_neg (show ¬ (if v % 2 ^ 63 = 9218868437227405312 then (1 : Int32) else 0) = 0 by rw [if_pos i2]; decide)]
          congr 1
          unfold FP.Core.add
          rw [dec_inf i2, dec_fin fu]
          unfold FP.Core.exactSum FP.Core.round
          exact (enc_inf hv i2).symm
        · rw [if_pos (show (if v % 2 ^ 63 = 9218868437227405312 then (1 : Int32) else 0) = 0 by rw [if_neg i2])]
          have fv := fin_iff.mp (show v % 2 ^ 63 < 9218868437227405312 by omega)
          have su := nSc_lt fu
          have sv := nSc_lt fv
          have fru := nFr_lt u
          have frv := nFr_lt v
          rw [mag_and hu, mag_and hv, r_scale hu, r_scale hv, r_fraction hu, r_fraction hv, shl3, shl3, sg_and hu, sg_and hv, ← nS_nat hu, ← nS_nat hv]
          simp only [lc_lt (show u % 2 ^ 63 < 2 ^ 63 from Nat.mod_lt _ (by decide)) (show v % 2 ^ 63 < 2 ^ 63 from Nat.mod_lt _ (by decide)), xor_sg hu hv]
          by_cases q : u % 2 ^ 63 < v % 2 ^ 63
          · rw [if_pos q, i32_sub (k_le (Nat.le_of_lt q)), r_moved (by omega) (by omega), add_comm64]
            by_cases g : nS u = nS v
            · rw [if_pos g, g]
              exact plus_s hv fv fu (Nat.le_of_lt q) g.symm
            · rw [if_neg g]
              exact plus_d hv fv fu (Nat.le_of_lt q) (fun h => g h.symm)
          · rw [if_neg q, i32_sub (k_le (Nat.le_of_not_lt q)), r_moved (by omega) (by omega)]
            by_cases g : nS u = nS v
            · rw [if_pos g]
              exact plus_s hu fu fv (Nat.le_of_not_lt q) g
            · rw [if_neg g]
              exact plus_d hu fu fv (Nat.le_of_not_lt q) g
    · rw [if_neg (show ¬ (if v % 2 ^ 63 ≤ 9218868437227405312 then (0 : Int32) else 1) = 0 by rw [if_neg n2]; decide), if_neg (fun h => n2 h.2.1)]
  · rw [if_neg (show ¬ (if u % 2 ^ 63 ≤ 9218868437227405312 then (0 : Int32) else 1) = 0 by rw [if_neg n1]; decide), if_neg (fun h => n1 h.1)]
