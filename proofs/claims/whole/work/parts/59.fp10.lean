theorem nn {p : Prop} (h : p) : ¬ ¬ p := fun k => k h
theorem sgx {u v : Nat} (hu : u < 2 ^ 64) (hv : v < 2 ^ 64) : (lN u ^^^ lN v) &&& (-9223372036854775808 : Int64) = lN ((nS u != nS v).toNat * 2 ^ 63) := by
  have hx : u ^^^ v < 2 ^ 64 := Nat.xor_lt_two_pow hu hv
  rw [x_lN, sg_and hx, ← nS_nat hx, nS_bit (u ^^^ v), Nat.testBit_xor, nS_bit, nS_bit]
theorem nFr_pos {u : Nat} (h : u % 2 ^ 63 ≠ 0) : 0 < nFr u := by
  have := mag_eq u
  unfold nFr nSc nE at *
  split <;> omega
theorem nFr_zero {u : Nat} (h : u % 2 ^ 63 = 0) : nFr u = 0 := by
  have := mag_eq u
  omega
theorem near_mul {s : Bool} {M N : Nat} {e : Int} (hM : 2 ^ 52 ≤ M) (hN : 2 ^ 52 ≤ N) : FP.Core.roundRatio FP.Core.b64 s (M * N) 1 e = FP.Core.roundRatio FP.Core.b64 s (jam (M * N) 49) 1 (e + 49) := by
  rw [rr_dn 49 (by decide), Nat.one_mul]
  have hp : 2 ^ 52 * 2 ^ 52 ≤ M * N := Nat.mul_le_mul hM hN
  have hj : 2 ^ 54 ≤ jam (M * N) 49 := Nat.le_trans (show 2 ^ 54 ≤ M * N / 2 ^ 49 by omega) Nat.left_le_or
  exact near_round (by decide) (by omega) (jam_near _ _) (q_big hj)
theorem times_fin {u v : Nat} {s : Bool} (fu : nE u ≠ 2047) (fv : nE v ≠ 2047) (cu : 0 < nFr u) (cv : 0 < nFr v) : fX1_packed (lN (s.toNat * 2 ^ 63)) (((((nI (nSc u)) - (fX1_lack (lN (nFr u)))) + (nI (nSc v))) - (fX1_lack (lN (nFr v)))) - (1023 : Int32)) (fX1_topOfProduct ((lN (nFr u)) <<< ((fX1_lack (lN (nFr u))).toInt64 &&& 63)) ((lN (nFr v)) <<< ((fX1_lack (lN (nFr v))).toInt64 &&& 63))) = lN (FP.Core.encode FP.Core.b64 (FP.Core.roundRatio FP.Core.b64 s (nFr u * nFr v) 1 ((nSc u : Int) - 1075 + ((nSc v : Int) - 1075)))) := by
  obtain ⟨l1, l2, l3, l4⟩ := r_lack cu (nFr_lt u)
  obtain ⟨k1, k2, k3, k4⟩ := r_lack cv (nFr_lt v)
  have su := nSc_lt fu
  have sv := nSc_lt fv
  have tu : (nI (nSc u)).toInt = (nSc u : Int) := nI_toInt (by omega)
  have tv : (nI (nSc v)).toInt = (nSc v : Int) := nI_toInt (by omega)
  have tl : (nI (nLk (nFr u))).toInt = (nLk (nFr u) : Int) := nI_toInt (by omega)
  have tk : (nI (nLk (nFr v))).toInt = (nLk (nFr v) : Int) := nI_toInt (by omega)
  have t3 : ((1023 : Int32)).toInt = 1023 := rfl
  rw [l1, k1, wb_shl _ (by omega), wb_shl _ (by omega), r_top l4 k4]
  have a1 : (nI (nSc u) - nI (nLk (nFr u))).toInt = (nSc u : Int) - nLk (nFr u) := by rw [i_sub (by omega), tu, tl]
  have a2 : (nI (nSc u) - nI (nLk (nFr u)) + nI (nSc v)).toInt = (nSc u : Int) - nLk (nFr u) + nSc v := by rw [i_add (by omega), a1, tv]
  have a3 : (nI (nSc u) - nI (nLk (nFr u)) + nI (nSc v) - nI (nLk (nFr v))).toInt = (nSc u : Int) - nLk (nFr u) + nSc v - nLk (nFr v) := by rw [i_sub (by omega), a2, tk]
  have a4 : (nI (nSc u) - nI (nLk (nFr u)) + nI (nSc v) - nI (nLk (nFr v)) - (1023 : Int32)).toInt = (nSc u : Int) - nLk (nFr u) + nSc v - nLk (nFr v) - 1023 := by rw [i_sub (by omega), a3, t3]
  have hp : 2 ^ 52 * 2 ^ 52 ≤ nFr u * 2 ^ nLk (nFr u) * (nFr v * 2 ^ nLk (nFr v)) := Nat.mul_le_mul l3 k3
  have hp2 : nFr u * 2 ^ nLk (nFr u) * (nFr v * 2 ^ nLk (nFr v)) < 2 ^ 53 * 2 ^ 53 := Nat.mul_lt_mul'' l4 k4
  have hj : 2 ^ 54 ≤ jam (nFr u * 2 ^ nLk (nFr u) * (nFr v * 2 ^ nLk (nFr v))) 49 := Nat.le_trans (by omega) Nat.left_le_or
  have hj2 : jam (nFr u * 2 ^ nLk (nFr u) * (nFr v * 2 ^ nLk (nFr v))) 49 < 2 ^ 57 := jam_lt (k := 56) (by omega)
  rw [pack_round (by omega) (by omega) (by omega), a4]
  congr 2
  symm
  rw [rr_up (nLk (nFr u) + nLk (nFr v)) (by decide), show nFr u * nFr v * 2 ^ (nLk (nFr u) + nLk (nFr v)) = nFr u * 2 ^ nLk (nFr u) * (nFr v * 2 ^ nLk (nFr v)) by rw [Nat.pow_add, Nat.mul_mul_mul_comm], near_mul l3 k3]
  congr 1
  omega
theorem mul_fin {u v : Nat} (fu : nE u ≠ 2047) (fv : nE v ≠ 2047) : FP.Core.mul FP.Core.b64 u v = FP.Core.encode FP.Core.b64 (FP.Core.roundRatio FP.Core.b64 (nS u != nS v) (nFr u * nFr v) 1 ((nSc u : Int) - 1075 + ((nSc v : Int) - 1075))) := by
  unfold FP.Core.mul
  rw [dec_fin fu, dec_fin fv]
  rfl
theorem enc_infs (s : Bool) : FP.Core.encode FP.Core.b64 (.inf s) = s.toNat * 2 ^ 63 + 9218868437227405312 := by cases s <;> decide
theorem or_inf (s : Bool) : lN (s.toNat * 2 ^ 63) ||| (9218868437227405312 : Int64) = lN (FP.Core.encode FP.Core.b64 (.inf s)) := by
  rw [enc_infs]; exact or_hi (x := 9218868437227405312) (by decide) (by cases s <;> decide)
theorem b01 {c : Prop} [Decidable c] : ((if c then (1 : Int32) else 0) = 0) = ¬ c := by
  by_cases h : c <;> simp [h]
theorem b10 {c : Prop} [Decidable c] : ((if c then (0 : Int32) else 1) = 0) = c := by
  by_cases h : c <;> simp [h]
set_option maxHeartbeats 1000000 in
theorem r_times {u v : Nat} (hu : u < 2 ^ 64) (hv : v < 2 ^ 64) : fX1_times (lN u) (lN v) = lN (if u % 2 ^ 63 ≤ 9218868437227405312 ∧ v % 2 ^ 63 ≤ 9218868437227405312 ∧ ¬ (u % 2 ^ 63 = 0 ∧ v % 2 ^ 63 = 9218868437227405312) ∧ ¬ (u % 2 ^ 63 = 9218868437227405312 ∧ v % 2 ^ 63 = 0) then FP.Core.mul FP.Core.b64 u v else NOT64) := by
  have hnot : (9221120237041090560 : Int64) = lN NOT64 := rfl
  unfold fX1_times
  rw [r_isNone hu, r_isNone hv, r_isInf hu, r_isInf hv, r_isZero hu, r_isZero hv, hnot, sgx hu hv, or_inf]
  simp only [b01, b10]
  by_cases n1 : u % 2 ^ 63 ≤ 9218868437227405312
  · rw [if_pos n1]
    by_cases n2 : v % 2 ^ 63 ≤ 9218868437227405312
    · rw [if_pos n2]
      by_cases i1 : u % 2 ^ 63 = 9218868437227405312
      · rw [if_neg (nn i1), if_pos (show ¬ u % 2 ^ 63 = 0 by omega)]
        by_cases z2 : v % 2 ^ 63 = 0
        · rw [if_neg (nn z2), if_neg (fun h => h.2.2.2 ⟨i1, z2⟩)]
        · rw [if_pos z2, if_pos ⟨n1, n2, by omega, by omega⟩]
          congr 1
          unfold FP.Core.mul
          rw [dec_inf i1]
          by_cases i2 : v % 2 ^ 63 = 9218868437227405312
          · rw [dec_inf i2]; rfl
          · rw [dec_fin (fin_iff.mp (show v % 2 ^ 63 < 9218868437227405312 by omega))]
            have := nFr_pos z2
            rw [show FP.Core.exactProduct (.inf (nS u)) (.fin (nS v) (nFr v) ((nSc v : Int) - 1075)) = .inf (nS u != nS v) from if_neg (by omega)]
            rfl
      · rw [if_pos i1]
        have fu := fin_iff.mp (show u % 2 ^ 63 < 9218868437227405312 by omega)
        by_cases i2 : v % 2 ^ 63 = 9218868437227405312
        · rw [if_neg (nn i2)]
          by_cases z1 : u % 2 ^ 63 = 0
          · rw [if_neg (nn z1), if_neg (fun h => h.2.2.1 ⟨z1, i2⟩)]
          · rw [if_pos z1, if_pos (show ¬ v % 2 ^ 63 = 0 by omega), if_pos ⟨n1, n2, by omega, by omega⟩]
            congr 1
            unfold FP.Core.mul
            rw [dec_inf i2, dec_fin fu]
            have := nFr_pos z1
            rw [show FP.Core.exactProduct (.fin (nS u) (nFr u) ((nSc u : Int) - 1075)) (.inf (nS v)) = .inf (nS u != nS v) from if_neg (by omega)]
            rfl
        · rw [if_pos i2]
          have fv := fin_iff.mp (show v % 2 ^ 63 < 9218868437227405312 by omega)
          rw [if_pos (show u % 2 ^ 63 ≤ 9218868437227405312 ∧ v % 2 ^ 63 ≤ 9218868437227405312 ∧ ¬ (u % 2 ^ 63 = 0 ∧ v % 2 ^ 63 = 9218868437227405312) ∧ ¬ (u % 2 ^ 63 = 9218868437227405312 ∧ v % 2 ^ 63 = 0) from ⟨n1, n2, by omega, by omega⟩), mul_fin fu fv]
          by_cases z1 : u % 2 ^ 63 = 0
          · rw [if_neg (nn z1), nFr_zero z1, Nat.zero_mul, rr_zero, enc_zero]
          · rw [if_pos z1]
            by_cases z2 : v % 2 ^ 63 = 0
            · rw [if_neg (nn z2), nFr_zero z2, Nat.mul_zero, rr_zero, enc_zero]
            · rw [if_pos z2, r_scale hu, r_scale hv, r_fraction hu, r_fraction hv]
              exact times_fin fu fv (nFr_pos z1) (nFr_pos z2)
    · rw [if_neg n2, if_neg (fun h => n2 h.2.1)]
  · rw [if_neg n1, if_neg (fun h => n1 h.1)]
