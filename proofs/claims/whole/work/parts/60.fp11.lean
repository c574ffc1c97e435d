/-! QUOTIENTS -/
theorem shl8 (c : Nat) : lN c <<< ((8 : Int32).toInt64 &&& 63) = lN (c * 2 ^ 8) := wb_shl (k := 8) c (by decide)
/-- found and rest of M times 256 to the power of j over N -/
theorem q_loop {M N : Nat} (hN : 0 < N) (hN2 : N < 2 ^ 53) (hM : M < 2 ^ 53) (hN3 : 2 ^ 52 ≤ N) : ∀ (k j : Nat), j + k = 7 → qLoop (lN N) k (lN (M * 2 ^ (8 * j) / N), lN (M * 2 ^ (8 * j) % N)) = (lN (M * 2 ^ 56 / N), lN (M * 2 ^ 56 % N))
  | 0, j, h => by
    have : j = 7 := by omega
    subst this; rfl
  | k + 1, j, h => by
    rw [qLoop]
    have ih := q_loop hN hN2 hM hN3 k (j + 1) (by omega)
    rw [← ih]
    congr 1
    have hr : M * 2 ^ (8 * j) % N < N := Nat.mod_lt _ hN
    have hd := Nat.div_add_mod (M * 2 ^ (8 * j)) N
    have hp : M * 2 ^ (8 * (j + 1)) = M * 2 ^ (8 * j) * 2 ^ 8 := by rw [Nat.mul_assoc, ← Nat.pow_add]; rfl
    rw [hp]
    have hle : M * 2 ^ (8 * j) ≤ M * 2 ^ 48 := Nat.mul_le_mul_left _ (Nat.pow_le_pow_right (by decide) (by omega))
    have hf : M * 2 ^ (8 * j) / N < 2 ^ 50 := by
      rw [Nat.div_lt_iff_lt_mul hN]
      have : 2 ^ 50 * 2 ^ 52 ≤ 2 ^ 50 * N := Nat.mul_le_mul_left _ hN3
      omega
    generalize M * 2 ^ (8 * j) = A at hr hd hf ⊢
    generalize hF : A / N = F at hd hf ⊢
    generalize hR : A % N = R at hr hd ⊢
    have hA : A * 2 ^ 8 = N * (F * 2 ^ 8) + R * 2 ^ 8 := by rw [← hd, Nat.add_mul, Nat.mul_assoc]
    have e1 : A * 2 ^ 8 / N = F * 2 ^ 8 + R * 2 ^ 8 / N := by rw [hA, Nat.mul_add_div hN]
    have e2 : A * 2 ^ 8 % N = R * 2 ^ 8 % N := by rw [hA, Nat.mul_add_mod]
    have hq : R * 2 ^ 8 / N < 2 ^ 8 := by rw [Nat.div_lt_iff_lt_mul hN]; omega
    show (((lN F) <<< ((8 : Int32).toInt64 &&& 63)) ||| (((lN R) <<< ((8 : Int32).toInt64 &&& 63)) / lN N), ((lN R) <<< ((8 : Int32).toInt64 &&& 63)) - ((lN R) <<< ((8 : Int32).toInt64 &&& 63)) / lN N * lN N) = _
    rw [shl8, shl8, pk_lRem (by omega) hN (by omega), pk_lDiv (by omega) hN (by omega), or_lo (k := 8) hq (by omega), e1, e2]
theorem r_quot {M N : Nat} (hM : M < 2 ^ 53) (hN2 : N < 2 ^ 53) (hN3 : 2 ^ 52 ≤ N) : ∃ W, fX1_quotient (lN M) (lN N) = lN W ∧ Near W (M * 2 ^ 56) N ∧ M * 2 ^ 56 / N ≤ W ∧ W < 2 ^ 58 := by
  have hN : 0 < N := by omega
  unfold fX1_quotient
  rw [if_pos (show 0 < lg_cmp (lN N) (0 : Int64) from (lc_gt (a := N) (b := 0) (by omega) (by decide)).mpr hN)]
  have h0 := q_loop (M := M) hN hN2 hM hN3 7 0 (by decide)
  rw [show M * 2 ^ (8 * 0) = M by rw [Nat.mul_zero, Nat.pow_zero, Nat.mul_one]] at h0
  rw [pk_lDiv (a := M) (b := N) (by omega) hN (by omega)] 
  rw [show lN M - lN (M / N) * lN N = lN (M % N) by rw [← pk_lDiv (a := M) (b := N) (by omega) hN (by omega)]; exact pk_lRem (by omega) hN (by omega)]
  rw [h0]
  have hd := Nat.div_add_mod (M * 2 ^ 56) N
  have hr : M * 2 ^ 56 % N < N := Nat.mod_lt _ hN
  have hf : M * 2 ^ 56 / N < 2 ^ 57 + 1 := by
    rw [Nat.div_lt_iff_lt_mul hN]
    have : (2 ^ 57 + 1) * 2 ^ 52 ≤ (2 ^ 57 + 1) * N := Nat.mul_le_mul_left _ hN3
    omega
  unfold qFin
  show ∃ W, (if lg_cmp (lN (M * 2 ^ 56 % N)) (lN 0) = 0 then lN (M * 2 ^ 56 / N) else lN (M * 2 ^ 56 / N) ||| lN 1) = lN W ∧ _
  simp only [lc_eq (show M * 2 ^ 56 % N < 2 ^ 64 by omega) (show 0 < 2 ^ 64 by decide)]
  generalize M * 2 ^ 56 = A at hd hr hf ⊢
  generalize A / N = F at hd hf ⊢
  generalize A % N = R at hd hr ⊢
  by_cases z : R = 0
  · rw [if_pos z]
    refine ⟨F, rfl, Or.inl ?_, Nat.le_refl _, by omega⟩
    rw [z, Nat.add_zero, Nat.mul_comm] at hd; exact hd.symm
  · rw [if_neg z, wb_or (by omega) (by decide)]
    refine ⟨F ||| 1, rfl, Or.inr ?_, Nat.left_le_or, ?_⟩
    · rw [or_one]
      rw [Nat.mul_comm] at hd
      have ex : ∀ y : Nat, (y + 1) * N = y * N + N := fun y => Nat.succ_mul y _
      by_cases o : F % 2 = 1
      · rw [if_pos o]
        obtain ⟨y, rfl⟩ : ∃ y, F = y + 1 := ⟨F - 1, by omega⟩
        refine ⟨o, ?_, ?_⟩
        · rw [Nat.add_sub_cancel, ← hd, ex]; omega
        · rw [ex, ← hd]; omega
      · rw [if_neg o]
        refine ⟨by omega, ?_, ?_⟩
        · rw [Nat.add_sub_cancel, ← hd]; omega
        · rw [ex, ex, ← hd]; omega
    · rw [or_one]; split <;> omega
theorem over_fin {u v : Nat} {s : Bool} (fu : nE u ≠ 2047) (fv : nE v ≠ 2047) (cu : 0 < nFr u) (cv : 0 < nFr v) : fX1_packed (lN (s.toNat * 2 ^ 63)) (((((nI (nSc u)) - (fX1_lack (lN (nFr u)))) - ((nI (nSc v)) - (fX1_lack (lN (nFr v))))) + (1023 : Int32)) - (1 : Int32)) (fX1_quotient ((lN (nFr u)) <<< ((fX1_lack (lN (nFr u))).toInt64 &&& 63)) ((lN (nFr v)) <<< ((fX1_lack (lN (nFr v))).toInt64 &&& 63))) = lN (FP.Core.encode FP.Core.b64 (FP.Core.roundRatio FP.Core.b64 s (nFr u) (nFr v) ((nSc u : Int) - 1075 - ((nSc v : Int) - 1075)))) := by
  obtain ⟨l1, l2, l3, l4⟩ := r_lack cu (nFr_lt u)
  obtain ⟨k1, k2, k3, k4⟩ := r_lack cv (nFr_lt v)
  have su := nSc_lt fu
  have sv := nSc_lt fv
  have tu : (nI (nSc u)).toInt = (nSc u : Int) := nI_toInt (by omega)
  have tv : (nI (nSc v)).toInt = (nSc v : Int) := nI_toInt (by omega)
  have tl : (nI (nLk (nFr u))).toInt = (nLk (nFr u) : Int) := nI_toInt (by omega)
  have tk : (nI (nLk (nFr v))).toInt = (nLk (nFr v) : Int) := nI_toInt (by omega)
  have t3 : ((1023 : Int32)).toInt = 1023 := rfl
  have t1 : ((1 : Int32)).toInt = 1 := rfl
  rw [l1, k1, wb_shl _ (by omega), wb_shl _ (by omega)]
  obtain ⟨W, e1, e2, e3, e4⟩ := r_quot l4 k4 k3
  rw [e1]
  have a1 : (nI (nSc u) - nI (nLk (nFr u))).toInt = (nSc u : Int) - nLk (nFr u) := by rw [i_sub (by omega), tu, tl]
  have a2 : (nI (nSc v) - nI (nLk (nFr v))).toInt = (nSc v : Int) - nLk (nFr v) := by rw [i_sub (by omega), tv, tk]
  have a3 : (nI (nSc u) - nI (nLk (nFr u)) - (nI (nSc v) - nI (nLk (nFr v)))).toInt = (nSc u : Int) - nLk (nFr u) - (nSc v - nLk (nFr v)) := by rw [i_sub (by omega), a1, a2]
  have a4 : (nI (nSc u) - nI (nLk (nFr u)) - (nI (nSc v) - nI (nLk (nFr v))) + (1023 : Int32)).toInt = (nSc u : Int) - nLk (nFr u) - (nSc v - nLk (nFr v)) + 1023 := by rw [i_add (by omega), a3, t3]
  have a5 : (nI (nSc u) - nI (nLk (nFr u)) - (nI (nSc v) - nI (nLk (nFr v))) + (1023 : Int32) - (1 : Int32)).toInt = (nSc u : Int) - nLk (nFr u) - (nSc v - nLk (nFr v)) + 1023 - 1 := by rw [i_sub (by omega), a4, t1]
  have hW : 2 ^ 54 ≤ W := by
    refine Nat.le_trans ?_ e3
    rw [Nat.le_div_iff_mul_le (by omega)]
    exact Nat.le_trans (Nat.mul_le_mul_left _ (Nat.le_of_lt k4)) (Nat.le_trans (show 2 ^ 54 * 2 ^ 53 ≤ 2 ^ 52 * 2 ^ 56 by decide) (Nat.mul_le_mul_right _ l3))
  rw [pack_round (by omega) (by omega) (by omega), a5]
  refine congrArg (fun d => lN (FP.Core.encode FP.Core.b64 d)) (Eq.symm ?_)
  have hv0 : 0 < nFr v * 2 ^ nLk (nFr v) := Nat.mul_pos cv (Nat.two_pow_pos _)
  rw [rr_dn (nLk (nFr v)) cv, rr_up (nLk (nFr u) + 56) hv0, show nFr u * 2 ^ (nLk (nFr u) + 56) = nFr u * 2 ^ nLk (nFr u) * 2 ^ 56 by rw [Nat.pow_add, Nat.mul_assoc], near_round hv0 (by omega) e2 (q_big hW)]
  refine congrArg (FP.Core.roundRatio FP.Core.b64 s W 1) ?_
  omega
theorem div_fin {u v : Nat} (fu : nE u ≠ 2047) (fv : nE v ≠ 2047) (cv : 0 < nFr v) : FP.Core.div FP.Core.b64 u v = FP.Core.encode FP.Core.b64 (FP.Core.roundRatio FP.Core.b64 (nS u != nS v) (nFr u) (nFr v) ((nSc u : Int) - 1075 - ((nSc v : Int) - 1075))) := by
  unfold FP.Core.div
  rw [dec_fin fu, dec_fin fv]
  rw [show FP.Core.quotient FP.Core.b64 (.fin (nS u) (nFr u) ((nSc u : Int) - 1075)) (.fin (nS v) (nFr v) ((nSc v : Int) - 1075)) = FP.Core.roundRatio FP.Core.b64 (nS u != nS v) (nFr u) (nFr v) ((nSc u : Int) - 1075 - ((nSc v : Int) - 1075)) from if_neg (by omega)]
theorem rr_zero2 (s : Bool) (B : Nat) (e : Int) : FP.Core.roundRatio FP.Core.b64 s 0 B e = .fin s 0 FP.Core.b64.qmin := by unfold FP.Core.roundRatio; rw [if_pos rfl]
set_option maxHeartbeats 1000000 in
theorem r_over {u v : Nat} (hu : u < 2 ^ 64) (hv : v < 2 ^ 64) : fX1_over (lN u) (lN v) = lN (if u % 2 ^ 63 ≤ 9218868437227405312 ∧ v % 2 ^ 63 ≤ 9218868437227405312 ∧ ¬ (u % 2 ^ 63 = 0 ∧ v % 2 ^ 63 = 0) ∧ ¬ (u % 2 ^ 63 = 9218868437227405312 ∧ v % 2 ^ 63 = 9218868437227405312) then FP.Core.div FP.Core.b64 u v else NOT64) := by
  have hnot : (9221120237041090560 : Int64) = lN NOT64 := rfl
  unfold fX1_over
  rw [r_isNone hu, r_isNone hv, r_isInf hu, r_isInf hv, r_isZero hu, r_isZero hv, hnot, sgx hu hv, or_inf]
  simp only [b01, b10]
  by_cases n1 : u % 2 ^ 63 ≤ 9218868437227405312
  · rw [if_pos n1]
    by_cases n2 : v % 2 ^ 63 ≤ 9218868437227405312
    · rw [if_pos n2]
      by_cases i1 : u % 2 ^ 63 = 9218868437227405312
      · rw [if_neg (nn i1)]
        by_cases i2 : v % 2 ^ 63 = 9218868437227405312
        · rw [if_neg (nn i2), if_neg (fun h => h.2.2.2 ⟨i1, i2⟩)]
        · rw [if_pos i2, if_pos ⟨n1, n2, by omega, by omega⟩]
          congr 1
          unfold FP.Core.div
          rw [dec_inf i1, dec_fin (fin_iff.mp (show v % 2 ^ 63 < 9218868437227405312 by omega))]
          rfl
      · rw [if_pos i1]
        have fu := fin_iff.mp (show u % 2 ^ 63 < 9218868437227405312 by omega)
        by_cases z2 : v % 2 ^ 63 = 0
        · rw [if_neg (nn z2)]
          have fv := fin_iff.mp (show v % 2 ^ 63 < 9218868437227405312 by omega)
          by_cases z1 : u % 2 ^ 63 = 0
          · rw [if_neg (nn z1), if_neg (fun h => h.2.2.1 ⟨z1, z2⟩)]
          · rw [if_pos z1, if_pos ⟨n1, n2, by omega, by omega⟩]
            congr 1
            unfold FP.Core.div
            rw [dec_fin fu, dec_fin fv, nFr_zero z2]
            have := nFr_pos z1
            rw [show FP.Core.quotient FP.Core.b64 (.fin (nS u) (nFr u) ((nSc u : Int) - 1075)) (.fin (nS v) 0 ((nSc v : Int) - 1075)) = .inf (nS u != nS v) by simp only [FP.Core.quotient, if_true]; exact if_neg (by omega)]
        · rw [if_pos z2]
          by_cases i2 : v % 2 ^ 63 = 9218868437227405312
          · rw [if_pos (show u % 2 ^ 63 ≤ 9218868437227405312 ∧ v % 2 ^ 63 ≤ 9218868437227405312 ∧ ¬ (u % 2 ^ 63 = 0 ∧ v % 2 ^ 63 = 0) ∧ ¬ (u % 2 ^ 63 = 9218868437227405312 ∧ v % 2 ^ 63 = 9218868437227405312) from ⟨n1, n2, by omega, by omega⟩)]
            have hz : FP.Core.div FP.Core.b64 u v = (nS u != nS v).toNat * 2 ^ 63 := by
              unfold FP.Core.div
              rw [dec_fin fu, dec_inf i2]
              exact enc_zero _
            rw [hz, if_neg (nn i2), ite_self]
          · have fv := fin_iff.mp (show v % 2 ^ 63 < 9218868437227405312 by omega)
            rw [if_pos i2, if_pos (show u % 2 ^ 63 ≤ 9218868437227405312 ∧ v % 2 ^ 63 ≤ 9218868437227405312 ∧ ¬ (u % 2 ^ 63 = 0 ∧ v % 2 ^ 63 = 0) ∧ ¬ (u % 2 ^ 63 = 9218868437227405312 ∧ v % 2 ^ 63 = 9218868437227405312) from ⟨n1, n2, by omega, by omega⟩), div_fin fu fv (nFr_pos z2)]
            by_cases z1 : u % 2 ^ 63 = 0
            · rw [if_neg (nn z1), nFr_zero z1, rr_zero2, enc_zero]
            · rw [if_pos z1, r_scale hu, r_scale hv, r_fraction hu, r_fraction hv]
              exact over_fin fu fv (nFr_pos z1) (nFr_pos z2)
    · rw [if_neg n2, if_neg (fun h => n2 h.2.1)]
  · rw [if_neg n1, if_neg (fun h => n1 h.1)]
