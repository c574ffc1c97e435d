/-! THE CLASS'S SUM IS THE MACHINE'S -/
theorem enc_zero (s : Bool) : FP.Core.encode FP.Core.b64 (.fin s 0 FP.Core.b64.qmin) = s.toNat * 2 ^ 63 := by cases s <;> decide
theorem rr_zero (s : Bool) (e : Int) : FP.Core.roundRatio FP.Core.b64 s 0 1 e = .fin s 0 FP.Core.b64.qmin := by unfold FP.Core.roundRatio; rw [if_pos rfl]
theorem k_le {u v : Nat} (hm : v % 2 ^ 63 ≤ u % 2 ^ 63) : nSc v ≤ nSc u := by
  have hE : nE v ≤ nE u := by unfold nE; omega
  unfold nSc; split <;> split <;> omega
theorem c_le {u v : Nat} (hm : v % 2 ^ 63 ≤ u % 2 ^ 63) : nFr v ≤ nFr u * 2 ^ (nSc u - nSc v) := by
  have hk := k_le hm
  have h1 := nFr_lt v
  rcases Nat.eq_or_lt_of_le hk with q | q
  · rw [q, Nat.sub_self, Nat.pow_zero, Nat.mul_one]
    rw [mag_eq u, mag_eq v, q] at hm
    omega
  · have f := nFr_full (u := u) (by have := nSc_pos v; omega)
    obtain ⟨j, hj⟩ : ∃ j, nSc u - nSc v = j + 1 := ⟨nSc u - nSc v - 1, by omega⟩
    rw [hj, Nat.pow_succ]
    have : 1 ≤ 2 ^ j := Nat.one_le_two_pow
    have : nFr u * 2 ≤ nFr u * (2 ^ j * 2) := Nat.mul_le_mul_left _ (by omega)
    omega
theorem sum_min {u v : Nat} (hk : nSc v ≤ nSc u) : min ((nSc u : Int) - 1075) ((nSc v : Int) - 1075) = (nSc v : Int) - 1075 := by omega
theorem units_u {u v : Nat} (hk : nSc v ≤ nSc u) : FP.Core.inUnits (nFr u) ((nSc u : Int) - 1075) ((nSc v : Int) - 1075) = nFr u * 2 ^ (nSc u - nSc v) := by
  unfold FP.Core.inUnits; rw [show ((nSc u : Int) - 1075 - ((nSc v : Int) - 1075)).toNat = nSc u - nSc v by omega]
theorem units_v (v : Nat) : FP.Core.inUnits (nFr v) ((nSc v : Int) - 1075) ((nSc v : Int) - 1075) = nFr v := by
  unfold FP.Core.inUnits; rw [show ((nSc v : Int) - 1075 - ((nSc v : Int) - 1075)).toNat = 0 by omega, Nat.pow_zero, Nat.mul_one]
theorem add_same {u v : Nat} (fu : nE u ≠ 2047) (fv : nE v ≠ 2047) (hk : nSc v ≤ nSc u) (hs : nS u = nS v) : FP.Core.add FP.Core.b64 u v = FP.Core.encode FP.Core.b64 (FP.Core.roundRatio FP.Core.b64 (nS u) (nFr u * 2 ^ (nSc u - nSc v) + nFr v) 1 ((nSc v : Int) - 1075)) := by
  unfold FP.Core.add
  rw [dec_fin fu, dec_fin fv]
  unfold FP.Core.exactSum FP.Core.round FP.Core.sumUnits FP.Core.sumSign
  simp only [sum_min hk, units_u hk, units_v]
  rw [← hs]
  unfold FP.Core.signed
  generalize nFr u * 2 ^ (nSc u - nSc v) = x
  generalize nFr v = y
  cases nS u
  · simp only [Bool.false_eq_true, if_false]
    rw [show ((x : Int) + (y : Int)).natAbs = x + y by omega]
    congr 2
    by_cases z : (x : Int) + y = 0
    · rw [if_pos z]; rfl
    · rw [if_neg z]; exact decide_eq_false (by omega)
  · simp only [if_true]
    rw [show (-(x : Int) + -(y : Int)).natAbs = x + y by omega]
    congr 2
    by_cases z : -(x : Int) + -(y : Int) = 0
    · rw [if_pos z]; rfl
    · rw [if_neg z]; exact decide_eq_true (by omega)
theorem add_diff {u v : Nat} (fu : nE u ≠ 2047) (fv : nE v ≠ 2047) (hk : nSc v ≤ nSc u) (hs : ¬ nS u = nS v) (hc : nFr v ≤ nFr u * 2 ^ (nSc u - nSc v)) : FP.Core.add FP.Core.b64 u v = if nFr u * 2 ^ (nSc u - nSc v) = nFr v then 0 else FP.Core.encode FP.Core.b64 (FP.Core.roundRatio FP.Core.b64 (nS u) (nFr u * 2 ^ (nSc u - nSc v) - nFr v) 1 ((nSc v : Int) - 1075)) := by
  unfold FP.Core.add
  rw [dec_fin fu, dec_fin fv]
  unfold FP.Core.exactSum FP.Core.round FP.Core.sumUnits FP.Core.sumSign
  simp only [sum_min hk, units_u hk, units_v]
  have hs : nS v = !nS u := by cases h1 : nS u <;> cases h2 : nS v <;> simp_all
  rw [hs]
  unfold FP.Core.signed
  generalize nFr u * 2 ^ (nSc u - nSc v) = x at hc
  generalize nFr v = y at hc
  cases nS u
  · simp only [Bool.false_eq_true, if_false, Bool.not_false, if_true]
    by_cases z : x = y
    · subst z
      rw [if_pos rfl, if_pos (by omega), show ((x : Int) + -(x : Int)).natAbs = 0 by omega, rr_zero, enc_zero]; rfl
    · rw [if_neg z, if_neg (by omega), show ((x : Int) + -(y : Int)).natAbs = x - y by omega, show decide ((x : Int) + -(y : Int) < 0) = false from decide_eq_false (by omega)]
  · simp only [Bool.not_true, Bool.false_eq_true, if_false, if_true]
    by_cases z : x = y
    · subst z
      rw [if_pos rfl, if_pos (by omega), show (-(x : Int) + (x : Int)).natAbs = 0 by omega, rr_zero, enc_zero]; rfl
    · rw [if_neg z, if_neg (by omega), show (-(x : Int) + (y : Int)).natAbs = x - y by omega, show decide (-(x : Int) + (y : Int) < 0) = true from decide_eq_true (by omega)]
theorem add_comm64 (u v : Nat) : FP.Core.add FP.Core.b64 u v = FP.Core.add FP.Core.b64 v u := by unfold FP.Core.add; rw [FP.Core.exactSum_comm]
theorem shl3 (c : Nat) : lN c <<< ((3 : Int32).toInt64 &&& 63) = lN (8 * c) := by
  have := wb_shl (k := 3) c (by decide)
  rw [show (3 : Int32) = nI 3 from rfl, this, Nat.mul_comm]
theorem e_minus {u v : Nat} (hk : nSc v ≤ nSc u) (hu : nE u ≠ 2047) : (nSc v : Int) - 1075 + ((nSc u - nSc v : Nat) : Int) - 3 = (nI (nSc u)).toInt - 1078 := by
  have := nSc_lt hu
  rw [nI_toInt (by omega)]; omega
/-- both parts of the same sign, the first not the smaller one -/
theorem plus_s {u v : Nat} (hu : u < 2 ^ 64) (fu : nE u ≠ 2047) (fv : nE v ≠ 2047) (hm : v % 2 ^ 63 ≤ u % 2 ^ 63) (hs : nS u = nS v) : fX1_packed (lN ((nS u).toNat * 2 ^ 63)) (nI (nSc u)) (lN (8 * nFr u) + lN (jam (8 * nFr v) (nSc u - nSc v))) = lN (FP.Core.add FP.Core.b64 u v) := by
  have hk := k_le hm
  have h1 := nFr_lt u
  have h2 := nFr_lt v
  have hE := nSc_lt fu
  have hj : jam (8 * nFr v) (nSc u - nSc v) < 2 ^ 57 := by
    refine jam_lt (k := 56) (Nat.lt_of_le_of_lt (Nat.div_le_self _ _) (by omega))
  rw [lN_add, add_same fu fv hk hs, sum_plus (k := nSc u - nSc v) h1 h2 (fun z => nFr_full (by have := nSc_pos v; omega)), e_minus hk fu]
  by_cases z : 8 * nFr u + jam (8 * nFr v) (nSc u - nSc v) = 0
  · rw [z, rr_zero, enc_zero]
    unfold fX1_packed
    rw [if_pos (by decide)]
  · exact pack_round (by omega) (by omega) (by rw [nI_toInt (by omega)]; omega)
theorem plus_d {u v : Nat} (hu : u < 2 ^ 64) (fu : nE u ≠ 2047) (fv : nE v ≠ 2047) (hm : v % 2 ^ 63 ≤ u % 2 ^ 63) (hs : ¬ nS u = nS v) : (if lg_cmp (lN (8 * nFr u)) (lN (jam (8 * nFr v) (nSc u - nSc v))) = 0 then (0 : Int64) else fX1_packed (lN ((nS u).toNat * 2 ^ 63)) (nI (nSc u)) (lN (8 * nFr u) - lN (jam (8 * nFr v) (nSc u - nSc v)))) = lN (FP.Core.add FP.Core.b64 u v) := by
  have hk := k_le hm
  have h1 := nFr_lt u
  have h2 := nFr_lt v
  have hE := nSc_lt fu
  have hc := c_le hm
  have hj : jam (8 * nFr v) (nSc u - nSc v) < 2 ^ 57 := by
    refine jam_lt (k := 56) (Nat.lt_of_le_of_lt (Nat.div_le_self _ _) (by omega))
  rw [add_diff fu fv hk hs hc]
  simp only [lc_eq (show 8 * nFr u < 2 ^ 64 by omega) (show jam (8 * nFr v) (nSc u - nSc v) < 2 ^ 64 by omega)]
  -- the exact sum is nothing just where the two are one
  have key : 8 * nFr u = jam (8 * nFr v) (nSc u - nSc v) ↔ nFr u * 2 ^ (nSc u - nSc v) = nFr v := by
    rcases Nat.lt_or_ge 3 (nSc u - nSc v) with q | q
    · have f := nFr_full (u := u) (by have := nSc_pos v; omega)
      have j := jam8_lt h2 (show 4 ≤ nSc u - nSc v by omega)
      have : 2 ^ 4 ≤ 2 ^ (nSc u - nSc v) := Nat.pow_le_pow_right (by decide) (by omega)
      have : nFr u * 2 ^ 4 ≤ nFr u * 2 ^ (nSc u - nSc v) := Nat.mul_le_mul_left _ this
      constructor <;> intro <;> omega
    · have j := jam8_small (c := nFr v) q
      constructor
      · intro h
        rw [← h, Nat.mul_assoc] at j; omega
      · intro h
        have : 8 * nFr u * 2 ^ (nSc u - nSc v) = jam (8 * nFr v) (nSc u - nSc v) * 2 ^ (nSc u - nSc v) := by rw [j, Nat.mul_assoc, h]
        exact Nat.eq_of_mul_eq_mul_right (Nat.two_pow_pos _) this
  have hle : jam (8 * nFr v) (nSc u - nSc v) ≤ 8 * nFr u := by
    rcases Nat.lt_or_ge 3 (nSc u - nSc v) with q | q
    · have f := nFr_full (u := u) (by have := nSc_pos v; omega)
      have j := jam8_lt h2 (show 4 ≤ nSc u - nSc v by omega)
      omega
    · have j := jam8_small (c := nFr v) q
      refine Nat.le_of_mul_le_mul_right ?_ (Nat.two_pow_pos (nSc u - nSc v))
      rw [j, Nat.mul_assoc]; omega
  by_cases z : 8 * nFr u = jam (8 * nFr v) (nSc u - nSc v)
  · rw [if_pos z, if_pos (key.mp z)]; rfl
  · rw [if_neg z, if_neg (fun h => z (key.mpr h)), lN_sub hle, sum_minus (k := nSc u - nSc v) h1 h2 (fun z => nFr_full (by have := nSc_pos v; omega)), e_minus hk fu]
    exact pack_round (by omega) (by omega) (by rw [nI_toInt (by omega)]; omega)
