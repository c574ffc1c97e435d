/-! WHAT IS PACKED IS WHAT IS ROUNDED -/
theorem b64_p : FP.Core.b64.p = 53 := rfl
theorem b64_qmin : FP.Core.b64.qmin = -1074 := by decide
theorem b64_qmax : FP.Core.b64.qmax = 971 := by decide
theorem b64_tails : FP.Core.b64.tails = 2 ^ 52 := by decide
theorem b64_exps : FP.Core.b64.exps = 2048 := by decide
theorem lead1 {m L : Nat} (h1 : 2 ^ L ≤ m) (h2 : m < 2 ^ (L + 1)) : FP.Core.leading m 1 = (L : Int) := by
  have hm : 0 < m := Nat.lt_of_lt_of_le (Nat.two_pow_pos L) h1
  have s := FP.Core.leading_spec hm (show 0 < 1 by decide)
  have b1 : ¬ FP.Core.Below m 1 (L : Int) := by rw [below_nat]; omega
  have b2 : FP.Core.Below m 1 ((L : Int) + 1) := by
    have := (below_nat m 1 (L + 1)).mpr (by omega)
    simpa using this
  have l1 := FP.Core.lt_of_below b1 s.2
  have l2 := FP.Core.lt_of_below s.1 b2
  omega
theorem near1 (W K : Nat) (hK : 0 < K) : FP.Core.nearest (W * K) (8 * K) = FP.Core.nearest W 8 := FP.Core.nearest_scale W 8 K hK
theorem near8_le {W : Nat} (h : W < 2 ^ 56) : FP.Core.nearest W 8 ≤ 2 ^ 53 := by rw [near8]; split <;> omega
theorem near8_ge {W : Nat} (h : 2 ^ 55 ≤ W) : 2 ^ 52 ≤ FP.Core.nearest W 8 := by rw [near8]; split <;> omega
/-- bits of a number without its sign -/
theorem pkM_round {m L : Nat} {S : Int} (h1 : 2 ^ L ≤ m) (h2 : m < 2 ^ (L + 1)) (s : Bool) : FP.Core.encode FP.Core.b64 (FP.Core.roundRatio FP.Core.b64 s m 1 (S - 1078)) = s.toNat * 2 ^ 63 + pkM S L m := by
  have hm : 0 < m := Nat.lt_of_lt_of_le (Nat.two_pow_pos L) h1
  have hq : FP.Core.quantum FP.Core.b64 m 1 (S - 1078) = S + max ((L : Int) - 55) (1 - S) - 1075 := by
    unfold FP.Core.quantum
    rw [lead1 h1 h2, b64_p, b64_qmin]
    omega
  unfold FP.Core.roundRatio
  rw [if_neg (by omega), hq]
  unfold FP.Core.roundAt pkM
  generalize hB : max ((L : Int) - 55) (1 - S) = B
  have hBL : (L : Int) - 55 ≤ B := by omega
  have hBS : 1 - S ≤ B := by omega
  -- the nearest whole number of units
  have hn : FP.Core.nearest (FP.Core.unitsNum m (S - 1078) (S + B - 1075)) (FP.Core.unitsDen 1 (S - 1078) (S + B - 1075)) = FP.Core.nearest (if B < 0 then m * 2 ^ (-B).toNat else jam m B.toNat) 8 := by
    unfold FP.Core.unitsNum FP.Core.unitsDen
    rw [show S - 1078 - (S + B - 1075) = -(B + 3) by omega, show S + B - 1075 - (S - 1078) = B + 3 by omega, Nat.one_mul]
    by_cases q : B < 0
    · rw [if_pos q]
      by_cases q3 : B + 3 ≤ 0
      · obtain ⟨t, ht⟩ : ∃ t : Nat, (-(B + 3)).toNat = t := ⟨_, rfl⟩
        rw [show (B + 3).toNat = 0 by omega, show (-B).toNat = t + 3 by omega, ht, Nat.pow_zero, Nat.pow_add, ← Nat.mul_assoc]
        have := FP.Core.nearest_scale (m * 2 ^ t) 1 8 (by decide)
        rw [Nat.one_mul] at this
        exact this.symm
      · obtain ⟨t, ht⟩ : ∃ t : Nat, (-B).toNat = t := ⟨_, rfl⟩
        rw [show (-(B + 3)).toNat = 0 by omega, show (B + 3).toNat = 3 - t by omega, ht, Nat.pow_zero, Nat.mul_one]
        have hs := FP.Core.nearest_scale m (2 ^ (3 - t)) (2 ^ t) (Nat.two_pow_pos t)
        rw [← Nat.pow_add, show 3 - t + t = 3 by omega] at hs
        exact hs.symm
    · rw [if_neg q]
      obtain ⟨t, ht⟩ : ∃ t : Nat, B.toNat = t := ⟨_, rfl⟩
      rw [show (-(B + 3)).toNat = 0 by omega, show (B + 3).toNat = t + 3 by omega, ht, Nat.pow_zero, Nat.mul_one, Nat.pow_add]
      exact near_nearest (D := 2 ^ t) (k := 2) (Nat.two_pow_pos t) (by decide) (jam_near m t)
  rw [hn]
  have hle : FP.Core.nearest (if B < 0 then m * 2 ^ (-B).toNat else jam m B.toNat) 8 ≤ 2 ^ 53 := by
    have hW : (if B < 0 then m * 2 ^ (-B).toNat else jam m B.toNat) < 2 ^ 56 := by
      by_cases q : B < 0
      · rw [if_pos q]
        have e : 2 ^ (L + 1) * 2 ^ (-B).toNat ≤ 2 ^ 56 := by rw [← Nat.pow_add]; exact Nat.pow_le_pow_right (by decide) (by omega)
        have : m * 2 ^ (-B).toNat < 2 ^ (L + 1) * 2 ^ (-B).toNat := (Nat.mul_lt_mul_right (Nat.two_pow_pos _)).mpr h2
        omega
      · rw [if_neg q]
        refine jam_lt (k := 55) ?_
        rw [Nat.div_lt_iff_lt_mul (Nat.two_pow_pos _), ← Nat.pow_add]
        exact Nat.lt_of_lt_of_le h2 (Nat.pow_le_pow_right (by decide) (by omega))
    exact near8_le hW
  have hge : 1 - S < B → 2 ^ 52 ≤ FP.Core.nearest (if B < 0 then m * 2 ^ (-B).toNat else jam m B.toNat) 8 := by
    intro hlt
    have hBe : B = (L : Int) - 55 := by omega
    have hW : 2 ^ 55 ≤ (if B < 0 then m * 2 ^ (-B).toNat else jam m B.toNat) := by
      by_cases q : B < 0
      · rw [if_pos q]
        have e : 2 ^ 55 = 2 ^ L * 2 ^ (-B).toNat := by rw [← Nat.pow_add]; congr 1; omega
        rw [e]; exact Nat.mul_le_mul_right _ h1
      · rw [if_neg q]
        have e : 2 ^ 55 ≤ m / 2 ^ B.toNat := by
          rw [Nat.le_div_iff_mul_le (Nat.two_pow_pos _), ← Nat.pow_add, show 55 + B.toNat = L by omega]; exact h1
        exact Nat.le_trans e Nat.left_le_or
    exact near8_ge hW
  generalize FP.Core.nearest (if B < 0 then m * 2 ^ (-B).toNat else jam m B.toNat) 8 = c at hle hge
  unfold FP.Core.settle FP.Core.bound
  rw [b64_p, b64_qmax, b64_tails]
  by_cases q1 : S + B ≤ 2046
  · rw [if_pos q1]
    by_cases q2 : c < 2 ^ 53
    · rw [if_pos q2, if_pos (by omega)]
      unfold FP.Core.encode FP.Core.assemble
      simp only [b64_exps, b64_tails, b64_qmin]
      by_cases q3 : c < 2 ^ 52
      · rw [if_pos q3]
        have : S + B = 1 := by
          rcases Int.lt_or_le (1 - S) B with z | z
          · have := hge z; omega
          · omega
        rw [show (S + B - 1).toNat = 0 by omega]
        omega
      · rw [if_neg q3, show (S + B - 1075 - -1074).toNat = (S + B - 1).toNat by omega]
        omega
    · rw [if_neg q2]
      have hc : c = 2 ^ 53 := by omega
      by_cases q4 : S + B - 1075 + 1 ≤ 971
      · rw [if_pos q4]
        unfold FP.Core.encode FP.Core.assemble
        simp only [b64_exps, b64_tails, b64_qmin]
        rw [if_neg (by omega), show (S + B - 1075 + 1 - -1074).toNat = (S + B - 1).toNat + 1 by omega]
        omega
      · rw [if_neg q4]
        unfold FP.Core.encode FP.Core.assemble
        simp only [b64_exps, b64_tails]
        rw [show (S + B - 1).toNat = 2045 by omega]
        omega
  · rw [if_neg q1]
    have : ∀ c' q', (971 : Int) < q' → (if q' ≤ 971 then FP.Core.Datum.fin s c' q' else .inf s) = .inf s := fun c' q' h => if_neg (by omega)
    rw [this c _ (by omega), this (2 ^ 52) _ (by omega), ite_self]
    unfold FP.Core.encode FP.Core.assemble
    simp only [b64_exps, b64_tails]
    omega
