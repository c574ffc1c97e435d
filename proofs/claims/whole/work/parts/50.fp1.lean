/-! ROUNDING WITH A LAST BIT THAT TELLS WHETHER ANYTHING LAY BELOW -/
/-- w stands for num / D: it is it, or w is odd and num / D lies strictly within one of it -/
def Near (w num D : Nat) : Prop := num = w * D ∨ (w % 2 = 1 ∧ (w - 1) * D < num ∧ num < (w + 1) * D)
theorem near_nearest {num D w k : Nat} (hD : 0 < D) (hk : 0 < k) (h : Near w num D) : FP.Core.nearest num (D * (4 * k)) = FP.Core.nearest w (4 * k) := by
  rcases h with h | ⟨hodd, h1, h2⟩
  · subst h
    rw [Nat.mul_comm D (4 * k)]
    exact FP.Core.nearest_scale w (4 * k) D hD
  · obtain ⟨q, r, hw, hr⟩ : ∃ q r, w = 4 * k * q + r ∧ r < 4 * k := ⟨w / (4 * k), w % (4 * k), (Nat.div_add_mod _ _).symm, Nat.mod_lt _ (by omega)⟩
    have e4 : 4 * k * q = 2 * (2 * k * q) := by rw [← Nat.mul_assoc, ← Nat.mul_assoc]
    have hro : r % 2 = 1 := by omega
    have hw1 : w - 1 = 4 * k * q + (r - 1) := by omega
    have hw2 : w + 1 = 4 * k * q + (r + 1) := by omega
    rw [hw1, Nat.add_mul] at h1
    rw [hw2, Nat.add_mul] at h2
    have eB : D * (4 * k) = 4 * k * D := Nat.mul_comm _ _
    have eQ : 4 * k * q * D = 4 * k * D * q := by rw [Nat.mul_assoc, Nat.mul_comm q D, ← Nat.mul_assoc]
    rw [eQ] at h1 h2
    have hr1 : (r + 1) * D ≤ 4 * k * D := Nat.mul_le_mul_right D (by omega)
    have hB : 0 < 4 * k * D := Nat.mul_pos (by omega) hD
    have hdiv : num / (4 * k * D) = q := by
      apply Nat.div_eq_of_lt_le
      · rw [Nat.mul_comm q]; omega
      · rw [Nat.succ_mul, Nat.mul_comm q]; omega
    have hmod : num % (4 * k * D) = num - 4 * k * D * q := by
      have := Nat.div_add_mod num (4 * k * D)
      rw [hdiv] at this
      omega
    have hdw : w / (4 * k) = q := by
      rw [hw, Nat.mul_add_div (by omega), Nat.div_eq_of_lt hr]; rfl
    have hmw : w % (4 * k) = r := by rw [hw, Nat.mul_add_mod, Nat.mod_eq_of_lt hr]
    have e2 : 4 * k * D = 2 * (2 * k * D) := by rw [← Nat.mul_assoc, ← Nat.mul_assoc]
    unfold FP.Core.nearest
    rw [eB, hdiv, hmod, hdw, hmw]
    rcases Nat.lt_or_ge r (2 * k) with hlt | hge
    · have : (r + 1) * D ≤ 2 * k * D := Nat.mul_le_mul_right D (by omega)
      rw [if_pos (show 2 * r < 4 * k by omega), if_pos (show 2 * (num - 4 * k * D * q) < 4 * k * D by omega)]
    · have hne : r ≠ 2 * k := by omega
      have : 2 * k * D ≤ (r - 1) * D := Nat.mul_le_mul_right D (by omega)
      rw [if_neg (show ¬ 2 * r < 4 * k by omega), if_pos (show 4 * k < 2 * r by omega), if_neg (show ¬ 2 * (num - 4 * k * D * q) < 4 * k * D by omega), if_pos (show 4 * k * D < 2 * (num - 4 * k * D * q) by omega)]
theorem below_nat (A B j : Nat) : FP.Core.Below A B (j : Int) ↔ A < B * 2 ^ j := by
  have := FP.Core.below_iff A B j 0
  simpa using this
theorem near_below {num D w : Nat} (hD : 0 < D) (h : Near w num D) (j : Nat) (hj : 1 ≤ j) : FP.Core.Below num D (j : Int) ↔ FP.Core.Below w 1 (j : Int) := by
  rw [below_nat, below_nat, Nat.one_mul, Nat.mul_comm D]
  obtain ⟨i, rfl⟩ : ∃ i, j = i + 1 := ⟨j - 1, by omega⟩
  have hp : 2 ^ (i + 1) = 2 * 2 ^ i := by rw [Nat.pow_succ, Nat.mul_comm]
  rcases h with h | ⟨hodd, h1, h2⟩
  · subst h
    exact Nat.mul_lt_mul_right hD
  · constructor
    · intro h
      rcases Nat.lt_or_ge w (2 ^ (i + 1)) with q | q
      · exact q
      · have : 2 ^ (i + 1) * D ≤ (w - 1) * D := Nat.mul_le_mul_right D (by omega)
        omega
    · intro h
      have : (w + 1) * D ≤ 2 ^ (i + 1) * D := Nat.mul_le_mul_right D (by omega)
      omega
theorem near_pos {num D w : Nat} (hD : 0 < D) (hw : 1 ≤ w) (h : Near w num D) : 0 < num := by
  rcases h with h | ⟨_, h1, _⟩
  · rw [h]; exact Nat.mul_pos (by omega) hD
  · omega
theorem near_leading {num D w : Nat} (hD : 0 < D) (hw : 2 ≤ w) (h : Near w num D) : FP.Core.leading num D = FP.Core.leading w 1 := by
  have hn := near_pos hD (by omega) h
  have s1 := FP.Core.leading_spec hn hD
  have s2 := FP.Core.leading_spec (A := w) (B := 1) (by omega) (by omega)
  have hL : (1 : Int) < FP.Core.leading w 1 + 1 := by
    refine FP.Core.lt_of_below (A := w) (B := 1) ?_ s2.2
    intro hb
    have := (below_nat w 1 1).mp hb
    omega
  obtain ⟨L, eL⟩ : ∃ L : Nat, FP.Core.leading w 1 = (L : Int) := ⟨(FP.Core.leading w 1).toNat, by omega⟩
  rw [eL] at s2 hL ⊢
  have b1 : ¬ FP.Core.Below num D (L : Int) := fun hb => s2.1 ((near_below hD h L (by omega)).mp hb)
  have b2 : FP.Core.Below num D ((L : Int) + 1) := by
    have := (near_below hD h (L + 1) (by omega)).mpr (by simpa using s2.2)
    simpa using this
  have l1 := FP.Core.lt_of_below b1 s1.2
  have l2 := FP.Core.lt_of_below s1.1 b2
  omega
/-- ROUNDING BY w IS ROUNDING, where two bits at least are cut off -/
theorem near_round {f : FP.Core.Fmt} {s : Bool} {num D w : Nat} {e : Int} (hD : 0 < D) (hw : 2 ≤ w) (h : Near w num D) (hq : e + 2 ≤ FP.Core.quantum f w 1 e) : FP.Core.roundRatio f s num D e = FP.Core.roundRatio f s w 1 e := by
  have hn := near_pos hD (by omega) h
  have hl := near_leading hD hw h
  have hqq : FP.Core.quantum f num D e = FP.Core.quantum f w 1 e := by unfold FP.Core.quantum; rw [hl]
  unfold FP.Core.roundRatio
  rw [if_neg (by omega), if_neg (by omega), hqq]
  generalize FP.Core.quantum f w 1 e = q at hq
  unfold FP.Core.roundAt
  congr 1
  obtain ⟨t, ht⟩ : ∃ t : Nat, (q - e).toNat = 2 + t := ⟨(q - e).toNat - 2, by omega⟩
  have h0 : (e - q).toNat = 0 := by omega
  unfold FP.Core.unitsNum FP.Core.unitsDen
  rw [h0, ht, Nat.pow_zero, Nat.mul_one, Nat.mul_one, Nat.one_mul, Nat.pow_add]
  exact near_nearest hD (Nat.two_pow_pos t) h
