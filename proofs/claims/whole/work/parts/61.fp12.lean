/-! ROOTS -/
def sqStep (p : Nat) (s : Nat × Nat) : Nat × Nat := if 4 * s.2 + p < 4 * s.1 + 1 then (2 * s.1, 4 * s.2 + p) else (2 * s.1 + 1, 4 * s.2 + p - (4 * s.1 + 1))
def SqI (X : Nat) (s : Nat × Nat) : Prop := s.1 * s.1 + s.2 = X ∧ s.2 ≤ 2 * s.1
theorem sq_step {X p : Nat} {s : Nat × Nat} (hp : p < 4) (h : SqI X s) : SqI (4 * X + p) (sqStep p s) := by
  obtain ⟨f, r⟩ := s
  obtain ⟨h1, h2⟩ := h
  simp only at h1 h2
  unfold sqStep SqI
  simp only
  have e1 : 2 * f * (2 * f) = 4 * (f * f) := by rw [Nat.mul_mul_mul_comm]
  have e2 : (2 * f + 1) * (2 * f + 1) = 4 * (f * f) + 4 * f + 1 := by rw [Nat.add_mul, Nat.mul_add, e1]; omega
  by_cases q : 4 * r + p < 4 * f + 1
  · rw [if_pos q]; simp only; rw [e1]; omega
  · rw [if_neg q]; simp only; rw [e2]; omega
theorem shl2 (c : Nat) : lN c <<< ((2 : Int32).toInt64 &&& 63) = lN (c * 2 ^ 2) := wb_shl (k := 2) c (by decide)
theorem shl1 (c : Nat) : lN c <<< ((1 : Int32).toInt64 &&& 63) = lN (c * 2 ^ 1) := wb_shl (k := 1) c (by decide)
/-- the next pair of digits -/
def sqP (m : Nat) (sh : Int) : Nat := if sh < 0 then 0 else m / 2 ^ sh.toNat % 4
theorem sqP_lt (m : Nat) (sh : Int) : sqP m sh < 4 := by unfold sqP; split <;> omega
theorem r_pair {m : Nat} {sh : Int32} (hm : m < 2 ^ 54) (hs : -100 ≤ sh.toInt ∧ sh.toInt ≤ 52) : (if sh < 0 then (0 : Int64) else ((lN m).toUInt64 >>> (sh.toInt64.toUInt64 &&& Int64.toUInt64 63)).toInt64 &&& 3) = lN (sqP m sh.toInt) := by
  unfold sqP
  by_cases q : sh.toInt < 0
  · rw [if_pos (show sh < 0 by rw [Int32.lt_iff_toInt_lt]; exact q), if_pos q]; rfl
  · rw [if_neg (show ¬ sh < 0 by rw [Int32.lt_iff_toInt_lt]; exact q), if_neg q]
    have e : sh = nI sh.toInt.toNat := i_nI (by omega) (by omega)
    have hd : m / 2 ^ sh.toInt.toNat ≤ m := Nat.div_le_self _ _
    rw [e, wb_shr (by omega) (by omega), ← e]
    exact wb_mask (k := 2) (by omega) (by decide)
theorem r_wrStep {m f r : Nat} {sh : Int32} (hm : m < 2 ^ 54) (hs : -100 ≤ sh.toInt ∧ sh.toInt ≤ 52) (hf : f < 2 ^ 57) (hr : r ≤ 2 * f) : wrStep (lN m) sh (lN f, lN r) = (lN (sqStep (sqP m sh.toInt) (f, r)).1, lN (sqStep (sqP m sh.toInt) (f, r)).2) := by
  unfold wrStep
  simp only
  rw [r_pair hm hs, shl2, shl2, shl1]
  have hp := sqP_lt m sh.toInt
  generalize sqP m sh.toInt = p at hp
  rw [or_lo (k := 2) (show p < 2 ^ 2 from hp) (by omega), show (1 : Int64) = lN 1 from rfl, or_lo (k := 2) (show 1 < 2 ^ 2 by decide) (by omega), or_lo (k := 1) (show 1 < 2 ^ 1 by decide) (by omega)]
  simp only [lc_lt (show r * 2 ^ 2 + p < 2 ^ 63 by omega) (show f * 2 ^ 2 + 1 < 2 ^ 63 by omega)]
  unfold sqStep
  simp only
  by_cases q : 4 * r + p < 4 * f + 1
  · rw [if_pos (show r * 2 ^ 2 + p < f * 2 ^ 2 + 1 by omega), if_pos q]
    simp only
    rw [show f * 2 ^ 1 = 2 * f by omega, show r * 2 ^ 2 + p = 4 * r + p by omega]
  · rw [if_neg (show ¬ r * 2 ^ 2 + p < f * 2 ^ 2 + 1 by omega), if_neg q]
    simp only
    rw [lN_sub (by omega), show f * 2 ^ 1 + 1 = 2 * f + 1 by omega, show r * 2 ^ 2 + p - (f * 2 ^ 2 + 1) = 4 * r + p - (4 * f + 1) by omega]
/-- what the digits read so far spell, k pairs before the end -/
def sqX (m k : Nat) : Nat := if 29 ≤ k then m / 2 ^ (2 * k - 58) else m * 2 ^ (58 - 2 * k)
theorem sqX_step (m k : Nat) : sqX m k = 4 * sqX m (k + 1) + sqP m (2 * ((k + 1 : Nat) : Int) - 60) := by
  unfold sqX sqP
  by_cases q : 29 ≤ k
  · rw [if_pos q, if_pos (show 29 ≤ k + 1 by omega), if_neg (by omega), show (2 * ((k + 1 : Nat) : Int) - 60).toNat = 2 * k - 58 by omega, show 2 * (k + 1) - 58 = 2 * k - 58 + 2 by omega, Nat.pow_add, ← Nat.div_div_eq_div_mul]
    omega
  · rw [if_neg q, if_pos (show (2 * ((k + 1 : Nat) : Int) - 60) < 0 by omega)]
    by_cases q2 : k = 28
    · subst q2
      rw [if_pos (by decide), show 2 * (28 + 1) - 58 = 0 by decide, Nat.pow_zero, Nat.div_one]
      omega
    · rw [if_neg (show ¬ 29 ≤ k + 1 by omega), show 58 - 2 * k = 58 - 2 * (k + 1) + 2 by omega, Nat.pow_add, ← Nat.mul_assoc]
      omega
theorem sq_small {X f r B : Nat} (h : SqI X (f, r)) (hX : X < B * B) : f < B := by
  obtain ⟨h1, -⟩ := h
  simp only at h1
  rcases Nat.lt_or_ge f B with q | q
  · exact q
  · have := Nat.mul_le_mul q q
    omega
theorem r_wrLoop {m : Nat} (hm : m < 2 ^ 54) : ∀ (k : Nat) (sh : Int32) (f r : Nat), k ≤ 56 → sh.toInt = 2 * (k : Int) - 60 → SqI (sqX m k) (f, r) → ∃ f' r', wrLoop (lN m) k sh (lN f, lN r) = (lN f', lN r') ∧ SqI (m * 2 ^ 58) (f', r')
  | 0, sh, f, r, _, _, h => ⟨f, r, rfl, by rw [show sqX m 0 = m * 2 ^ 58 from rfl] at h; exact h⟩
  | k + 1, sh, f, r, hk, hs, h => by
    have hX : sqX m (k + 1) < 2 ^ 56 * 2 ^ 56 := by
      unfold sqX
      split
      · have := Nat.div_le_self m (2 ^ (2 * (k + 1) - 58)); omega
      · have : 2 ^ (58 - 2 * (k + 1)) ≤ 2 ^ 58 := Nat.pow_le_pow_right (by decide) (by omega)
        have h2 : m * 2 ^ (58 - 2 * (k + 1)) ≤ m * 2 ^ 58 := Nat.mul_le_mul_left _ this
        omega
    have hf := sq_small h hX
    rw [wrLoop, r_wrStep hm (by omega) (by omega) h.2]
    have hst := sq_step (sqP_lt m sh.toInt) h
    have e : 4 * sqX m (k + 1) + sqP m sh.toInt = sqX m k := by rw [sqX_step m k, hs]
    rw [e] at hst
    exact r_wrLoop hm k (sh + (-2)) _ _ (by omega) (by rw [i32_m2 (by omega), hs]; omega) hst
theorem r_wholeRoot {m : Nat} (hm : m < 2 ^ 54) : ∃ f r, fX1_wholeRoot (lN m) = lN (if r = 0 then f else f ||| 1) ∧ SqI (m * 2 ^ 58) (f, r) ∧ f < 2 ^ 56 := by
  unfold fX1_wholeRoot
  have h0 : SqI (sqX m 56) (0, 0) := by
    rw [show sqX m 56 = m / 2 ^ 54 from rfl, Nat.div_eq_of_lt hm]; exact ⟨rfl, Nat.le_refl _⟩
  obtain ⟨f, r, e1, e2⟩ := r_wrLoop hm 56 52 0 0 (by decide) (by decide) h0
  have hf := sq_small (B := 2 ^ 56) e2 (by omega)
  have hr := e2.2
  simp only at hr
  refine ⟨f, r, ?_, e2, hf⟩
  rw [show ((0 : Int64), (0 : Int64)) = (lN 0, lN 0) from rfl, e1]
  unfold qFin
  show (if lg_cmp (lN r) (lN 0) = 0 then lN f else lN f ||| lN 1) = _
  simp only [lc_eq (show r < 2 ^ 64 by omega) (show 0 < 2 ^ 64 by decide)]
  by_cases z : r = 0
  · rw [if_pos z, if_pos z]
  · rw [if_neg z, if_neg z, wb_or (by omega) (by decide)]
/-- what both roots round to -/
theorem root_near {m f r : Nat} (h : SqI (m * 2 ^ 58) (f, r)) : FP.Core.nearest (if r = 0 then f else f ||| 1) 8 = (f / 4 + 1) / 2 := by
  rw [near8]
  by_cases z : r = 0
  · rw [if_pos z]
    have hne : f % 8 ≠ 4 := by
      intro hf
      obtain ⟨h1, -⟩ := h
      simp only at h1
      rw [z, Nat.add_zero] at h1
      obtain ⟨g, hg⟩ : ∃ g, f = 8 * g + 4 := ⟨f / 8, by omega⟩
      rw [hg] at h1
      have e : (8 * g + 4) * (8 * g + 4) = 64 * (g * g + g) + 16 := by
        rw [Nat.add_mul, Nat.mul_add, show 8 * g * (8 * g) = 64 * (g * g) by rw [Nat.mul_mul_mul_comm]]; omega
      omega
    split <;> omega
  · rw [if_neg z, or_one]
    split <;> split <;> omega
