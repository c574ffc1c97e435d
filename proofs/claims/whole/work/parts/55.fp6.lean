/-! SUMS -/
theorem pack_round {W : Nat} {sc : Int32} {s : Bool} (h0 : 0 < W) (h : W < 2 ^ 62) (hs : -5000 ≤ sc.toInt ∧ sc.toInt ≤ 5000) : fX1_packed (lN (s.toNat * 2 ^ 63)) sc (lN W) = lN (FP.Core.encode FP.Core.b64 (FP.Core.roundRatio FP.Core.b64 s W 1 (sc.toInt - 1078))) := by
  have a1 := Nat.log2_self_le (show W ≠ 0 by omega)
  have a2 := @Nat.lt_log2_self W
  have hL : W.log2 ≤ 61 := by
    have : W.log2 < 62 := (Nat.pow_lt_pow_iff_right (by decide : 1 < 2)).mp (Nat.lt_of_le_of_lt a1 h)
    omega
  rw [r_packed a1 a2 hL (by cases s <;> decide) hs, pkM_round a1 a2]
theorem two_k {k : Nat} (h : 3 ≤ k) : 2 ^ k = 8 * 2 ^ (k - 3) := by
  have : 2 ^ k = 2 ^ 3 * 2 ^ (k - 3) := by rw [← Nat.pow_add]; congr 1; omega
  rw [this]
/-- eight times a number over two to the power of k -/
theorem round8 {f : FP.Core.Fmt} {s : Bool} {X k : Nat} {e : Int} : FP.Core.roundRatio f s X 1 e = FP.Core.roundRatio f s (8 * X) (2 ^ k) (e + k - 3) := by
  refine FP.Core.roundRatio_congr (by decide) (Nat.two_pow_pos k) ?_
  rw [Nat.mul_one]
  by_cases h : 3 ≤ k
  · rw [show (e - (e + k - 3)).toNat = 0 by omega, show (e + k - 3 - e).toNat = k - 3 by omega, Nat.pow_zero, Nat.mul_one, two_k h, ← Nat.mul_assoc, Nat.mul_comm X 8]
  · rw [show (e - (e + k - 3)).toNat = 3 - k by omega, show (e + k - 3 - e).toNat = 0 by omega, Nat.pow_zero, Nat.mul_one, Nat.mul_assoc, ← Nat.pow_add, show k + (3 - k) = 3 by omega, Nat.mul_comm]
theorem round_ex {f : FP.Core.Fmt} {s : Bool} {W D : Nat} {e : Int} (hD : 0 < D) : FP.Core.roundRatio f s (W * D) D e = FP.Core.roundRatio f s W 1 e := by
  refine FP.Core.roundRatio_congr hD (by decide) ?_
  rw [Nat.mul_one]
theorem near_add {n num D m : Nat} (hm : m % 2 = 0) (h : Near n num D) : Near (m + n) (m * D + num) D := by
  rcases h with h | ⟨ho, h1, h2⟩
  · left; rw [h, Nat.add_mul]
  · right
    refine ⟨by omega, ?_, ?_⟩
    · rw [show m + n - 1 = m + (n - 1) by omega, Nat.add_mul]; omega
    · rw [show m + n + 1 = m + (n + 1) by omega, Nat.add_mul]; omega
theorem near_sub {n num D m : Nat} (hm : m % 2 = 0) (hn : n < m) (h : Near n num D) : Near (m - n) (m * D - num) D := by
  rcases h with h | ⟨ho, h1, h2⟩
  · left; rw [h, Nat.sub_mul]
  · right
    have hle : (n + 1) * D ≤ m * D := Nat.mul_le_mul_right D hn
    refine ⟨by omega, ?_, ?_⟩
    · rw [show m - n - 1 = m - (n + 1) by omega, Nat.sub_mul]; omega
    · rw [show m - n + 1 = m - (n - 1) by omega, Nat.sub_mul]; omega
theorem q_big {W : Nat} {e : Int} (h : 2 ^ 54 ≤ W) : e + 2 ≤ FP.Core.quantum FP.Core.b64 W 1 e := by
  have a1 := Nat.log2_self_le (show W ≠ 0 by omega)
  have a2 := @Nat.lt_log2_self W
  have hL : 54 ≤ W.log2 := by
    have : 54 < W.log2 + 1 := (Nat.pow_lt_pow_iff_right (by decide : 1 < 2)).mp (Nat.lt_of_le_of_lt h a2)
    omega
  unfold FP.Core.quantum
  rw [lead1 a1 a2, b64_p]
  omega
theorem jam8_small {c k : Nat} (hk : k ≤ 3) : jam (8 * c) k * 2 ^ k = 8 * c := by
  have hd : 8 * c % 2 ^ k = 0 := by
    have : (8 : Nat) = 2 ^ k * 2 ^ (3 - k) := by rw [← Nat.pow_add, show k + (3 - k) = 3 by omega]
    rw [this, Nat.mul_assoc]; exact Nat.mul_mod_right _ _
  unfold jam
  rw [if_pos hd, Nat.or_zero]
  exact Nat.div_mul_cancel (Nat.dvd_of_mod_eq_zero hd)
theorem jam8_lt {c k : Nat} (hc : c < 2 ^ 53) (hk : 4 ≤ k) : jam (8 * c) k < 2 ^ 52 := by
  refine jam_lt (k := 51) ?_
  rw [Nat.div_lt_iff_lt_mul (Nat.two_pow_pos _)]
  have : 2 ^ 4 ≤ 2 ^ k := Nat.pow_le_pow_right (by decide) hk
  have h2 : 2 ^ (51 + 1) * 2 ^ 4 ≤ 2 ^ (51 + 1) * 2 ^ k := Nat.mul_le_mul_left _ this
  omega
theorem sum_plus {s : Bool} {c1 c2 k : Nat} {e : Int} (h1 : c1 < 2 ^ 53) (h2 : c2 < 2 ^ 53) (hk : 4 ≤ k → 2 ^ 52 ≤ c1) : FP.Core.roundRatio FP.Core.b64 s (c1 * 2 ^ k + c2) 1 e = FP.Core.roundRatio FP.Core.b64 s (8 * c1 + jam (8 * c2) k) 1 (e + k - 3) := by
  rw [round8 (k := k)]
  have e8 : 8 * (c1 * 2 ^ k + c2) = 8 * c1 * 2 ^ k + 8 * c2 := by rw [Nat.mul_add, Nat.mul_assoc]
  rw [e8]
  by_cases q : k ≤ 3
  · rw [show 8 * c1 * 2 ^ k + 8 * c2 = (8 * c1 + jam (8 * c2) k) * 2 ^ k by rw [Nat.add_mul, jam8_small q]]
    exact round_ex (Nat.two_pow_pos k)
  · have := hk (by omega)
    exact near_round (Nat.two_pow_pos k) (by omega) (near_add (by omega) (jam_near _ _)) (q_big (by omega))
theorem sum_minus {s : Bool} {c1 c2 k : Nat} {e : Int} (h1 : c1 < 2 ^ 53) (h2 : c2 < 2 ^ 53) (hk : 4 ≤ k → 2 ^ 52 ≤ c1) : FP.Core.roundRatio FP.Core.b64 s (c1 * 2 ^ k - c2) 1 e = FP.Core.roundRatio FP.Core.b64 s (8 * c1 - jam (8 * c2) k) 1 (e + k - 3) := by
  rw [round8 (k := k)]
  have e8 : 8 * (c1 * 2 ^ k - c2) = 8 * c1 * 2 ^ k - 8 * c2 := by rw [Nat.mul_sub, Nat.mul_assoc]
  rw [e8]
  by_cases q : k ≤ 3
  · rw [show 8 * c1 * 2 ^ k - 8 * c2 = (8 * c1 - jam (8 * c2) k) * 2 ^ k by rw [Nat.sub_mul, jam8_small q]]
    exact round_ex (Nat.two_pow_pos k)
  · have := hk (by omega)
    have := jam8_lt h2 (show 4 ≤ k by omega)
    exact near_round (Nat.two_pow_pos k) (by omega) (near_sub (by omega) (by omega) (jam_near _ _)) (q_big (by omega))
/-- the sign -/
def nS (u : Nat) : Bool := u / 2 ^ 63 % 2 == 1
theorem nS_nat {u : Nat} (h : u < 2 ^ 64) : (nS u).toNat = u / 2 ^ 63 := by
  unfold nS
  rcases (show u / 2 ^ 63 = 0 ∨ u / 2 ^ 63 = 1 by omega) with q | q <;> rw [q] <;> rfl
theorem dec_fin {u : Nat} (h : nE u ≠ 2047) : FP.Core.decode FP.Core.b64 u = .fin (nS u) (nFr u) ((nSc u : Int) - 1075) := by
  unfold FP.Core.decode FP.Core.fieldE FP.Core.fieldT FP.Core.fieldS
  simp only [b64_exps, b64_tails, b64_qmin]
  unfold nE at h
  rw [if_neg (by omega)]
  have hS : (u / 2 ^ 52 / 2048 % 2 == 1) = nS u := by unfold nS; congr 2; omega
  rw [hS]
  unfold nFr nSc nE
  by_cases q : u / 2 ^ 52 % 2048 = 0
  · rw [if_pos q, if_pos q, if_pos q]; rfl
  · rw [if_neg q, if_neg q, if_neg q]
    congr 1; omega
theorem mag_eq (u : Nat) : u % 2 ^ 63 = nFr u + (nSc u - 1) * 2 ^ 52 := by
  unfold nFr nSc nE
  by_cases q : u / 2 ^ 52 % 2048 = 0
  · rw [if_pos q, if_pos q]; omega
  · rw [if_neg q, if_neg q]; omega
theorem nFr_lt (u : Nat) : nFr u < 2 ^ 53 := by unfold nFr; split <;> omega
theorem nSc_pos (u : Nat) : 1 ≤ nSc u := by unfold nSc; split <;> omega
theorem nSc_lt {u : Nat} (h : nE u ≠ 2047) : nSc u ≤ 2046 := by have := nE_lt u; unfold nSc; split <;> omega
theorem nFr_full {u : Nat} (h : 2 ≤ nSc u) : 2 ^ 52 ≤ nFr u := by unfold nSc at h; unfold nFr; split at h <;> split <;> omega
theorem fin_iff {u : Nat} : u % 2 ^ 63 < 9218868437227405312 ↔ nE u ≠ 2047 := by unfold nE; omega
