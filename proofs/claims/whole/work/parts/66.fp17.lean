/-! whole numbers: the machine's conversions, against the bits -/
theorem l2d_of {x : Int64} {w : Nat} (hw : w < 2 ^ 64) (h0 : x.toInt ≠ 0) (h : FP.Core.Whole x.toInt (FP.Core.decode FP.Core.b64 w)) : FP.l2d x = dN w := by
  have hn : FP.Core.val64 (dN w) ≠ .nan := by
    unfold FP.Core.val64; rw [dN_nat hw]; intro e; rw [e] at h; exact h
  refine (FP.Core.val64_inj hn ?_).symm
  rw [FP.Core.val64_l2d]
  have hf := FP.Core.val64_fits (dN w)
  unfold FP.Core.val64 at hf ⊢
  rw [dN_nat hw] at hf ⊢
  generalize FP.Core.decode FP.Core.b64 w = d at *
  have ho := FP.Core.whole_ofInt x.toInt
  cases d with
  | nan => exact h.elim
  | inf => exact h.elim
  | fin s c q =>
    rw [← FP.Core.round_of_fits FP.Core.good_b64 hf, FP.Core.round_whole h, show FP.Core.ofInt x.toInt = .fin (decide (x.toInt < 0)) x.toInt.natAbs 0 from rfl, FP.Core.round_whole (i := x.toInt) ho, FP.Core.whole_sign h h0]
theorem i2d_of {x : Int32} {w : Nat} (hw : w < 2 ^ 64) (h0 : x.toInt ≠ 0) (h : FP.Core.Whole x.toInt (FP.Core.decode FP.Core.b64 w)) : FP.i2d x = dN w := by
  have hn : FP.Core.val64 (dN w) ≠ .nan := by
    unfold FP.Core.val64; rw [dN_nat hw]; intro e; rw [e] at h; exact h
  refine (FP.Core.val64_inj hn ?_).symm
  rw [FP.Core.val64_i2d]
  have hf := FP.Core.val64_fits (dN w)
  unfold FP.Core.val64 at hf ⊢
  rw [dN_nat hw] at hf ⊢
  generalize FP.Core.decode FP.Core.b64 w = d at *
  have ho := FP.Core.whole_ofInt x.toInt
  cases d with
  | nan => exact h.elim
  | inf => exact h.elim
  | fin s c q =>
    rw [← FP.Core.round_of_fits FP.Core.good_b64 hf, FP.Core.round_whole h, show FP.Core.ofInt x.toInt = .fin (decide (x.toInt < 0)) x.toInt.natAbs 0 from rfl, FP.Core.round_whole (i := x.toInt) ho, FP.Core.whole_sign h h0]
/-- what a finite number is, cut -/
def tr (u : Nat) : Nat := nFr u * 2 ^ (nSc u - 1075) / 2 ^ (1075 - nSc u)
theorem trunc_N (u : Nat) : FP.Core.truncate (nS u) (nFr u) ((nSc u : Int) - 1075) = FP.Core.signed (nS u) (tr u) := by
  unfold FP.Core.truncate tr
  rw [show ((nSc u : Int) - 1075).toNat = nSc u - 1075 by omega, show (-((nSc u : Int) - 1075)).toNat = 1075 - nSc u by omega]
theorem tr_lo {u s0 : Nat} (h : nSc u ≤ s0) (h2 : s0 ≤ 1075) (h3 : 1022 ≤ s0) : tr u < 2 ^ (s0 - 1022) := by
  unfold tr
  rw [show nSc u - 1075 = 0 by omega, Nat.pow_zero, Nat.mul_one]
  have h4 := nFr_lt u
  refine (Nat.div_lt_iff_lt_mul (Nat.two_pow_pos _)).mpr ?_
  refine Nat.lt_of_lt_of_le h4 ?_
  rw [← Nat.pow_add]
  exact Nat.pow_le_pow_right (by decide) (by omega)
theorem tr_hi {u s0 : Nat} (h : s0 ≤ nSc u) (h2 : s0 ≤ 1075) (h3 : 1023 ≤ s0) : 2 ^ (s0 - 1023) ≤ tr u := by
  unfold tr
  have h4 := nFr_full (u := u) (by omega)
  refine (Nat.le_div_iff_mul_le (Nat.two_pow_pos _)).mpr ?_
  rw [← Nat.pow_add]
  refine Nat.le_trans ?_ (Nat.mul_le_mul_right _ h4)
  rw [← Nat.pow_add]
  exact Nat.pow_le_pow_right (by decide) (by omega)
theorem cutk {u k : Nat} (hk : k ≤ 52) : u / 2 ^ k * 2 ^ k = u / 2 ^ 52 * 2 ^ 52 + (u % 2 ^ 52) / 2 ^ k * 2 ^ k := by
  have e : 2 ^ 52 = 2 ^ k * 2 ^ (52 - k) := by rw [← Nat.pow_add]; congr 1; omega
  have p := Nat.two_pow_pos k
  have hu : u = 2 ^ k * (2 ^ (52 - k) * (u / 2 ^ 52)) + u % 2 ^ 52 := by
    rw [← Nat.mul_assoc, ← e]; exact (Nat.div_add_mod u (2 ^ 52)).symm
  have h1 : u / 2 ^ k = 2 ^ (52 - k) * (u / 2 ^ 52) + (u % 2 ^ 52) / 2 ^ k := by
    conv => lhs; rw [hu]
    rw [Nat.mul_add_div p]
  rw [h1, Nat.add_mul]
  congr 1
  rw [Nat.mul_comm (2 ^ (52 - k)), Nat.mul_assoc, Nat.mul_comm (2 ^ (52 - k)), ← e]
/-- the fraction cut behind the point -/
theorem fr_cut {u : Nat} (h1 : 1023 ≤ nSc u) (h2 : nSc u ≤ 1074) : tr u = 2 ^ (52 - (1075 - nSc u)) + (u % 2 ^ 52) / 2 ^ (1075 - nSc u) ∧ tr u * 2 ^ (1075 - nSc u) = 2 ^ 52 + (u % 2 ^ 52) / 2 ^ (1075 - nSc u) * 2 ^ (1075 - nSc u) := by
  have hk : 1075 - nSc u ≤ 52 := by omega
  have hf : nFr u = 2 ^ 52 + u % 2 ^ 52 := by
    unfold nFr; rw [if_neg]; intro e; unfold nSc at h1; rw [if_pos e] at h1; omega
  generalize hkk : 1075 - nSc u = k at *
  have e : 2 ^ 52 = 2 ^ k * 2 ^ (52 - k) := by rw [← Nat.pow_add]; congr 1; omega
  have p := Nat.two_pow_pos k
  have h3 : tr u = 2 ^ (52 - k) + (u % 2 ^ 52) / 2 ^ k := by
    unfold tr; rw [hkk, show nSc u - 1075 = 0 by omega, Nat.pow_zero, Nat.mul_one, hf]
    conv => lhs; rw [show 2 ^ 52 + u % 2 ^ 52 = 2 ^ k * 2 ^ (52 - k) + u % 2 ^ 52 by rw [← e]]
    rw [Nat.mul_add_div p]
  refine ⟨h3, ?_⟩
  rw [h3, Nat.add_mul, Nat.mul_comm (2 ^ (52 - k)), ← e]
theorem whole_fin {s : Bool} {c t k : Nat} {q : Int} (hq : q = -(k : Int)) (h : c = t * 2 ^ k) : FP.Core.Whole (FP.Core.signed s t) (.fin s c q) := by
  show FP.Core.signed s (c * 2 ^ q.toNat) = FP.Core.signed s t * ((2 ^ (-q).toNat : Nat) : Int)
  rw [hq, show (-(k : Int)).toNat = 0 by omega, show (- -(k : Int)).toNat = k by omega, Nat.pow_zero, Nat.mul_one, h]
  unfold FP.Core.signed
  cases s
  · simp
  · simp [Int.neg_mul]
theorem whole_up {s : Bool} {c j : Nat} {q : Int} (hq : q = (j : Int)) : FP.Core.Whole (FP.Core.signed s (c * 2 ^ j)) (.fin s c q) := by
  show FP.Core.signed s (c * 2 ^ q.toNat) = FP.Core.signed s (c * 2 ^ j) * ((2 ^ (-q).toNat : Nat) : Int)
  rw [hq, show (j : Int).toNat = j by omega, show (-(j : Int)).toNat = 0 by omega]
  simp
theorem nE_mag (u : Nat) : nE u = u % 2 ^ 63 / 2 ^ 52 := by unfold nE; omega
/-- the bits cut behind the point are the number cut -/
theorem whole_cut {u : Nat} (hu : u < 2 ^ 64) (h1 : 1023 ≤ nSc u) (h2 : nSc u ≤ 1074) : u / 2 ^ (1075 - nSc u) * 2 ^ (1075 - nSc u) ≤ u ∧ FP.Core.Whole (FP.Core.signed (nS u) (tr u)) (FP.Core.decode FP.Core.b64 (u / 2 ^ (1075 - nSc u) * 2 ^ (1075 - nSc u))) ∧ nS (u / 2 ^ (1075 - nSc u) * 2 ^ (1075 - nSc u)) = nS u ∧ 2 ^ 52 ≤ (u / 2 ^ (1075 - nSc u) * 2 ^ (1075 - nSc u)) % 2 ^ 63 := by
  have hf := (fr_cut h1 h2).2
  have hc := cutk (u := u) (k := 1075 - nSc u) (by omega)
  have hle : (u % 2 ^ 52) / 2 ^ (1075 - nSc u) * 2 ^ (1075 - nSc u) ≤ u % 2 ^ 52 := Nat.div_mul_le_self _ _
  have hE : nE u = nSc u := by unfold nSc at h1 ⊢; split at h1 <;> split <;> omega
  generalize hw : u / 2 ^ (1075 - nSc u) * 2 ^ (1075 - nSc u) = w at *
  generalize (u % 2 ^ 52) / 2 ^ (1075 - nSc u) * 2 ^ (1075 - nSc u) = b at *
  have hm : w % 2 ^ 52 = b := by omega
  have hd : w / 2 ^ 52 = u / 2 ^ 52 := by omega
  have e1 : nE w = nE u := by unfold nE; rw [hd]
  have e2 : nS w = nS u := by unfold nS; rw [show w / 2 ^ 63 = u / 2 ^ 63 by omega]
  have e3 : nFr w = 2 ^ 52 + b := by unfold nFr; rw [if_neg (by omega), hm]
  have e4 : nSc w = nSc u := by unfold nSc; rw [e1]
  refine ⟨by omega, ?_, e2, ?_⟩
  · rw [dec_fin (by omega), e2, e3, e4]
    exact whole_fin (k := 1075 - nSc u) (by omega) hf.symm
  · have := nE_mag w; omega
/-- and with one more -/
theorem whole_cut1 {u : Nat} (hu : u < 2 ^ 64) (h1 : 1023 ≤ nSc u) (h2 : nSc u ≤ 1074) (hr : u / 2 ^ (1075 - nSc u) * 2 ^ (1075 - nSc u) ≠ u) : (u + (2 ^ (1075 - nSc u) - 1)) / 2 ^ (1075 - nSc u) * 2 ^ (1075 - nSc u) < 2 ^ 64 ∧ FP.Core.Whole (FP.Core.signed (nS u) (tr u + 1)) (FP.Core.decode FP.Core.b64 ((u + (2 ^ (1075 - nSc u) - 1)) / 2 ^ (1075 - nSc u) * 2 ^ (1075 - nSc u))) := by
  have hf := fr_cut h1 h2
  have hc := cutk (u := u) (k := 1075 - nSc u) (by omega)
  have hE : nE u = nSc u := by unfold nSc at h1 ⊢; split at h1 <;> split <;> omega
  have hkk : 1 ≤ 1075 - nSc u ∧ 1075 - nSc u ≤ 52 := by omega
  have hsc : nSc u = 1075 - (1075 - nSc u) := by omega
  generalize hk : 1075 - nSc u = k at *
  have e : 2 ^ 52 = 2 ^ (52 - k) * 2 ^ k := by rw [← Nat.pow_add]; congr 1; omega
  have p := Nat.two_pow_pos k
  have hdm : 2 ^ k * (u / 2 ^ k) + u % 2 ^ k = u := Nat.div_add_mod u (2 ^ k)
  have hml : u % 2 ^ k < 2 ^ k := Nat.mod_lt _ p
  have hdiv : (u + (2 ^ k - 1)) / 2 ^ k = u / 2 ^ k + 1 := by
    have hr2 : 0 < u % 2 ^ k := by
      rw [Nat.mul_comm] at hdm
      omega
    have : u + (2 ^ k - 1) = 2 ^ k * (u / 2 ^ k + 1) + (u % 2 ^ k - 1) := by rw [Nat.mul_add]; omega
    have z0 : (u % 2 ^ k - 1) / 2 ^ k = 0 := Nat.div_eq_of_lt (by omega)
    rw [this, Nat.mul_add_div p, z0, Nat.add_zero]
  rw [hdiv, Nat.add_mul, Nat.one_mul, hc]
  have hbq : u % 2 ^ 52 / 2 ^ k + 1 ≤ 2 ^ (52 - k) := by
    have : u % 2 ^ 52 / 2 ^ k < 2 ^ (52 - k) := (Nat.div_lt_iff_lt_mul p).mpr (by rw [← e]; exact Nat.mod_lt _ (by decide))
    omega
  have hb : (u % 2 ^ 52 / 2 ^ k + 1) * 2 ^ k ≤ 2 ^ 52 := by
    conv => rhs; rw [e]
    exact Nat.mul_le_mul_right _ hbq
  rw [Nat.add_mul, Nat.one_mul] at hb
  have ht : (tr u + 1) * 2 ^ k = 2 ^ 52 + (u % 2 ^ 52 / 2 ^ k * 2 ^ k + 2 ^ k) := by rw [Nat.add_mul, Nat.one_mul, hf.2]; omega
  generalize u % 2 ^ 52 / 2 ^ k * 2 ^ k = b at *
  have hw : u / 2 ^ 52 * 2 ^ 52 + b + 2 ^ k = u / 2 ^ 52 * 2 ^ 52 + (b + 2 ^ k) := by omega
  rw [hw]
  have hx := nE_lt u
  by_cases q : b + 2 ^ k < 2 ^ 52
  · generalize hB : b + 2 ^ k = B at *
    obtain ⟨w, hW⟩ : ∃ w, w = u / 2 ^ 52 * 2 ^ 52 + B := ⟨_, rfl⟩
    rw [← hW]
    have hm : w % 2 ^ 52 = B := by omega
    have hd : w / 2 ^ 52 = u / 2 ^ 52 := by omega
    have e1 : nE w = nE u := by unfold nE; rw [hd]
    have e2 : nS w = nS u := by unfold nS; rw [show w / 2 ^ 63 = u / 2 ^ 63 by omega]
    have e3 : nFr w = 2 ^ 52 + B := by unfold nFr; rw [if_neg (by omega), hm]
    have e4 : nSc w = nSc u := by unfold nSc; rw [e1]
    refine ⟨by omega, ?_⟩
    rw [dec_fin (by omega), e2, e3, e4]
    exact whole_fin (k := k) (by omega) ht.symm
  · have hB : b + 2 ^ k = 2 ^ 52 := by omega
    rw [hB] at ht ⊢
    have hu2 : nE u = u / 2 ^ 52 % 2048 := rfl
    obtain ⟨w, hW⟩ : ∃ w, w = u / 2 ^ 52 * 2 ^ 52 + 2 ^ 52 := ⟨_, rfl⟩
    rw [← hW]
    have hm : w % 2 ^ 52 = 0 := by omega
    have e1 : nE w = nE u + 1 := by unfold nE at *; omega
    have e2 : nS w = nS u := by unfold nS; rw [show w / 2 ^ 63 = u / 2 ^ 63 by unfold nE at *; omega]
    have e3 : nFr w = 2 ^ 52 := by unfold nFr; rw [if_neg (by omega), hm]
    have e4 : nSc w = nSc u + 1 := by unfold nSc; rw [if_neg (by omega), if_neg (by omega), e1]
    refine ⟨by unfold nE at *; omega, ?_⟩
    rw [dec_fin (by omega), e2, e3, e4]
    refine whole_fin (k := k - 1) (by omega) ?_
    have e5 : 2 ^ k = 2 * 2 ^ (k - 1) := by rw [← Nat.pow_succ']; congr 1; omega
    rw [e5, ← Nat.mul_assoc, Nat.mul_comm _ 2, Nat.mul_assoc] at ht
    omega
