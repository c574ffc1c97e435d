/-! roots of both sides -/
theorem nI_int {n : Nat} (h : n < 2 ^ 32) : (nI n).toInt = if 2 ^ 31 ≤ n then (n : Int) - 2 ^ 32 else (n : Int) := by
  have : (nI n).toInt = (BitVec.ofNat 32 n).toInt := rfl
  rw [this, BitVec.toInt_eq_toNat_bmod, BitVec.toNat_ofNat, Nat.mod_eq_of_lt h, Int.bmod_def]
  split <;> split <;> omega
theorem i_and1 (x : Int32) : (x &&& (1 : Int32)) = if x.toInt % 2 = 0 then 0 else 1 := by
  obtain ⟨n, hn, rfl⟩ := wb_of32 x
  have e : nI n &&& (1 : Int32) = nI (n % 2) := by
    apply Int32.toBitVec_inj.mp
    rw [Int32.toBitVec_and]
    apply BitVec.eq_of_toNat_eq
    rw [BitVec.toNat_and]
    show (BitVec.ofNat 32 n).toNat &&& 1 = (BitVec.ofNat 32 (n % 2)).toNat
    rw [BitVec.toNat_ofNat, BitVec.toNat_ofNat, Nat.and_one_is_mod]; omega
  rw [e, nI_int hn]
  rcases Nat.mod_two_eq_zero_or_one n with r | r
  · rw [r, if_pos (by split <;> omega)]; rfl
  · rw [r, if_neg (by split <;> omega)]; rfl
theorem i_sar1 (x : Int32) : (x >>> ((1 : Int32) &&& 31)).toInt = x.toInt / 2 := by
  have e : (x >>> ((1 : Int32) &&& 31)).toBitVec = x.toBitVec.sshiftRight 1 := by
    rw [Int32.toBitVec_shiftRight]; rfl
  show (x >>> ((1 : Int32) &&& 31)).toBitVec.toInt = _
  rw [e, BitVec.toInt_sshiftRight, Int.shiftRight_eq_div_pow]; rfl
theorem l_sar {m s : Nat} (hm : m < 2 ^ 63) (hs : s < 64) : lN m >>> ((nI s).toInt64 &&& 63) = lN (m / 2 ^ s) := by
  rw [wb_c s hs]
  apply wb_inj
  rw [Int64.toBitVec_shiftRight, wb_tb, wb_tb, wb_tb]
  rw [wb_sm s hs]
  show (BitVec.ofNat 64 m).sshiftRight (BitVec.ofNat 64 s).toNat = _
  rw [BitVec.toNat_ofNat, Nat.mod_eq_of_lt (show s < 2 ^ 64 by omega), BitVec.sshiftRight_eq_of_msb_false (by rw [BitVec.msb_eq_decide, BitVec.toNat_ofNat]; exact decide_eq_false (by omega))]
  apply BitVec.eq_of_toNat_eq
  rw [BitVec.toNat_ushiftRight, BitVec.toNat_ofNat, BitVec.toNat_ofNat, Nat.shiftRight_eq_div_pow, Nat.mod_eq_of_lt (show m < 2 ^ 64 by omega), Nat.mod_eq_of_lt (Nat.lt_of_le_of_lt (Nat.div_le_self _ _) (by omega))]
/-- the number under the root, and the root's scale -/
def rtM (u : Nat) : Nat := if (nSc u + nLk (nFr u)) % 2 = 1 then nFr u * 2 ^ nLk (nFr u) else nFr u * 2 ^ nLk (nFr u) * 2
def rtS (u : Nat) : Nat := (nSc u + 1023 - nLk (nFr u)) / 2
theorem sq_up {m f r g s : Nat} (h : SqI (m * 2 ^ 58) (f, r)) (h2 : SqI (m * 2 ^ 54) (g, s)) : g = f / 4 := by
  obtain ⟨a, b⟩ := h
  obtain ⟨c, d⟩ := h2
  simp only at a b c d
  have hm : m * 2 ^ 58 = 16 * (m * 2 ^ 54) := by omega
  rw [hm] at a
  rw [← c] at a
  have h1 : f < 4 * g + 4 := by
    refine Nat.lt_of_not_le fun q => ?_
    have := Nat.mul_le_mul q q
    have e : (4 * g + 4) * (4 * g + 4) = 16 * (g * g) + 32 * g + 16 := by
      rw [Nat.add_mul, Nat.mul_add, Nat.mul_mul_mul_comm]; omega
    omega
  have h3 : 4 * g ≤ f := by
    refine Nat.le_of_not_lt fun q => ?_
    have h4 : f + 1 ≤ 4 * g := q
    have := Nat.mul_le_mul h4 h4
    have e : 4 * g * (4 * g) = 16 * (g * g) := by rw [Nat.mul_mul_mul_comm]
    have e2 : (f + 1) * (f + 1) = f * f + 2 * f + 1 := by rw [Nat.add_mul, Nat.mul_add]; omega
    omega
  omega
theorem rt_pack {m sc : Nat} {x : Int32} (hx : x.toInt = (sc : Int)) (hs : 300 ≤ sc ∧ sc ≤ 1700) (h1 : 2 ^ 52 ≤ m) (h2 : m < 2 ^ 54) : ∀ g s, SqI (m * 2 ^ 54) (g, s) → fX1_packed (0 : Int64) x (fX1_wholeRoot (lN m)) = lN ((sc - 1) * 2 ^ 52 + (g + 1) / 2) ∧ 2 ^ 53 ≤ g ∧ g < 2 ^ 54 := by
  intro g s hg
  obtain ⟨f, r, e, hI, hf⟩ := r_wholeRoot h2
  have hgf := sq_up hI hg
  have hf2 : 2 ^ 55 ≤ f := by
    refine Nat.le_of_not_lt fun q => ?_
    obtain ⟨a, b⟩ := hI
    simp only at a b
    have h4 : f + 1 ≤ 2 ^ 55 := q
    have := Nat.mul_le_mul h4 h4
    have e2 : (f + 1) * (f + 1) = f * f + 2 * f + 1 := by rw [Nat.add_mul, Nat.mul_add]; omega
    omega
  rw [e]
  have hW : 2 ^ 55 ≤ (if r = 0 then f else f ||| 1) ∧ (if r = 0 then f else f ||| 1) < 2 ^ 56 := by
    rw [or_one]; split
    · omega
    · split <;> omega
  have hp := r_packed (m := if r = 0 then f else f ||| 1) (L := 55) (b := 0) (sc := x) hW.1 hW.2 (by decide) (by decide) (by omega)
  rw [Nat.zero_mul, Nat.zero_add] at hp
  refine ⟨?_, by omega, by omega⟩
  rw [show (0 : Int64) = lN 0 from rfl, hp, hx]
  congr 1
  unfold pkM
  rw [show max (((55 : Nat) : Int) - 55) (1 - (sc : Int)) = 0 by omega, if_pos (by omega), if_neg (by decide)]
  rw [show ((sc : Int) + 0 - 1).toNat = sc - 1 by omega]
  have hj : jam (if r = 0 then f else f ||| 1) (0 : Int).toNat = if r = 0 then f else f ||| 1 := by
    unfold jam
    rw [show (0 : Int).toNat = 0 from rfl, Nat.pow_zero, Nat.div_one, Nat.mod_one, if_pos rfl, Nat.or_zero]
  rw [hj, root_near hI, hgf]
theorem c_root {u : Nat} (h0 : 0 < u) (hI : u < 9218868437227405312) : ∀ g s, SqI (rtM u * 2 ^ 54) (g, s) → fX1_root (lN u) = lN ((rtS u - 1) * 2 ^ 52 + (g + 1) / 2) ∧ 2 ^ 53 ≤ g ∧ g < 2 ^ 54 := by
  intro g s hg
  have hu : u < 2 ^ 64 := by omega
  unfold fX1_root
  have fu : nE u ≠ 2047 := fin_iff.mp (by omega)
  have hs := nSc_lt fu
  have hp := nSc_pos u
  obtain ⟨l1, l2, l3, l4⟩ := r_lack (nFr_pos (u := u) (by omega)) (nFr_lt u)
  rw [c_isNone hu, c_isZero hu, if_neg (show ¬ isN u by omega), if_pos rfl, if_neg (show ¬ u % 2 ^ 63 = 0 by omega), if_pos rfl]
  rw [if_neg (by rw [show (9218868437227405312 : Int64) = lN 9218868437227405312 from rfl, lc_eq hu (by decide)]; omega), if_pos ((c_neg hu).mpr (by omega))]
  rw [r_scale hu, r_fraction hu, l1, wb_shl (nFr u) (by omega), i_and1]
  have t1 : (nI (nSc u) - nI (nLk (nFr u))).toInt = (nSc u : Int) - nLk (nFr u) := by
    rw [i_sub, nI_toInt (by omega), nI_toInt (by omega)]
    rw [nI_toInt (by omega), nI_toInt (by omega)]; omega
  have t2 : (nI (nSc u) - nI (nLk (nFr u)) - (1075 : Int32)).toInt = (nSc u : Int) - nLk (nFr u) - 1075 := by
    rw [i_sub, t1]
    · rfl
    · rw [t1]; show -2147483648 ≤ _ - (1075 : Int) ∧ _ - (1075 : Int) < _; omega
  rw [t2]
  unfold rtM at hg
  by_cases od : (nSc u + nLk (nFr u)) % 2 = 1
  · rw [if_pos od] at hg
    rw [if_pos (show ((nSc u : Int) - nLk (nFr u) - 1075) % 2 = 0 by omega), if_pos rfl]
    refine rt_pack ?_ ?_ l3 (by omega) g s hg
    · rw [i_add]
      · rw [i_sar1, t2]; unfold rtS; show _ + (1049 : Int) = _; omega
      · rw [i_sar1, t2]; show -2147483648 ≤ _ + (1049 : Int) ∧ _ + (1049 : Int) < _; omega
    · unfold rtS; omega
  · rw [if_neg od] at hg
    rw [if_neg (show ¬ ((nSc u : Int) - nLk (nFr u) - 1075) % 2 = 0 by omega), if_neg (by decide), shl1, Nat.pow_one]
    have t3 : (nI (nSc u) - nI (nLk (nFr u)) - (1075 : Int32) + (-1 : Int32)).toInt = (nSc u : Int) - nLk (nFr u) - 1076 := by
      rw [i_add, t2]
      · show _ + (-1 : Int) = _; omega
      · rw [t2]; show -2147483648 ≤ _ + (-1 : Int) ∧ _ + (-1 : Int) < _; omega
    refine rt_pack ?_ ?_ (by omega) (by omega) g s hg
    · rw [i_add]
      · rw [i_sar1, t3]; unfold rtS; show _ + (1049 : Int) = _; omega
      · rw [i_sar1, t3]; show -2147483648 ≤ _ + (1049 : Int) ∧ _ + (1049 : Int) < _; omega
    · unfold rtS; omega
