/-! the model's root -/
/-- the pairs that k rounds have taken -/
def mX (m k : Nat) : Nat := if k ≤ 27 then m / 2 ^ (54 - 2 * k) else m * 2 ^ (2 * k - 54)
def mP (m k : Nat) : Nat := if k < 27 then m / 2 ^ (52 - 2 * k) % 4 else 0
theorem mX_step {m k : Nat} (h : k < 54) : mX m (k + 1) = 4 * mX m k + mP m k := by
  unfold mX mP
  by_cases a : k < 27
  · rw [if_pos (by omega), if_pos (by omega), if_pos a, show 54 - 2 * k = 52 - 2 * k + 2 by omega, show 54 - 2 * (k + 1) = 52 - 2 * k by omega, Nat.pow_add, ← Nat.div_div_eq_div_mul]
    omega
  · rw [if_neg (by omega), if_neg a, Nat.add_zero]
    by_cases b : k = 27
    · subst b; rw [if_pos (by decide)]; omega
    · rw [if_neg (by omega), show 2 * (k + 1) - 54 = 2 * k - 54 + 2 by omega, Nat.pow_add, ← Nat.mul_assoc]; omega
theorem mP_lt (m k : Nat) : mP m k < 4 := by unfold mP; split <;> omega
theorem mX_lt {m k : Nat} (hm : m < 2 ^ 54) (hk : k ≤ 54) : mX m k < 2 ^ 54 * 2 ^ 54 := by
  unfold mX
  split
  · have := Nat.div_le_self m (2 ^ (54 - 2 * k)); omega
  · have : 2 ^ (2 * k - 54) ≤ 2 ^ 54 := Nat.pow_le_pow_right (by decide) (by omega)
    have h2 : m * 2 ^ (2 * k - 54) ≤ m * 2 ^ 54 := Nat.mul_le_mul_left _ this
    omega
theorem l_sub {a b : Nat} (h : b ≤ a) : lN a - lN b = lN (a - b) := by
  have : a = (a - b) + b := by omega
  conv => lhs; arg 1; rw [this]
  rw [← l_add, Int64.add_sub_cancel]
theorem i_div2 {x : Int32} {p : Int} (h : x.toInt = 2 * p) (hp : -100000 ≤ p ∧ p ≤ 100000) : (x / (2 : Int32)).toInt = p := by
  have e : (x / (2 : Int32)).toInt = (x.toInt.tdiv 2).bmod (2 ^ 32) := by
    rw [Int32.toInt_div]; rfl
  rw [e, h, Int.mul_comm, Int.mul_tdiv_cancel p (by decide), i_bm (by omega)]
theorem root_end {kr : UInt64 → Prop} {x : Int32} {sc g : Nat} (hx : x.toInt = 2 * ((sc : Int) - 1049)) (hs : 300 ≤ sc ∧ sc ≤ 1700) (h1 : 2 ^ 53 ≤ g) (h2 : g < 2 ^ 54) (k : kr (dN ((sc - 1) * 2 ^ 52 + (g + 1) / 2))) (l5 l7 : Int64) (kc75 : UInt64 → Int64 → Int32 → Int64 → Prop) (kc122 : Int32 → Int64 → Int64 → Int64 → Int32 → Prop) : bX4_root_122 x l5 l7 (lN g) (nI 54) kr kc75 kc122 := by
  unfold bX4_root_122
  rw [if_pos (show (54 : Int32) ≤ nI 54 by decide)]
  refine ⟨by decide, ?_⟩
  have q := i_div2 hx (by omega)
  have e1 : (x / (2 : Int32) - (26 : Int32)).toInt = (sc : Int) - 1075 := by
    rw [i_sub, q]
    · show _ - (26 : Int) = _; omega
    · rw [q]; show -2147483648 ≤ _ - (26 : Int) ∧ _ - (26 : Int) < _; omega
  rw [l_inc, show (1 : Int32) = nI 1 from rfl, l_sar (s := 1) (by omega) (by decide), Nat.pow_one, show (9007199254740992 : Int64) = lN (2 ^ 53) from rfl]
  have sh : ∀ (y : Int32) (n : Nat), n < 2 ^ 11 → y.toInt = (n : Int) → y.toInt64 <<< ((52 : Int32).toInt64 &&& 63) = lN (n * 2 ^ 52) := by
    intro y n hn hy
    rw [show y = nI n from i_nI (by omega) hy, show (nI n).toInt64 = lN n from ?_]
    · exact wb_shl (k := 52) _ (by decide)
    · apply Int64.toInt_inj.mp
      rw [Int32.toInt_toInt64, nI_toInt (by omega), lN_int (by omega), if_neg (by omega)]
  by_cases r : (g + 1) / 2 = 2 ^ 53
  · rw [if_pos ((lc_eq (by omega) (by decide)).mpr r)]
    rw [sh _ (sc + 1) (by omega) ?_, show ((4503599627370496 : Int64) - (4503599627370496 : Int64)) = lN 0 from rfl]
    · have : lN ((sc + 1) * 2 ^ 52) ||| lN 0 = lN ((sc + 1) * 2 ^ 52) := by
        generalize (sc + 1) * 2 ^ 52 = z0
        exact Int64.toBitVec_inj.mp (BitVec.or_zero)
      rw [this]
      refine m_of (by omega) ?_
      unfold tld
      rw [if_neg (by omega), show (sc + 1) * 2 ^ 52 = (sc - 1) * 2 ^ 52 + (g + 1) / 2 by omega]
      exact k
    · rw [i_add, i_add, e1]
      · show _ + ((1 : Nat) : Int) + (1075 : Int) = _; omega
      · rw [e1]; show -2147483648 ≤ _ + ((1 : Nat) : Int) ∧ _ + ((1 : Nat) : Int) < _; omega
      · rw [i_add, e1]
        · show -2147483648 ≤ _ + ((1 : Nat) : Int) + (1075 : Int) ∧ _ + ((1 : Nat) : Int) + (1075 : Int) < _; omega
        · rw [e1]; show -2147483648 ≤ _ + ((1 : Nat) : Int) ∧ _ + ((1 : Nat) : Int) < _; omega
  · rw [if_neg (fun z => r ((lc_eq (by omega) (by decide)).mp z))]
    rw [sh _ sc (by omega) ?_, show (4503599627370496 : Int64) = lN (2 ^ 52) from rfl, l_sub (by omega), or_lo (by omega) (by omega)]
    · refine m_of (by omega) ?_
      unfold tld
      rw [if_neg (by omega), show sc * 2 ^ 52 + ((g + 1) / 2 - 2 ^ 52) = (sc - 1) * 2 ^ 52 + (g + 1) / 2 by omega]
      exact k
    · rw [i_add, e1]
      · show _ + (1075 : Int) = _; omega
      · rw [e1]; show -2147483648 ≤ _ + (1075 : Int) ∧ _ + (1075 : Int) < _; omega
theorem root_round {kr : UInt64 → Prop} {x : Int32} {m f r k : Nat} (hm : m < 2 ^ 54) (hk : k < 54) (hI : SqI (mX m k) (f, r)) (kc75 : UInt64 → Int64 → Int32 → Int64 → Prop) (kc122 : Int32 → Int64 → Int64 → Int64 → Int32 → Prop) (h : kc122 x (lN m) (lN (sqStep (mP m k) (f, r)).2) (lN (sqStep (mP m k) (f, r)).1) (nI (k + 1))) : bX4_root_122 x (lN m) (lN r) (lN f) (nI k) kr kc75 kc122 := by
  unfold bX4_root_122
  have hf := sq_small hI (mX_lt hm (Nat.le_of_lt hk))
  have hr := hI.2
  simp only at hr
  have hp := mP_lt m k
  rw [if_neg (by rw [show (54 : Int32) = nI 54 from rfl, nI_le' (by decide) (by omega)]; omega)]
  rw [show (1 : Int64) = lN 1 from rfl, shl2, shl2, shl1, or_lo (a := 1) (by decide) (by omega)]
  have o1 : lN (f * 2 ^ 1) ||| lN 1 = lN (f * 2 ^ 1 + 1) := or_lo (a := 1) (by decide) (by omega)
  rw [o1]
  have kk : nI k + (1 : Int32) = nI (k + 1) := by
    refine i_nI (by omega) ?_
    rw [i_add]
    · rw [nI_toInt (by omega)]; rfl
    · rw [nI_toInt (by omega)]; show -2147483648 ≤ _ + (1 : Int) ∧ _ + (1 : Int) < _; omega
  rw [kk]
  have body : (if lg_cmp (lN (r * 2 ^ 2 + mP m k)) (lN (f * 2 ^ 2 + 1)) < 0 then kc122 x (lN m) (lN (r * 2 ^ 2 + mP m k)) (lN (f * 2 ^ 1)) (nI (k + 1)) else kc122 x (lN m) (lN (r * 2 ^ 2 + mP m k) - lN (f * 2 ^ 2 + 1)) (lN (f * 2 ^ 1 + 1)) (nI (k + 1))) := by
    unfold sqStep at h
    by_cases q : 4 * r + mP m k < 4 * f + 1
    · rw [if_pos q] at h
      rw [if_pos ((lc_lt (by omega) (by omega)).mpr (by omega)), show r * 2 ^ 2 + mP m k = 4 * r + mP m k by omega, show f * 2 ^ 1 = 2 * f by omega]
      exact h
    · rw [if_neg q] at h
      rw [if_neg (fun z => q (by have := (lc_lt (by omega) (by omega)).mp z; omega)), l_sub (by omega), show r * 2 ^ 2 + mP m k - (f * 2 ^ 2 + 1) = 4 * r + mP m k - (4 * f + 1) by omega, show f * 2 ^ 1 + 1 = 2 * f + 1 by omega]
      exact h
  by_cases a : k < 27
  · rw [if_neg (by rw [show (27 : Int32) = nI 27 from rfl, nI_le' (by decide) (by omega)]; omega)]
    have e2 : (52 : Int32) - (2 : Int32) * nI k = nI (52 - 2 * k) := by
      have : ∀ k, k < 27 → (52 : Int32) - (2 : Int32) * nI k = nI (52 - 2 * k) := by decide +kernel
      exact this k a
    have e3 : (lN m >>> (((52 : Int32) - (2 : Int32) * nI k).toInt64 &&& 63)) &&& (3 : Int64) = lN (mP m k) := by
      rw [e2, l_sar (by omega) (by omega)]
      unfold mP; rw [if_pos a]
      exact wb_mask (k := 2) (Nat.lt_of_le_of_lt (Nat.div_le_self _ _) (by omega)) (by decide)
    rw [e3, or_lo (by omega) (by omega)]
    exact body
  · rw [if_pos (by rw [show (27 : Int32) = nI 27 from rfl, nI_le' (by decide) (by omega)]; omega)]
    have e3 : lN (r * 2 ^ 2) ||| (0 : Int64) = lN (r * 2 ^ 2 + mP m k) := by
      rw [show mP m k = 0 by unfold mP; rw [if_neg a]]
      exact or_lo (a := 0) (by decide) (by omega)
    rw [e3]
    exact body
theorem root_loop {kr : UInt64 → Prop} {x : Int32} {m sc : Nat} (hm : m < 2 ^ 54) (hx : x.toInt = 2 * ((sc : Int) - 1049)) (hs : 300 ≤ sc ∧ sc ≤ 1700) (fin : ∀ g s, SqI (m * 2 ^ 54) (g, s) → kr (dN ((sc - 1) * 2 ^ 52 + (g + 1) / 2)) ∧ 2 ^ 53 ≤ g ∧ g < 2 ^ 54) : ∀ (j k f r : Nat), j + k = 54 → SqI (mX m k) (f, r) → itX4_root_122 kr (j + 1) x (lN m) (lN r) (lN f) (nI k)
  | 0, k, f, r, hk, hI => by
    rw [Nat.zero_add] at hk; subst hk
    have e : mX m 54 = m * 2 ^ 54 := by unfold mX; rw [if_neg (by decide)]
    rw [e] at hI
    obtain ⟨h1, h2, h3⟩ := fin f r hI
    exact root_end hx hs h2 h3 h1 _ _ _ _
  | j + 1, k, f, r, hk, hI => by
    have hst := sq_step (mP_lt m k) hI
    rw [← mX_step (by omega)] at hst
    exact root_round hm (by omega) hI _ _ (root_loop hm hx hs fin j (k + 1) _ _ (by omega) hst)
theorem root_from {kr : UInt64 → Prop} {x : Int32} {m sc : Nat} (hm : m < 2 ^ 54) (hx : x.toInt = 2 * ((sc : Int) - 1049)) (hs : 300 ≤ sc ∧ sc ≤ 1700) (fin : ∀ g s, SqI (m * 2 ^ 54) (g, s) → kr (dN ((sc - 1) * 2 ^ 52 + (g + 1) / 2)) ∧ 2 ^ 53 ≤ g ∧ g < 2 ^ 54) : ∃ N, itX4_root_122 kr N x (lN m) (0 : Int64) (0 : Int64) (0 : Int32) := by
  refine ⟨55, root_loop hm hx hs fin 54 0 0 0 (by decide) ?_⟩
  have : mX m 0 = 0 := by unfold mX; rw [if_pos (by decide)]; exact Nat.div_eq_of_lt hm
  rw [this]; exact ⟨rfl, Nat.le_refl _⟩
/-- from the full fraction on -/
theorem root_par {kr : UInt64 → Prop} {y : Int32} {u : Nat} (h0 : 0 < u) (hI : u < 9218868437227405312) (k : kr (fX1_root (lN u)).toUInt64) (hy : y.toInt = (nSc u : Int) - nLk (nFr u) - 1075) : (if (y &&& (1 : Int32)) = (1 : Int32) then (∃ N, itX4_root_122 kr N (y + (-1 : Int32)) (lN (nFr u * 2 ^ nLk (nFr u)) <<< ((1 : Int32).toInt64 &&& 63)) (0 : Int64) (0 : Int64) (0 : Int32)) else (∃ N, itX4_root_122 kr N y (lN (nFr u * 2 ^ nLk (nFr u))) (0 : Int64) (0 : Int64) (0 : Int32))) := by
  have fu : nE u ≠ 2047 := fin_iff.mp (by omega)
  have hs := nSc_lt fu
  have hp := nSc_pos u
  obtain ⟨-, l2, l3, l4⟩ := r_lack (nFr_pos (u := u) (by omega)) (nFr_lt u)
  have fin : ∀ g s, SqI (rtM u * 2 ^ 54) (g, s) → kr (dN ((rtS u - 1) * 2 ^ 52 + (g + 1) / 2)) ∧ 2 ^ 53 ≤ g ∧ g < 2 ^ 54 := by
    intro g s hg
    have c := c_root h0 hI g s hg
    rw [c.1, dN_lN] at k
    exact ⟨k, c.2⟩
  have hS : 300 ≤ rtS u ∧ rtS u ≤ 1700 := by unfold rtS; omega
  rw [i_and1, hy]
  by_cases od : (nSc u + nLk (nFr u)) % 2 = 1
  · have hM : rtM u = nFr u * 2 ^ nLk (nFr u) := by unfold rtM; rw [if_pos od]
    rw [hM] at fin
    rw [if_pos (show ((nSc u : Int) - nLk (nFr u) - 1075) % 2 = 0 by omega), if_neg (by decide)]
    exact root_from (sc := rtS u) (by omega) (by rw [hy]; unfold rtS; omega) hS fin
  · have hM : rtM u = nFr u * 2 ^ nLk (nFr u) * 2 := by unfold rtM; rw [if_neg od]
    rw [hM] at fin
    rw [if_neg (show ¬ ((nSc u : Int) - nLk (nFr u) - 1075) % 2 = 0 by omega), if_pos rfl, shl1, Nat.pow_one]
    refine root_from (sc := rtS u) (by omega) ?_ hS fin
    rw [i_add]
    · rw [hy]; unfold rtS; show _ + (-1 : Int) = _; omega
    · rw [hy]; show -2147483648 ≤ _ + (-1 : Int) ∧ _ + (-1 : Int) < _; omega
theorem root_norm {kr : UInt64 → Prop} {u : Nat} (h0 : 0 < u) (hI : u < 9218868437227405312) (k : kr (fX1_root (lN u)).toUInt64) (hsc : nSc u = 1) : ∀ (j i : Nat) (y : Int32) (a : UInt64) (l2 : Int64), i + j = nLk (nFr u) → y.toInt = -1074 - (i : Int) → itX4_root_75 kr (j + 1) a l2 y (lN (nFr u * 2 ^ i)) := by
  obtain ⟨-, q2, q3, q4⟩ := r_lack (nFr_pos (u := u) (by omega)) (nFr_lt u)
  intro j
  induction j with
  | zero =>
    intro i y a l2 hi hy
    rw [Nat.add_zero] at hi
    show bX4_root_75 _ _ _ _ _ _ _
    unfold bX4_root_75
    rw [hi, if_pos (by rw [show (4503599627370496 : Int64) = lN (2 ^ 52) from rfl, lc_ge (by omega) (by decide)]; exact q3)]
    exact root_par h0 hI k (by rw [hy, hsc]; omega)
  | succ j ih =>
    intro i y a l2 hi hy
    show bX4_root_75 _ _ _ _ _ _ _
    unfold bX4_root_75
    have hlt : nFr u * 2 ^ i < 2 ^ 52 := by
      have e : 2 ^ nLk (nFr u) = 2 ^ i * 2 ^ (nLk (nFr u) - i) := wb_pw (by omega)
      have : 2 ≤ 2 ^ (nLk (nFr u) - i) := by
        have := Nat.pow_le_pow_right (n := 2) (by decide) (show 1 ≤ nLk (nFr u) - i by omega)
        omega
      rw [e, ← Nat.mul_assoc] at q4
      have h2 := Nat.mul_le_mul_left (nFr u * 2 ^ i) this
      omega
    rw [if_neg (by rw [show (4503599627370496 : Int64) = lN (2 ^ 52) from rfl, lc_ge (by omega) (by decide)]; omega), shl1, Nat.pow_one, show nFr u * 2 ^ i * 2 = nFr u * 2 ^ (i + 1) by rw [Nat.pow_succ, Nat.mul_assoc]]
    refine ih (i + 1) _ _ _ (by omega) ?_
    rw [i_add]
    · rw [hy]; show _ + (-1 : Int) = _; omega
    · rw [hy]; show -2147483648 ≤ _ + (-1 : Int) ∧ _ + (-1 : Int) < _; omega
def sRt (u : Nat) : Nat := (fX1_root (lN u)).toBitVec.toNat
theorem sRt_lt (u : Nat) : sRt u < 2 ^ 64 := (fX1_root (lN u)).toBitVec.isLt
theorem c_rt (u : Nat) : fX1_root (lN u) = lN (sRt u) := by
  apply wb_inj; rw [wb_tb]; unfold sRt; simp
theorem m_root {u : Nat} (h : Cn u) {kr : UInt64 → Prop} (k : kr (dN (sRt u))) : wX4_root (dN u) kr := by
  rw [← dN_lN, ← c_rt] at k
  have hu := h.1
  unfold wX4_root bX4_root_0
  rw [d0, dI]
  refine n_self hu (fun n => ?_) (fun n => ?_)
  · have : fX1_root (lN u) = lN u := by
      unfold fX1_root; rw [c_isNone hu, if_pos n, if_neg (by decide)]
    rw [this, h.2 n] at k; exact k
  · by_cases s : 2 ^ 63 < u
    · rw [if_neg (by rw [cvg_ge hu (by decide), lt_zero hu n]; exact nn s)]
      have : fX1_root (lN u) = lN NOT64 := by
        unfold fX1_root; rw [c_isNone hu, c_isZero hu, if_neg n, if_pos rfl, if_neg (show ¬ u % 2 ^ 63 = 0 by omega), if_pos rfl, if_neg (by rw [show (9218868437227405312 : Int64) = lN 9218868437227405312 from rfl, lc_eq hu (by decide)]; omega), if_neg (by rw [c_neg hu]; omega)]; rfl
      rw [this] at k; exact k
    · rw [if_pos (by rw [cvg_ge hu (by decide), lt_zero hu n]; exact s)]
      by_cases z : u % 2 ^ 63 = 0
      · rw [if_pos (by rw [cvl_eq hu (by decide), eq_zero hu]; exact z)]
        have : fX1_root (lN u) = lN u := by
          unfold fX1_root; rw [c_isNone hu, c_isZero hu, if_neg n, if_pos rfl, if_pos z, if_neg (by decide)]
        rw [this, dN_lN] at k; exact k
      · rw [if_neg (by rw [cvl_eq hu (by decide), eq_zero hu]; exact z)]
        by_cases i : u = 9218868437227405312
        · rw [if_pos (by rw [cvl_eq hu (by decide), eq_inf hu]; exact i)]
          have : fX1_root (lN u) = lN u := by
            unfold fX1_root; rw [c_isNone hu, c_isZero hu, if_neg n, if_pos rfl, if_neg z, if_pos rfl, if_pos (by rw [show (9218868437227405312 : Int64) = lN 9218868437227405312 from rfl, lc_eq hu (by decide)]; exact i)]
          rw [this, dN_lN] at k; exact k
        · rw [if_neg (by rw [cvl_eq hu (by decide), eq_inf hu]; exact i)]
          refine m_bits h ?_
          have h0 : 0 < u := by omega
          have hI : u < 9218868437227405312 := by omega
          have fu : nE u ≠ 2047 := fin_iff.mp (by omega)
          have hE : nE u = u / 2 ^ 52 := by unfold nE; omega
          have hE2 := nE_lt u
          rw [show (52 : Int32) = nI 52 from rfl, l_sar (by omega) (by decide)]
          have e1 : (lN (u / 2 ^ 52)).toInt32 = nI (nE u) := by
            rw [← hE]
            refine i_nI (by omega) ?_
            rw [Int64.toInt_toInt32, lN_int (by omega), if_neg (by omega), i_bm (by omega)]
          rw [e1]
          have t : (nI (nE u) - (1075 : Int32)).toInt = (nE u : Int) - 1075 := by
            rw [i_sub]
            · rw [nI_toInt (by omega)]; rfl
            · rw [nI_toInt (by omega)]; show -2147483648 ≤ _ - (1075 : Int) ∧ _ - (1075 : Int) < _; omega
          by_cases sub : nE u = 0
          · rw [if_pos (by apply Int32.toInt_inj.mp; rw [t, sub]; rfl)]
            have hfr : nFr u = u := by unfold nFr; rw [if_pos sub]; omega
            have hsc : nSc u = 1 := by unfold nSc; rw [if_pos sub]
            have := root_norm h0 hI k hsc (nLk (nFr u)) 0 (-1074) (dN u) (lN u) (by omega) (by decide)
            rw [Nat.pow_zero, Nat.mul_one, hfr] at this
            exact ⟨_, this⟩
          · rw [if_neg (by intro z; have := congrArg Int32.toInt z; rw [t, show (-1075 : Int32).toInt = -1075 from rfl] at this; omega)]
            have hsc : nSc u = nE u := sc_of (by omega)
            have hfr : nFr u = 2 ^ 52 + u % 2 ^ 52 := by unfold nFr; rw [if_neg sub]
            have hlk : nLk (nFr u) = 0 := by
              unfold nLk; rw [log2_eq (L := 52) (by omega) (by omega)]
            have e2 : (lN u &&& (4503599627370495 : Int64)) ||| (4503599627370496 : Int64) = lN (nFr u) := by
              rw [tl_and hu, show (4503599627370496 : Int64) = lN (1 * 2 ^ 52) from rfl, wb_or (by omega) (by decide), Nat.or_comm, ← wb_or (by decide) (by omega), or_lo (by omega) (by omega), hfr, Nat.one_mul]
            rw [e2]
            have := root_par h0 hI k (y := nI (nE u) - (1075 : Int32)) (by rw [t, hsc, hlk]; omega)
            rw [hlk, Nat.pow_zero, Nat.mul_one] at this
            exact this
theorem sRt_cn {u : Nat} (h : Cn u) : Cn (sRt u) := by
  have hu := h.1
  have key : ∀ w, fX1_root (lN u) = lN w → Cn w → Cn (sRt u) := by
    intro w e hw
    have : sRt u = w := (lN_inj64 (sRt_lt u) hw.1).mp (by rw [← c_rt, e])
    rw [this]; exact hw
  by_cases n : isN u
  · exact key u (by unfold fX1_root; rw [c_isNone hu, if_pos n, if_neg (by decide)]) h
  · by_cases z : u % 2 ^ 63 = 0
    · exact key u (by unfold fX1_root; rw [c_isNone hu, c_isZero hu, if_neg n, if_pos rfl, if_pos z, if_neg (by decide)]) h
    · by_cases i : u = 9218868437227405312
      · exact key u (by unfold fX1_root; rw [c_isNone hu, c_isZero hu, if_neg n, if_pos rfl, if_neg z, if_pos rfl, if_pos (by rw [show (9218868437227405312 : Int64) = lN 9218868437227405312 from rfl, lc_eq hu (by decide)]; exact i)]) h
      · by_cases s : 2 ^ 63 ≤ u
        · exact key NOT64 (by unfold fX1_root; rw [c_isNone hu, c_isZero hu, if_neg n, if_pos rfl, if_neg z, if_pos rfl, if_neg (by rw [show (9218868437227405312 : Int64) = lN 9218868437227405312 from rfl, lc_eq hu (by decide)]; omega), if_neg (by rw [c_neg hu]; omega)]; rfl) Cn_NOT
        · have hM : rtM u < 2 ^ 54 := by
            obtain ⟨-, l2, l3, l4⟩ := r_lack (nFr_pos (u := u) (by omega)) (nFr_lt u)
            unfold rtM; split <;> omega
          obtain ⟨f, r, -, e2, -⟩ := r_wholeRoot hM
          have hg : ∃ g s, SqI (rtM u * 2 ^ 54) (g, s) := by
            have step : ∀ k, k ≤ 54 → ∃ g s, SqI (mX (rtM u) k) (g, s) := by
              intro k
              induction k with
              | zero =>
                intro _
                refine ⟨0, 0, ?_⟩
                have : mX (rtM u) 0 = 0 := by unfold mX; rw [if_pos (by decide)]; exact Nat.div_eq_of_lt hM
                rw [this]; exact ⟨rfl, Nat.le_refl _⟩
              | succ k ih =>
                intro hk
                obtain ⟨g, s, hI⟩ := ih (by omega)
                have hst := sq_step (mP_lt (rtM u) k) hI
                rw [← mX_step (by omega)] at hst
                exact ⟨_, _, hst⟩
            have := step 54 (Nat.le_refl _)
            rw [show mX (rtM u) 54 = rtM u * 2 ^ 54 by unfold mX; rw [if_neg (by decide)]] at this
            exact this
          obtain ⟨g, s', hg⟩ := hg
          have c := c_root (u := u) (by omega) (by omega) g s' hg
          have hS : rtS u ≤ 1700 := by
            have fu : nE u ≠ 2047 := fin_iff.mp (by omega)
            have := nSc_lt fu
            unfold rtS; omega
          exact key _ c.1 ⟨by omega, fun q => absurd q (by omega)⟩
