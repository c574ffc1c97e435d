/-! floor and cuts, of the machine -/
theorem l_ofInt {z : Int} (h : -2 ^ 63 ≤ z ∧ z < 2 ^ 63) : (Int64.ofInt z).toInt = z := by
  rw [Int64.toInt_ofInt, show Int64.size = 2 ^ 64 from rfl, Int.bmod_def]; split <;> omega
theorem i_ofInt {z : Int} (h : -2 ^ 31 ≤ z ∧ z < 2 ^ 31) : (Int32.ofInt z).toInt = z := by
  rw [Int32.toInt_ofInt, show Int32.size = 2 ^ 32 from rfl, Int.bmod_def]; split <;> omega
theorem d2l_N {u : Nat} (hu : u < 2 ^ 64) (fu : nE u ≠ 2047) : (FP.d2l (dN u)).toInt = max (-2 ^ 63) (min (2 ^ 63 - 1) (FP.Core.signed (nS u) (tr u))) := by
  show (Int64.ofInt (FP.Core.toInt (-2 ^ 63) (2 ^ 63 - 1) (FP.Core.decode FP.Core.b64 (dN u).toNat))).toInt = _
  rw [dN_nat hu, dec_fin fu]
  show (Int64.ofInt (max (-2 ^ 63) (min (2 ^ 63 - 1) (FP.Core.truncate (nS u) (nFr u) ((nSc u : Int) - 1075))))).toInt = _
  rw [trunc_N]
  exact l_ofInt (by omega)
theorem d2i_N {u : Nat} (hu : u < 2 ^ 64) (fu : nE u ≠ 2047) : (FP.d2i (dN u)).toInt = max (-2 ^ 31) (min (2 ^ 31 - 1) (FP.Core.signed (nS u) (tr u))) := by
  show (Int32.ofInt (FP.Core.toInt (-2 ^ 31) (2 ^ 31 - 1) (FP.Core.decode FP.Core.b64 (dN u).toNat))).toInt = _
  rw [dN_nat hu, dec_fin fu]
  show (Int32.ofInt (max (-2 ^ 31) (min (2 ^ 31 - 1) (FP.Core.truncate (nS u) (nFr u) ((nSc u : Int) - 1075))))).toInt = _
  rw [trunc_N]
  exact i_ofInt (by omega)
theorem sg_pos {u : Nat} (h : u < 2 ^ 63) : nS u = false := by unfold nS; rw [show u / 2 ^ 63 % 2 = 0 by omega]; rfl
theorem sg_neg {u : Nat} (h : 2 ^ 63 ≤ u) (h2 : u < 2 ^ 64) : nS u = true := by unfold nS; rw [show u / 2 ^ 63 % 2 = 1 by omega]; rfl
theorem sgd_p (t : Nat) : FP.Core.signed false t = (t : Int) := rfl
theorem sgd_n (t : Nat) : FP.Core.signed true t = -(t : Int) := rfl
theorem l2d_0 : FP.l2d 0 = dN 0 := by decide +kernel
theorem i2d_0 : FP.i2d 0 = dN 0 := by decide +kernel
theorem d1 : (FP.dconst1 : UInt64) = dN 4607182418800017408 := rfl
theorem tr_small {u : Nat} (h : nSc u < 1023) : tr u = 0 := by
  have := tr_lo (u := u) (s0 := 1022) (by omega) (by decide) (by decide)
  rw [show 2 ^ (1022 - 1022) = 1 from rfl] at this; omega
theorem one_int : FP.Core.DInt 1 (dN 4607182418800017408) := by
  unfold FP.Core.DInt FP.Core.val64
  rw [dN_nat (by decide), dec_fin (by decide)]
  show FP.Core.signed _ _ = _
  decide
theorem m_floor {u : Nat} (h : Cn u) {kr : UInt64 → Prop} (k : kr (dN (sFl u))) : wX4_floor (dN u) kr := by
  unfold wX4_floor bX4_floor_0
  have hu := h.1
  have hm := mag_eq u
  have hf := nFr_lt u
  have hp := nSc_pos u
  have hE := nE_mag u
  rw [d0, d1]
  unfold sFl at k
  refine n_self hu (fun n => ?_) (fun n => ?_)
  · rw [if_pos] at k
    · exact k
    · right; unfold nSc; rw [if_neg (by omega)]; omega
  · refine m_size h ?_
    have e1 : sAb u = u % 2 ^ 63 := by unfold sAb; rw [if_neg n]
    rw [e1, show (4841369599423283200 : UInt64) = dN 4841369599423283200 from rfl]
    have c1 : 0 ≤ Op.cmpValue (FP.dcmp (dN (u % 2 ^ 63)) (dN 4841369599423283200)) .l ↔ 1075 ≤ nSc u := by
      rw [cvl_ge (by omega) (by decide)]
      have r1 : rk 4841369599423283200 = 4841369599423283200 := rfl
      have r2 : rk (u % 2 ^ 63) = (u % 2 ^ 63 : Nat) := by unfold rk; rw [if_neg (by omega)]
      constructor
      · intro z; have := z.2.2; rw [r1, r2] at this; unfold nSc; split <;> omega
      · intro z; refine ⟨by decide, by omega, ?_⟩; rw [r1, r2]; unfold nSc at z; split at z <;> omega
    by_cases a : 1075 ≤ nSc u
    · rw [if_pos (c1.mpr a)]; rw [if_pos (.inr a)] at k; exact k
    · rw [if_neg (fun z => a (c1.mp z))]
      by_cases z : u % 2 ^ 63 = 0
      · rw [if_pos (by rw [cvl_eq hu (by decide), eq_zero hu]; exact z)]; rw [if_pos (.inl z)] at k; exact k
      · rw [if_neg (by rw [cvl_eq hu (by decide), eq_zero hu]; exact z)]
        rw [if_neg (fun q => q.elim z a)] at k
        have fu : nE u ≠ 2047 := by
          intro e; unfold nSc at a; rw [e] at a; exact a (by decide)
        have dl := d2l_N hu fu
        by_cases b : nSc u < 1023
        · rw [if_pos b] at k
          rw [tr_small b] at dl
          have d : FP.d2l (dN u) = 0 := by
            apply Int64.toInt_inj.mp; rw [dl]; cases nS u <;> decide
          rw [d, l2d_0]
          by_cases s : u < 2 ^ 63
          · rw [if_pos s] at k
            rw [if_pos (by rw [cvl_le (by decide) hu, lt_zero hu n]; omega), if_pos (by rw [cvl_eq (by decide) (by decide), eq_zero (by decide)]), if_neg (by rw [cvl_le hu (by decide), gt_zero hu n]; omega)]
            exact k
          · rw [if_neg s] at k
            rw [if_neg (by rw [cvl_le (by decide) hu, lt_zero hu n]; omega), dsub_N (by decide) (by decide), show FP.Core.add FP.Core.b64 0 (flip 4607182418800017408) = 13830554455654793216 by decide +kernel]
            exact ⟨(n64_N (by decide)).mpr (by decide), k⟩
        · rw [if_neg b] at k
          have hc := whole_cut hu (by omega) (by omega)
          have h1 := tr_lo (u := u) (s0 := 1074) (by omega) (by decide) (by decide)
          have h2 := tr_hi (u := u) (s0 := 1023) (by omega) (by decide) (by decide)
          rw [show (2 : Nat) ^ (1074 - 1022) = 2 ^ 52 from rfl] at h1
          rw [show (2 : Nat) ^ (1023 - 1023) = 1 from rfl] at h2
          have dl2 : (FP.d2l (dN u)).toInt = FP.Core.signed (nS u) (tr u) := by
            rw [dl]; cases nS u
            · rw [sgd_p]; omega
            · rw [sgd_n]; omega
          have hne : (FP.d2l (dN u)).toInt ≠ 0 := by
            rw [dl2]; cases nS u
            · rw [sgd_p]; omega
            · rw [sgd_n]; omega
          have hW := Nat.lt_of_le_of_lt hc.1 hu
          have dW : FP.l2d (FP.d2l (dN u)) = dN (u / 2 ^ (1075 - nSc u) * 2 ^ (1075 - nSc u)) := l2d_of hW hne (by rw [dl2]; exact hc.2.1)
          have DW : FP.Core.DInt (FP.Core.signed (nS u) (tr u)) (dN (u / 2 ^ (1075 - nSc u) * 2 ^ (1075 - nSc u))) := by
            unfold FP.Core.DInt FP.Core.val64; rw [dN_nat hW]; exact hc.2.1
          have nW : ¬ isN (u / 2 ^ (1075 - nSc u) * 2 ^ (1075 - nSc u)) := by
            intro q; have := hc.2.1; rw [dec_nan q] at this; exact this
          have c1' := whole_cut1 (u := u) hu (by omega) (by omega)
          rw [dW]
          by_cases s : u < 2 ^ 63
          · rw [if_pos s] at k
            generalize u / 2 ^ (1075 - nSc u) * 2 ^ (1075 - nSc u) = w at *
            rw [if_pos (by
              rw [cvl_le hW hu]; rintro ⟨_, _, q⟩
              rcases rk_cases u with ⟨x, y⟩ | ⟨x, y⟩ <;> rcases rk_cases w with ⟨x2, y2⟩ | ⟨x2, y2⟩ <;> rw [y, y2] at q <;> omega), if_neg (by rw [cvl_eq hW (by decide), eq_zero hW]; omega)]
            exact k
          · rw [if_neg s] at k
            by_cases q : u / 2 ^ (1075 - nSc u) * 2 ^ (1075 - nSc u) = u
            · have e3 : (u + (2 ^ (1075 - nSc u) - 1)) / 2 ^ (1075 - nSc u) * 2 ^ (1075 - nSc u) = u := by
                have p := Nat.two_pow_pos (1075 - nSc u)
                have : u + (2 ^ (1075 - nSc u) - 1) = 2 ^ (1075 - nSc u) * (u / 2 ^ (1075 - nSc u)) + (2 ^ (1075 - nSc u) - 1) := by
                  rw [Nat.mul_comm (2 ^ (1075 - nSc u)), q]
                have z0 : (2 ^ (1075 - nSc u) - 1) / 2 ^ (1075 - nSc u) = 0 := Nat.div_eq_of_lt (by omega)
                rw [this, Nat.mul_add_div p, z0, Nat.add_zero, q]
              rw [e3] at k
              rw [q, if_pos (by rw [cvl_le hu hu]; exact fun z => absurd z.2.2 (by omega)), if_neg (by rw [cvl_eq hu (by decide), eq_zero hu]; exact z)]
              exact k
            · have c2 := c1' q
              have sn := sg_neg (by omega) hu
              rw [if_neg (by
                rw [cvl_le hW hu]; refine nn ⟨n, nW, ?_⟩
                have hle := hc.1
                have hs := hc.2.2.1
                generalize u / 2 ^ (1075 - nSc u) * 2 ^ (1075 - nSc u) = w at *
                have : 2 ^ 63 ≤ w := by
                  refine Nat.le_of_not_lt fun z => ?_
                  rw [sg_pos z, sn] at hs; cases hs
                rcases rk_cases u with ⟨x, y⟩ | ⟨x, y⟩ <;> rcases rk_cases w with ⟨x2, y2⟩ | ⟨x2, y2⟩ <;> rw [y, y2] <;> omega)]
              have D2 : FP.Core.DInt (FP.Core.signed (nS u) (tr u) - 1) (FP.dsub (dN (u / 2 ^ (1075 - nSc u) * 2 ^ (1075 - nSc u))) (dN 4607182418800017408)) :=
                FP.Core.dsub_int DW one_int (by rw [sn, sgd_n]; omega)
              have D3 : FP.Core.DInt (FP.Core.signed (nS u) (tr u) - 1) (dN ((u + (2 ^ (1075 - nSc u) - 1)) / 2 ^ (1075 - nSc u) * 2 ^ (1075 - nSc u))) := by
                unfold FP.Core.DInt FP.Core.val64; rw [dN_nat c2.1]
                have := c2.2
                rw [sn, sgd_n] at this
                rw [sn, sgd_n, show -(tr u : Int) - 1 = -((tr u + 1 : Nat) : Int) by omega]; exact this
              rw [FP.Core.dint_unique (by rw [sn, sgd_n]; omega) D2 D3]
              refine ⟨(n64_N c2.1).mpr fun q => ?_, k⟩
              have := c2.2; rw [dec_nan q] at this; exact this
def sCut (u L G : Nat) : Nat := if isN u ∨ nSc u < 1023 then 0 else if ¬ bLt u G then G else if ¬ bLt L u then L else if 1075 ≤ nSc u then u else u / 2 ^ (1075 - nSc u) * 2 ^ (1075 - nSc u)
theorem c_cut {u L G : Nat} (hu : u < 2 ^ 64) (hL : L < 2 ^ 64) (hG : G < 2 ^ 64) : fX1_cut (lN u) (lN L) (lN G) = lN (sCut u L G) := by
  unfold fX1_cut sCut
  have hs := nSc_le u
  rw [c_isNone hu, r_scale hu, c_below hu hG, c_below hL hu, show (1075 : Int32) = nI 1075 from rfl, show (1023 : Int32) = nI 1023 from rfl]
  by_cases n : isN u
  · rw [if_pos n, if_neg (by decide), if_pos (.inl n)]; rfl
  · rw [if_neg n, if_pos rfl]
    by_cases b : nSc u < 1023
    · rw [if_neg (by rw [nI_le' (by decide) (by omega)]; omega), if_pos (.inr b)]; rfl
    · rw [if_pos (by rw [nI_le' (by decide) (by omega)]; omega), if_neg (show ¬ (isN u ∨ nSc u < 1023) from fun z => z.elim n b)]
      by_cases g : bLt u G
      · rw [if_pos g, if_neg (by decide), if_neg (nn g)]
        by_cases l : bLt L u
        · rw [if_pos l, if_neg (by decide), if_neg (nn l)]
          by_cases a : 1075 ≤ nSc u
          · rw [if_neg (by rw [nI_lt' (by omega) (by decide)]; omega), if_pos a]
          · rw [if_pos (by rw [nI_lt' (by omega) (by decide)]; omega), if_neg a, c_behind (by omega) (by omega), c_andn hu (by omega)]
        · rw [if_neg l, if_pos rfl, if_pos l]
      · rw [if_neg g, if_pos rfl, if_pos g]
