/-! through a float, of the machine -/
theorem b32_qmin : FP.Core.b32.qmin = -149 := by decide
theorem b32_qmax : FP.Core.b32.qmax = 104 := by decide
theorem b32_p : FP.Core.b32.p = 24 := rfl
theorem b32_tails : FP.Core.b32.tails = 2 ^ 23 := by decide
theorem rz64 (s : Bool) (q : Int) : FP.Core.round FP.Core.b64 (.fin s 0 q) = .fin s 0 (-1074) := by
  show FP.Core.roundRatio FP.Core.b64 s 0 1 q = _
  rw [rr_zero, b64_qmin]
theorem dec_sg {u : Nat} (hu : u < 2 ^ 64) : FP.Core.decode FP.Core.b64 (u / 2 ^ 63 * 2 ^ 63) = .fin (nS u) 0 (-1074) := by
  have h : u / 2 ^ 63 = 0 ∨ u / 2 ^ 63 = 1 := by omega
  unfold nS
  rcases h with h | h <;> rw [h] <;> decide
theorem nearest_small {A B : Nat} (h : 2 * A < B) : FP.Core.nearest A B = 0 := by
  unfold FP.Core.nearest
  rw [Nat.mod_eq_of_lt (by omega), if_pos h, Nat.div_eq_of_lt (by omega)]
/-- the exponent of a float's last digit -/
theorem tf_q {u : Nat} (h : 2 ^ 52 ≤ nFr u) : FP.Core.quantum FP.Core.b32 (nFr u) 1 ((nSc u : Int) - 1075) = (nSc u : Int) - 1075 + (tfD u : Nat) := by
  unfold FP.Core.quantum
  rw [lead1 (L := 52) h (nFr_lt u), b32_qmin, b32_p]
  unfold tfD; omega
theorem tf_round {u : Nat} (h : 2 ^ 52 ≤ nFr u) (s : Bool) : FP.Core.roundRatio FP.Core.b32 s (nFr u) 1 ((nSc u : Int) - 1075) = FP.Core.settle FP.Core.b32 s (FP.Core.nearest (nFr u) (2 ^ tfD u)) ((nSc u : Int) - 1075 + (tfD u : Nat)) := by
  unfold FP.Core.roundRatio
  rw [if_neg (by omega), tf_q h]
  unfold FP.Core.roundAt FP.Core.unitsNum FP.Core.unitsDen
  rw [show (((nSc u : Int) - 1075) - ((nSc u : Int) - 1075 + (tfD u : Nat))).toNat = 0 by omega, show (((nSc u : Int) - 1075 + (tfD u : Nat)) - ((nSc u : Int) - 1075)).toNat = tfD u by omega, Nat.pow_zero, Nat.mul_one, Nat.one_mul]
theorem ex64 {s : Bool} {c : Nat} {q : Int} (h1 : 2 ^ 52 ≤ c) (h2 : c < 2 ^ 53) (h3 : -1074 ≤ q) (h4 : q ≤ 971) : FP.Core.roundRatio FP.Core.b64 s c 1 q = .fin s c q := by
  refine FP.Core.roundRatio_exact FP.Core.good_b64 (by decide) ⟨by rw [b64_p]; exact h2, by rw [b64_qmin]; exact h3, by rw [b64_qmax]; exact h4, .inr (by rw [b64_tails]; exact h1)⟩ (by simp)
theorem dec_w {u K : Nat} (hu : u < 2 ^ 64) (fu : nE u ≠ 2047) (h1 : 2 ^ 52 ≤ K) (h2 : K < 2 ^ 53) : FP.Core.decode FP.Core.b64 (u / 2 ^ 63 * 2 ^ 63 + ((nSc u - 1) * 2 ^ 52 + K)) = .fin (nS u) K ((nSc u : Int) - 1075) := by
  have hs := nSc_lt fu
  have hp := nSc_pos u
  obtain ⟨w, hW⟩ : ∃ w, w = u / 2 ^ 63 * 2 ^ 63 + ((nSc u - 1) * 2 ^ 52 + K) := ⟨_, rfl⟩
  rw [← hW]
  have hb : u / 2 ^ 63 = 0 ∨ u / 2 ^ 63 = 1 := by omega
  have e1 : nE w = nSc u := by unfold nE; omega
  have e2 : nS w = nS u := by unfold nS; rw [show w / 2 ^ 63 = u / 2 ^ 63 by omega]
  have e3 : nFr w = K := by unfold nFr; rw [if_neg (by omega)]; omega
  have e4 : nSc w = nSc u := by unfold nSc; rw [if_neg (by omega), e1]; unfold nSc; rfl
  rw [dec_fin (by omega), e2, e3, e4]
theorem dec_w2 {u : Nat} (hu : u < 2 ^ 64) (fu : nE u ≠ 2047) (h1 : nSc u ≤ 2045) : FP.Core.decode FP.Core.b64 (u / 2 ^ 63 * 2 ^ 63 + ((nSc u - 1) * 2 ^ 52 + 2 ^ 53)) = .fin (nS u) (2 ^ 52) ((nSc u : Int) - 1074) := by
  have hp := nSc_pos u
  obtain ⟨w, hW⟩ : ∃ w, w = u / 2 ^ 63 * 2 ^ 63 + ((nSc u - 1) * 2 ^ 52 + 2 ^ 53) := ⟨_, rfl⟩
  rw [← hW]
  have hb : u / 2 ^ 63 = 0 ∨ u / 2 ^ 63 = 1 := by omega
  have e1 : nE w = nSc u + 1 := by unfold nE; omega
  have e2 : nS w = nS u := by unfold nS; rw [show w / 2 ^ 63 = u / 2 ^ 63 by omega]
  have e3 : nFr w = 2 ^ 52 := by unfold nFr; rw [if_neg (by omega)]; omega
  have e4 : nSc w = nSc u + 1 := by rw [sc_of (by omega), e1]
  rw [dec_fin (by omega), e2, e3, e4]
  congr 1; omega
theorem dec_wI {u : Nat} (hu : u < 2 ^ 64) : FP.Core.decode FP.Core.b64 (u / 2 ^ 63 * 2 ^ 63 + 9218868437227405312) = .inf (nS u) := by
  have h : u / 2 ^ 63 = 0 ∨ u / 2 ^ 63 = 1 := by omega
  unfold nS
  rcases h with h | h <;> rw [h] <;> decide
theorem r53 {s : Bool} {e : Int} (h3 : -1075 ≤ e) (h4 : e ≤ 970) : FP.Core.roundRatio FP.Core.b64 s (2 ^ 53) 1 e = .fin s (2 ^ 52) (e + 1) := by
  rw [← ex64 (s := s) (c := 2 ^ 52) (q := e + 1) (by decide) (by decide) (by omega) (by omega), rr_up (A := 2 ^ 52) 1 (by decide), show e + 1 - ((1 : Nat) : Int) = e by omega]
theorem tf_val {u : Nat} (hu : u < 2 ^ 64) (n : ¬ isN u) : FP.Core.decode FP.Core.b64 (sTf u) = FP.Core.round FP.Core.b64 (FP.Core.round FP.Core.b32 (FP.Core.decode FP.Core.b64 u)) ∧ sTf u < 2 ^ 64 := by
  unfold sTf
  rcases sc_dec u with f | f | f
  · have fu := fin_iff.mp f
    by_cases z : u % 2 ^ 63 = 0
    · rw [if_pos (.inr z)]
      refine ⟨?_, hu⟩
      have e : u = u / 2 ^ 63 * 2 ^ 63 := by omega
      have d := dec_sg hu
      rw [← e] at d
      rw [d]
      show _ = FP.Core.round FP.Core.b64 (FP.Core.roundRatio FP.Core.b32 (nS u) 0 1 (-1074))
      unfold FP.Core.roundRatio
      rw [if_pos rfl, rz64]
    · rw [if_neg (show ¬ (¬ u % 2 ^ 63 < 9218868437227405312 ∨ u % 2 ^ 63 = 0) from fun q => q.elim (fun k => k f) z), dec_fin fu]
      have hs := nSc_lt fu
      have hp := nSc_pos u
      have hf := nFr_lt u
      have h0 : nFr u ≠ 0 := by have := nFr_pos z; omega
      show _ = FP.Core.round FP.Core.b64 (FP.Core.roundRatio FP.Core.b32 (nS u) (nFr u) 1 ((nSc u : Int) - 1075)) ∧ _
      have hb : u / 2 ^ 63 = 0 ∨ u / 2 ^ 63 = 1 := by omega
      by_cases full : 2 ^ 52 ≤ nFr u
      · rw [tf_round full]
        have hD : 29 ≤ tfD u := by unfold tfD; omega
        have hq : (nSc u : Int) - 1075 + (tfD u : Nat) = max (-149) ((nSc u : Int) - 1046) := by unfold tfD; omega
        by_cases d : 53 < tfD u
        · rw [if_pos d, dec_sg hu]
          have : 2 ^ 54 ≤ 2 ^ tfD u := Nat.pow_le_pow_right (by decide) (by omega)
          rw [nearest_small (by omega)]
          unfold FP.Core.settle FP.Core.bound
          rw [if_pos (by decide), if_pos (by rw [b32_qmax]; unfold tfD at *; omega), rz64]
          exact ⟨rfl, by omega⟩
        · rw [if_neg d]
          have hD2 : tfD u ≤ 53 := by omega
          unfold tfT tfK
          have hdd : tfD u = 29 ∨ (29 < tfD u ∧ tfD u = 926 - nSc u) := by unfold tfD at *; omega
          have pp := Nat.two_pow_pos (tfD u)
          have ee : 2 ^ 53 = 2 ^ (53 - tfD u) * 2 ^ tfD u := by rw [← Nat.pow_add]; congr 1; omega
          have hdlt : nFr u / 2 ^ tfD u < 2 ^ (53 - tfD u) := (Nat.div_lt_iff_lt_mul pp).mpr (by rw [← ee]; exact hf)
          have p24 : 2 ^ (53 - tfD u) ≤ 2 ^ 24 := Nat.pow_le_pow_right (by decide) (by omega)
          have hn1 : FP.Core.nearest (nFr u) (2 ^ tfD u) ≤ nFr u / 2 ^ tfD u + 1 ∧ nFr u / 2 ^ tfD u ≤ FP.Core.nearest (nFr u) (2 ^ tfD u) := by
            unfold FP.Core.nearest
            split
            · omega
            · split <;> omega
          obtain ⟨N, hN⟩ : ∃ N, N = FP.Core.nearest (nFr u) (2 ^ tfD u) := ⟨_, rfl⟩
          rw [← hN] at hn1 ⊢
          have hKle : N * 2 ^ tfD u ≤ 2 ^ 53 := by
            conv => rhs; rw [ee]
            exact Nat.mul_le_mul_right _ (by omega)
          by_cases n0 : N = 0
          · subst n0
            rw [if_pos (Nat.zero_mul _), dec_sg hu]
            have hlow : nSc u ≤ 900 := by
              rcases hdd with h | h
              · exfalso
                have h1 : nFr u / 2 ^ tfD u = 0 := Nat.le_zero.mp hn1.2
                rw [h] at h1; omega
              · omega
            unfold FP.Core.settle FP.Core.bound
            rw [if_pos (by decide), if_pos (by rw [b32_qmax]; omega), rz64]
            exact ⟨rfl, by omega⟩
          · have hKge : 2 ^ 52 ≤ N * 2 ^ tfD u := by
              by_cases q : tfD u = 53
              · rw [q]
                have := Nat.mul_le_mul_right (2 ^ 53) (show 1 ≤ N by omega)
                omega
              · have e52 : 2 ^ 52 = 2 ^ (52 - tfD u) * 2 ^ tfD u := by rw [← Nat.pow_add]; congr 1; omega
                have : 2 ^ (52 - tfD u) ≤ nFr u / 2 ^ tfD u := (Nat.le_div_iff_mul_le pp).mpr (by rw [← e52]; exact full)
                conv => lhs; rw [e52]
                exact Nat.mul_le_mul_right _ (by omega)
            rw [if_neg (by omega)]
            have rrK : FP.Core.roundRatio FP.Core.b64 (nS u) N 1 ((nSc u : Int) - 1075 + (tfD u : Nat)) = FP.Core.roundRatio FP.Core.b64 (nS u) (N * 2 ^ tfD u) 1 ((nSc u : Int) - 1075) := by
              rw [rr_up (tfD u) (by decide), show (nSc u : Int) - 1075 + (tfD u : Nat) - (tfD u : Nat) = (nSc u : Int) - 1075 by omega]
            unfold FP.Core.settle
            rw [b32_p]
            by_cases c24 : N < 2 ^ 24
            · rw [if_pos c24]
              unfold FP.Core.bound
              rw [b32_qmax]
              by_cases ov : nSc u ≤ 1150
              · rw [if_pos (show (nSc u : Int) - 1075 + (tfD u : Nat) ≤ 104 by omega)]
                show _ = FP.Core.roundRatio FP.Core.b64 (nS u) N 1 _ ∧ _
                rw [rrK]
                by_cases K53 : N * 2 ^ tfD u < 2 ^ 53
                · rw [ex64 hKge K53 (by omega) (by omega), if_pos (by omega), dec_w hu fu hKge K53]
                  exact ⟨rfl, by omega⟩
                · have hd30 : 29 < tfD u := by
                    rcases hdd with h | h
                    · rw [h] at K53; omega
                    · omega
                  have K53' : N * 2 ^ tfD u = 2 ^ 53 := by omega
                  rw [K53', if_pos (by omega), dec_w2 hu fu (by omega), r53 (by omega) (by omega)]
                  exact ⟨by congr 1; omega, by omega⟩
              · rw [if_neg (show ¬ (nSc u : Int) - 1075 + (tfD u : Nat) ≤ 104 by omega), if_neg (by omega), dec_wI hu]
                exact ⟨rfl, by omega⟩
            · rw [if_neg c24]
              have hd29 : tfD u = 29 := by
                rcases hdd with h | h
                · exact h
                · exfalso
                  have : 2 ^ (53 - tfD u) ≤ 2 ^ 23 := Nat.pow_le_pow_right (by decide) (by omega)
                  omega
              have N24 : N = 2 ^ 24 := by rw [hd29] at hdlt hn1; omega
              rw [N24, hd29]
              unfold FP.Core.bound
              rw [b32_qmax, b32_tails]
              by_cases ov : nSc u ≤ 1149
              · rw [if_pos (show (nSc u : Int) - 1075 + (29 : Nat) + 1 ≤ 104 by omega), if_pos (by omega), show 2 ^ 24 * 2 ^ 29 = 2 ^ 53 from rfl, dec_w2 hu fu (by omega)]
                refine ⟨?_, by omega⟩
                show _ = FP.Core.roundRatio FP.Core.b64 (nS u) (2 ^ 23) 1 _
                rw [rr_up 29 (by decide), show (nSc u : Int) - 1075 + (29 : Nat) + 1 - (29 : Nat) = (nSc u : Int) - 1074 by omega, show 2 ^ 23 * 2 ^ 29 = 2 ^ 52 from rfl, ex64 (by decide) (by decide) (by omega) (by omega)]
              · rw [if_neg (show ¬ (nSc u : Int) - 1075 + (29 : Nat) + 1 ≤ 104 by omega), if_neg (by omega), dec_wI hu]
                exact ⟨rfl, by omega⟩
      · have h1 : nSc u = 1 := by
          refine Nat.le_antisymm (Nat.le_of_not_lt fun q => full (nFr_full q)) hp
        have hD : tfD u = 925 := by unfold tfD; rw [h1]; rfl
        rw [if_pos (by omega), dec_sg hu]
        refine ⟨?_, by omega⟩
        have hlog : (nFr u).log2 < 52 := (Nat.log2_lt h0).mpr (by omega)
        have hq : FP.Core.quantum FP.Core.b32 (nFr u) 1 ((nSc u : Int) - 1075) = -149 := by
          unfold FP.Core.quantum
          rw [lead1 (L := (nFr u).log2) (Nat.log2_self_le h0) Nat.lt_log2_self, b32_qmin, b32_p, h1]; omega
        unfold FP.Core.roundRatio
        rw [if_neg h0, hq]
        unfold FP.Core.roundAt FP.Core.unitsNum FP.Core.unitsDen
        rw [h1]
        rw [show ((((1 : Nat) : Int) - 1075) - (-149)).toNat = 0 by decide, show ((-149) - (((1 : Nat) : Int) - 1075)).toNat = 925 by decide, Nat.pow_zero, Nat.mul_one, Nat.one_mul]
        have hbig : 2 ^ 54 ≤ 2 ^ 925 := Nat.pow_le_pow_right (by decide) (by decide)
        rw [nearest_small (by omega)]
        unfold FP.Core.settle FP.Core.bound
        rw [if_pos (by decide), if_pos (by decide), rz64]
  · rw [if_pos (.inl (by omega)), dec_inf f]
    exact ⟨rfl, hu⟩
  · exact absurd f n
theorem nan32 {n : Nat} (h : 0x7f800000 < n % 2 ^ 31) : FP.Core.decode FP.Core.b32 n = .nan := by
  unfold FP.Core.decode FP.Core.fieldE FP.Core.fieldT FP.Core.fieldS
  rw [b32_tails, show FP.Core.b32.exps = 256 by decide]
  rw [if_pos (by omega), if_neg (by omega)]
theorem n32_of {x : UInt32} (h : FP.Core.fIsNaN x = false) : vf_n32 x := by
  unfold vf_n32
  rw [UInt32.le_iff_toNat_le, UInt32.toNat_and, show (0x7fffffff : UInt32).toNat = 2 ^ 31 - 1 from rfl, Nat.and_two_pow_sub_one_eq_mod]
  show _ ≤ 0x7f800000
  refine Nat.le_of_not_lt fun q => ?_
  unfold FP.Core.fIsNaN FP.Core.isNaN at h
  rw [nan32 q] at h
  exact absurd h (by decide)
theorem m_tf {u : Nat} (hu : u < 2 ^ 64) (n : ¬ isN u) {kr : UInt64 → Prop} (k : kr (dN (sTf u))) : vf_n32 (FP.d2f (dN u)) ∧ (vf_n64 (FP.f2d (FP.d2f (dN u))) ∧ kr (FP.f2d (FP.d2f (dN u)))) := by
  have h1 : FP.Core.dIsNaN (dN u) = false := by
    cases e : FP.Core.dIsNaN (dN u)
    · rfl
    · exact absurd ((dnan_N hu).mp e) n
  have e1 : FP.d2f (dN u) = FP.Core.d2f (dN u) := by unfold FP.d2f; rw [h1]; rfl
  have h2 : FP.Core.fIsNaN (FP.Core.d2f (dN u)) = false := by rw [FP.Core.d2f_nan]; exact h1
  have e2 : FP.f2d (FP.Core.d2f (dN u)) = FP.Core.f2d (FP.Core.d2f (dN u)) := by unfold FP.f2d; rw [h2]; rfl
  have t := tf_val hu n
  have e3 : FP.Core.f2d (FP.Core.d2f (dN u)) = dN (sTf u) := by
    refine FP.Core.val64_inj ?_ ?_
    · rw [← FP.Core.notNaN_iff, FP.Core.f2d_nan]; exact h2
    · rw [FP.Core.val64_f2d, FP.Core.val32_d2f]
      unfold FP.Core.val64
      rw [dN_nat hu, dN_nat t.2, t.1]
  rw [e1, e2, e3]
  refine ⟨n32_of h2, (n64_N t.2).mpr ?_, k⟩
  rw [← dnan_N t.2, ← e3, FP.Core.f2d_nan, h2]
  decide
theorem sTf_cn {u : Nat} (h : Cn u) : Cn (sTf u) := by
  by_cases n : isN u
  · unfold sTf; rw [if_pos (.inl (by omega))]; exact h
  · have t := tf_val h.1 n
    refine ⟨t.2, fun q => ?_⟩
    have h1 := t.1
    rw [dec_nan q] at h1
    have h2 := FP.Core.round_nan.mp h1.symm
    have h3 := FP.Core.round_nan.mp h2
    exact absurd (nan_dec.mp h3) n
