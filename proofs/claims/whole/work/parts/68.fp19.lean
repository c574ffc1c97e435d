/-! cuts to int and long -/
theorem tr_big {u : Nat} (h : 1075 ≤ nSc u) : tr u = nFr u * 2 ^ (nSc u - 1075) := by
  unfold tr; rw [show 1075 - nSc u = 0 by omega, Nat.pow_zero, Nat.div_one]
theorem sc_of {u : Nat} (h : 1 ≤ nE u) : nSc u = nE u := by unfold nSc; rw [if_neg (by omega)]
theorem sc1_of {u : Nat} (h : 2 ≤ nSc u) : nSc u = nE u := by unfold nSc at h ⊢; split at h <;> split <;> omega
theorem lt_pos {u G : Nat} (hu : u < 2 ^ 63) (nu : ¬ isN u) (hG : G < 2 ^ 63) (nG : ¬ isN G) : bLt u G ↔ u < G := by
  unfold bLt rk; rw [if_neg (by omega), if_neg (by omega)]; constructor
  · intro h; have := h.2.2; omega
  · intro h; exact ⟨nu, nG, by omega⟩
theorem lt_neg {u G : Nat} (hu : 2 ^ 63 ≤ u) (nu : ¬ isN u) (hG : 2 ^ 63 ≤ G) (nG : ¬ isN G) : bLt u G ↔ G < u := by
  unfold bLt rk; rw [if_pos (by omega), if_pos (by omega)]; constructor
  · intro h; have := h.2.2; omega
  · intro h; exact ⟨nu, nG, by omega⟩
theorem lt_np {u G : Nat} (hu : 2 ^ 63 ≤ u) (nu : ¬ isN u) (hG : G < 2 ^ 63) (h0 : 0 < G) (nG : ¬ isN G) : bLt u G := by
  unfold bLt rk; rw [if_pos (by omega), if_neg (by omega)]; exact ⟨nu, nG, by omega⟩
theorem inf_two {u : Nat} (hu : u < 2 ^ 64) (h : isI u) : u = 9218868437227405312 ∨ u = 18442240474082181120 := by omega
set_option maxHeartbeats 1000000 in
theorem i_cut {u : Nat} (hu : u < 2 ^ 64) (n : ¬ isN u) : FP.i2d (FP.d2i (dN u)) = dN (sCut u 13970166044103278592 4746794007244308480) := by
  rcases sc_dec u with f | f | f
  · have fu := fin_iff.mp f
    have di := d2i_N hu fu
    have hE := nE_mag u
    unfold sCut
    by_cases b : nSc u < 1023
    · rw [if_pos (.inr b)]
      rw [tr_small b] at di
      have d : FP.d2i (dN u) = 0 := by apply Int32.toInt_inj.mp; rw [di]; cases nS u <;> decide
      rw [d]; exact i2d_0
    · rw [if_neg (show ¬ (isN u ∨ nSc u < 1023) from fun z => z.elim n b)]
      have hs := sc1_of (u := u) (by omega)
      have fin : nSc u ≤ 1053 → tr u < 2 ^ 31 → (nS u = true → True) → ((nS u = false) → tr u < 2 ^ 31 - 1 ∨ tr u = 2 ^ 31 - 1) → FP.i2d (FP.d2i (dN u)) = dN (u / 2 ^ (1075 - nSc u) * 2 ^ (1075 - nSc u)) := by
        intro h1 h2 _ _
        have hc := whole_cut hu (by omega) (by omega)
        have h3 := tr_hi (u := u) (s0 := 1023) (by omega) (by decide) (by decide)
        rw [show (2 : Nat) ^ (1023 - 1023) = 1 from rfl] at h3
        have dl2 : (FP.d2i (dN u)).toInt = FP.Core.signed (nS u) (tr u) := by
          rw [di]; cases nS u
          · rw [sgd_p]; omega
          · rw [sgd_n]; omega
        refine i2d_of (Nat.lt_of_le_of_lt hc.1 hu) ?_ (by rw [dl2]; exact hc.2.1)
        rw [dl2]; cases nS u
        · rw [sgd_p]; omega
        · rw [sgd_n]; omega
      by_cases s : u < 2 ^ 63
      · have sn := sg_pos s
        by_cases g : u < 4746794007244308480
        · rw [if_neg (nn ((lt_pos s n (by decide) (by decide)).mpr g)), if_neg (nn (lt_np (by decide) (by decide) s (by omega) n)), if_neg (by omega)]
          have h1 : nSc u ≤ 1053 := by omega
          have := tr_lo (u := u) (s0 := 1053) h1 (by decide) (by decide)
          rw [show (2 : Nat) ^ (1053 - 1022) = 2 ^ 31 from rfl] at this
          exact fin h1 this (fun _ => trivial) (fun _ => by omega)
        · rw [if_pos (fun z => g ((lt_pos s n (by decide) (by decide)).mp z))]
          have ht : 2 ^ 31 - 1 ≤ tr u := by
            by_cases q : 1054 ≤ nSc u
            · have := tr_hi (u := u) (s0 := 1054) q (by decide) (by decide)
              rw [show (2 : Nat) ^ (1054 - 1023) = 2 ^ 31 from rfl] at this; omega
            · have q2 : nSc u = 1053 := by omega
              have := (fr_cut (u := u) (by omega) (by omega)).1
              rw [q2] at this
              rw [this]
              omega
          have d : FP.d2i (dN u) = 2147483647 := by
            apply Int32.toInt_inj.mp; rw [di, sn, sgd_p]
            show _ = (2147483647 : Int); omega
          rw [d]; decide +kernel
      · have sn := sg_neg (by omega) hu
        rw [if_neg (nn (lt_np (by omega) n (by decide) (by decide) (by decide)))]
        by_cases g : u < 13970166044103278592
        · rw [if_neg (nn ((lt_neg (by decide) (by decide) (by omega) n).mpr g)), if_neg (by omega)]
          have h1 : nSc u ≤ 1053 := by omega
          have := tr_lo (u := u) (s0 := 1053) h1 (by decide) (by decide)
          rw [show (2 : Nat) ^ (1053 - 1022) = 2 ^ 31 from rfl] at this
          exact fin h1 this (fun _ => trivial) (fun _ => by omega)
        · rw [if_pos (fun z => g ((lt_neg (by decide) (by decide) (by omega) n).mp z))]
          have ht : 2 ^ 31 ≤ tr u := by
            by_cases q : 1075 ≤ nSc u
            · have := tr_hi (u := u) (s0 := 1075) q (by decide) (by decide)
              rw [show (2 : Nat) ^ (1075 - 1023) = 2 ^ 52 from rfl] at this; omega
            · have := tr_hi (u := u) (s0 := 1054) (by omega) (by decide) (by decide)
              rw [show (2 : Nat) ^ (1054 - 1023) = 2 ^ 31 from rfl] at this; omega
          have d : FP.d2i (dN u) = -2147483648 := by
            apply Int32.toInt_inj.mp; rw [di, sn, sgd_n]
            show _ = (-2147483648 : Int); omega
          rw [d]; decide +kernel
  · rcases inf_two hu f with e | e <;> subst e <;> decide +kernel
  · exact absurd f n
set_option maxHeartbeats 1000000 in
theorem l_cut {u : Nat} (hu : u < 2 ^ 64) (n : ¬ isN u) : FP.l2d (FP.d2l (dN u)) = dN (sCut u 14114281232179134464 4890909195324358656) := by
  rcases sc_dec u with f | f | f
  · have fu := fin_iff.mp f
    have di := d2l_N hu fu
    have hE := nE_mag u
    unfold sCut
    by_cases b : nSc u < 1023
    · rw [if_pos (.inr b)]
      rw [tr_small b] at di
      have d : FP.d2l (dN u) = 0 := by apply Int64.toInt_inj.mp; rw [di]; cases nS u <;> decide
      rw [d]; exact l2d_0
    · rw [if_neg (show ¬ (isN u ∨ nSc u < 1023) from fun z => z.elim n b)]
      have hs := sc1_of (u := u) (by omega)
      have hf := nFr_lt u
      have hff := nFr_full (u := u) (by omega)
      have fin : nSc u ≤ 1085 → FP.l2d (FP.d2l (dN u)) = dN (if 1075 ≤ nSc u then u else u / 2 ^ (1075 - nSc u) * 2 ^ (1075 - nSc u)) := by
        intro h1
        have h3 : 1 ≤ tr u := by
          by_cases q : 1075 ≤ nSc u
          · have := tr_hi (u := u) (s0 := 1075) q (by decide) (by decide)
            rw [show (2 : Nat) ^ (1075 - 1023) = 2 ^ 52 from rfl] at this; omega
          · have h3 := tr_hi (u := u) (s0 := 1023) (by omega) (by decide) (by decide)
            rw [show (2 : Nat) ^ (1023 - 1023) = 1 from rfl] at h3; omega
        have h4 : tr u < 2 ^ 63 := by
          by_cases q : 1075 ≤ nSc u
          · rw [tr_big q]
            have : 2 ^ (nSc u - 1075) ≤ 2 ^ 10 := Nat.pow_le_pow_right (by decide) (by omega)
            have := Nat.mul_lt_mul_of_lt_of_le hf this (by decide)
            omega
          · have h3 := tr_lo (u := u) (s0 := 1075) (by omega) (by decide) (by decide)
            rw [show (2 : Nat) ^ (1075 - 1022) = 2 ^ 53 from rfl] at h3; omega
        have dl2 : (FP.d2l (dN u)).toInt = FP.Core.signed (nS u) (tr u) := by
          rw [di]; cases nS u
          · rw [sgd_p]; omega
          · rw [sgd_n]; omega
        have h0 : (FP.d2l (dN u)).toInt ≠ 0 := by
          rw [dl2]; cases nS u
          · rw [sgd_p]; omega
          · rw [sgd_n]; omega
        by_cases q : 1075 ≤ nSc u
        · rw [if_pos q]
          refine l2d_of hu h0 ?_
          rw [dl2, dec_fin fu, tr_big q]
          exact whole_up (by omega)
        · rw [if_neg q]
          have hc := whole_cut hu (by omega) (by omega)
          exact l2d_of (Nat.lt_of_le_of_lt hc.1 hu) h0 (by rw [dl2]; exact hc.2.1)
      have big : 1086 ≤ nSc u → 2 ^ 63 ≤ tr u := by
        intro q
        rw [tr_big (by omega)]
        have : 2 ^ 11 ≤ 2 ^ (nSc u - 1075) := Nat.pow_le_pow_right (by decide) (by omega)
        have := Nat.mul_le_mul hff this
        omega
      by_cases s : u < 2 ^ 63
      · have sn := sg_pos s
        by_cases g : u < 4890909195324358656
        · rw [if_neg (nn ((lt_pos s n (by decide) (by decide)).mpr g)), if_neg (nn (lt_np (by decide) (by decide) s (by omega) n))]
          exact fin (by omega)
        · rw [if_pos (fun z => g ((lt_pos s n (by decide) (by decide)).mp z))]
          have ht := big (by omega)
          have d : FP.d2l (dN u) = 9223372036854775807 := by
            apply Int64.toInt_inj.mp; rw [di, sn, sgd_p]
            show _ = (9223372036854775807 : Int); omega
          rw [d]; decide +kernel
      · have sn := sg_neg (by omega) hu
        rw [if_neg (nn (lt_np (by omega) n (by decide) (by decide) (by decide)))]
        by_cases g : u < 14114281232179134464
        · rw [if_neg (nn ((lt_neg (by decide) (by decide) (by omega) n).mpr g))]
          exact fin (by omega)
        · rw [if_pos (fun z => g ((lt_neg (by decide) (by decide) (by omega) n).mp z))]
          have ht := big (by omega)
          have d : FP.d2l (dN u) = -9223372036854775808 := by
            apply Int64.toInt_inj.mp; rw [di, sn, sgd_n]
            show _ = (-9223372036854775808 : Int); omega
          rw [d]; decide +kernel
  · rcases inf_two hu f with e | e <;> subst e <;> decide +kernel
  · exact absurd f n
theorem sCut_cn {u L G : Nat} (hu : u < 2 ^ 64) (hL : Cn L) (hG : Cn G) : Cn (sCut u L G) := by
  unfold sCut
  by_cases a : isN u ∨ nSc u < 1023
  · rw [if_pos a]; exact ⟨by decide, fun k => absurd k (by decide)⟩
  · rw [if_neg a]; split
    · exact hG
    · split
      · exact hL
      · split
        · exact ⟨hu, fun k => absurd (.inl k) a⟩
        · have hc := whole_cut hu (by omega) (by omega)
          refine ⟨Nat.lt_of_le_of_lt hc.1 hu, fun k => ?_⟩
          have := hc.2.1; rw [dec_nan k] at this; exact this.elim
theorem sFl_cn {u : Nat} (h : Cn u) : Cn (sFl u) := by
  unfold sFl
  have hu := h.1
  by_cases a : u % 2 ^ 63 = 0 ∨ 1075 ≤ nSc u
  · rw [if_pos a]; exact h
  · rw [if_neg a]
    by_cases b : nSc u < 1023
    · rw [if_pos b]; split <;> exact ⟨by decide, fun k => absurd k (by decide)⟩
    · rw [if_neg b]
      have hc := whole_cut hu (by omega) (by omega)
      have h1 : Cn (u / 2 ^ (1075 - nSc u) * 2 ^ (1075 - nSc u)) := by
        refine ⟨Nat.lt_of_le_of_lt hc.1 hu, fun k => ?_⟩
        have := hc.2.1; rw [dec_nan k] at this; exact this.elim
      split
      · exact h1
      · by_cases q : u / 2 ^ (1075 - nSc u) * 2 ^ (1075 - nSc u) = u
        · have e3 : (u + (2 ^ (1075 - nSc u) - 1)) / 2 ^ (1075 - nSc u) * 2 ^ (1075 - nSc u) = u := by
            have p := Nat.two_pow_pos (1075 - nSc u)
            have : u + (2 ^ (1075 - nSc u) - 1) = 2 ^ (1075 - nSc u) * (u / 2 ^ (1075 - nSc u)) + (2 ^ (1075 - nSc u) - 1) := by
              rw [Nat.mul_comm (2 ^ (1075 - nSc u)), q]
            have z0 : (2 ^ (1075 - nSc u) - 1) / 2 ^ (1075 - nSc u) = 0 := Nat.div_eq_of_lt (by omega)
            rw [this, Nat.mul_add_div p, z0, Nat.add_zero, q]
          rw [e3]; exact h
        · have c1 := whole_cut1 (u := u) hu (by omega) (by omega) q
          refine ⟨c1.1, fun k => ?_⟩
          have := c1.2; rw [dec_nan k] at this; exact this.elim
