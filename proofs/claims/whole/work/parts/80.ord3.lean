theorem near_mono {A B d : Nat} (hd : 0 < d) (h : A ≤ B) : FP.Core.nearest A d ≤ FP.Core.nearest B d := by
  have lo : ∀ X, X / d ≤ FP.Core.nearest X d ∧ FP.Core.nearest X d ≤ X / d + 1 := by
    intro X
    unfold FP.Core.nearest
    have := Nat.mod_lt (X / d) (show 0 < 2 by decide)
    split
    · omega
    · split
      · omega
      · generalize X / d = z at *; omega
  have e1 := Nat.div_add_mod A d
  have e2 := Nat.div_add_mod B d
  have q : A / d ≤ B / d := Nat.div_le_div_right h
  have a := lo A
  have b := lo B
  by_cases e : A / d = B / d
  · unfold FP.Core.nearest
    rw [e] at e1 ⊢
    have : A % d ≤ B % d := by omega
    generalize B / d = z at *
    by_cases c1 : 2 * (A % d) < d
    · rw [if_pos c1]
      split
      · omega
      · split <;> omega
    · rw [if_neg c1, if_neg (show ¬ 2 * (B % d) < d by omega)]
      split
      · rw [if_pos (by omega)]; exact Nat.le_refl _
      · split <;> omega
  · omega
theorem tf_b {u : Nat} (h : tfD u ≤ 53) : tfK u ≤ 2 ^ 53 := by
  unfold tfK
  have : FP.Core.nearest (nFr u) (2 ^ tfD u) ≤ 2 ^ (53 - tfD u) := FP.Core.nearest_le (Nat.two_pow_pos _) (by rw [← Nat.pow_add, show 53 - tfD u + tfD u = 53 by omega]; exact Nat.le_of_lt (nFr_lt u))
  calc _ ≤ 2 ^ (53 - tfD u) * 2 ^ tfD u := Nat.mul_le_mul_right _ this
    _ = 2 ^ 53 := by rw [← Nat.pow_add, show 53 - tfD u + tfD u = 53 by omega]
theorem tf_a {u : Nat} (h : tfD u ≤ 52) (f : 2 ^ 52 ≤ nFr u) : 2 ^ 52 ≤ tfK u := by
  unfold tfK
  have : 2 ^ (52 - tfD u) ≤ FP.Core.nearest (nFr u) (2 ^ tfD u) := FP.Core.nearest_ge (Nat.two_pow_pos _) (by rw [← Nat.pow_add, show 52 - tfD u + tfD u = 52 by omega]; exact f)
  calc 2 ^ 52 = 2 ^ (52 - tfD u) * 2 ^ tfD u := by rw [← Nat.pow_add, show 52 - tfD u + tfD u = 52 by omega]
    _ ≤ _ := Nat.mul_le_mul_right _ this
/-- the size of what goes through a float -/
def tfS (u : Nat) : Nat := if u % 2 ^ 63 = 0 then 0 else if 53 < tfD u then 0 else if tfK u = 0 then 0 else (nSc u - 1) * 2 ^ 52 + tfK u
theorem tf_S {u : Nat} (n : ¬ isN u) (i : ¬ isI u) : sTf u = u / 2 ^ 63 * 2 ^ 63 + (if tfS u < 5183643171103440896 then tfS u else 9218868437227405312) := by
  unfold sTf tfS
  by_cases z : u % 2 ^ 63 = 0
  · rw [if_pos (.inr z), if_pos z, if_pos (by decide)]; omega
  · rw [if_neg (by omega), if_neg z]
    by_cases d : 53 < tfD u
    · rw [if_pos d, if_pos d, if_pos (by decide)]; omega
    · rw [if_neg d, if_neg d]
      unfold tfT
      by_cases k : tfK u = 0
      · rw [if_pos k, if_pos k, if_pos (by decide)]; omega
      · rw [if_neg k, if_neg k]
        split <;> rfl
theorem sc_mod (u : Nat) : nSc (u % 2 ^ 63) = nSc u ∧ nFr (u % 2 ^ 63) = nFr u := by
  have e : nE (u % 2 ^ 63) = nE u := by unfold nE; omega
  constructor
  · unfold nSc; rw [e]
  · unfold nFr; rw [e, show u % 2 ^ 63 % 2 ^ 52 = u % 2 ^ 52 by omega]
theorem tfS_mono {u v : Nat} (h : u % 2 ^ 63 ≤ v % 2 ^ 63) : tfS u ≤ tfS v := by
  have S := sc_mono h (.inl (Nat.mod_lt v (by decide)))
  rw [(sc_mod u).1, (sc_mod v).1] at S
  have mu := mag_eq u
  have mv := mag_eq v
  unfold tfS
  by_cases z : u % 2 ^ 63 = 0
  · rw [if_pos z]; exact Nat.zero_le _
  · rw [if_neg z, if_neg (show ¬ v % 2 ^ 63 = 0 by omega)]
    by_cases d : 53 < tfD u
    · rw [if_pos d]; exact Nat.zero_le _
    · rw [if_neg d]
      have dv : tfD v ≤ tfD u := by unfold tfD; omega
      by_cases k : tfK u = 0
      · rw [if_pos k]; exact Nat.zero_le _
      · rw [if_neg k, if_neg (show ¬ 53 < tfD v by omega)]
        by_cases c : nSc u = nSc v
        · have e : tfD v = tfD u := by unfold tfD; rw [c]
          have f : nFr u ≤ nFr v := by rw [c] at mu; omega
          have : tfK u ≤ tfK v := by
            unfold tfK; rw [e]
            exact Nat.mul_le_mul_right _ (near_mono (Nat.two_pow_pos _) f)
          rw [if_neg (show ¬ tfK v = 0 by omega), c]; omega
        · have S2 := S.1
          have p1 : 1 ≤ nSc u := by unfold nSc; split <;> omega
          have fv := nFr_full (u := v) (by omega)
          have d52 : tfD v ≤ 52 := by unfold tfD at d ⊢; omega
          have := tf_a d52 fv
          have := tf_b (u := u) (by omega)
          rw [if_neg (show ¬ tfK v = 0 by omega)]
          have : nSc u + 1 ≤ nSc v := by omega
          have : (nSc u - 1) * 2 ^ 52 + 2 ^ 53 ≤ (nSc v - 1) * 2 ^ 52 + 2 ^ 52 := by omega
          omega
theorem tf_mono {u v : Nat} (hu : u < 2 ^ 64) (hv : v < 2 ^ 64) (nu : ¬ isN u) (nv : ¬ isN v) (o : rk u ≤ rk v) : rk (sTf u) ≤ rk (sTf v) := by
  have G : ∀ u, ¬ isN u → ∃ g, sTf u = u / 2 ^ 63 * 2 ^ 63 + g ∧ g ≤ 9218868437227405312 ∧ (isI u → g = 9218868437227405312) ∧ (¬ isI u → g = if tfS u < 5183643171103440896 then tfS u else 9218868437227405312) := by
    intro u n
    by_cases i : isI u
    · refine ⟨9218868437227405312, ?_, Nat.le_refl _, fun _ => rfl, fun z => absurd i z⟩
      have : sTf u = u := by unfold sTf; rw [if_pos (.inl (by omega))]
      rw [this]; omega
    · refine ⟨_, tf_S n i, ?_, fun z => absurd z i, fun _ => rfl⟩
      split <;> omega
  have M : ∀ u v, ¬ isN u → ¬ isN v → u % 2 ^ 63 ≤ v % 2 ^ 63 → sTf u % 2 ^ 63 ≤ sTf v % 2 ^ 63 := by
    intro u v n1 n2 h
    obtain ⟨g, e, b, i1, j1⟩ := G u n1
    obtain ⟨g', e', b', i2, j2⟩ := G v n2
    have : g ≤ g' := by
      by_cases i : isI v
      · rw [i2 i]; exact b
      · have := tfS_mono h
        rw [j1 (by omega), j2 i]; split <;> split <;> omega
    rw [e, e']; omega
  refine mono_of (f := sTf) (fun u h n => ?_) (fun u h h2 n => ?_) (fun u v h h2 n1 n2 => ?_) (fun u v h h2 h3 n1 n2 => ?_) (by decide +kernel) hu hv nu nv o
  · obtain ⟨g, e, b, -⟩ := G u n
    rw [rk_nat (by omega)]; omega
  · obtain ⟨g, e, b, -⟩ := G u n
    rw [rk_neg (by omega)]; omega
  · have m := M u v n1 n2 (by omega)
    obtain ⟨g, e, b, -⟩ := G u n1
    obtain ⟨g', e', b', -⟩ := G v n2
    rw [rk_nat (by omega), rk_nat (by omega)]; omega
  · have m := M u v n1 n2 (by omega)
    obtain ⟨g, e, b, -⟩ := G u n1
    obtain ⟨g', e', b', -⟩ := G v n2
    rw [rk_neg (by omega), rk_neg (by omega)]; omega
theorem sg_mono {u v : Nat} (hu : u < 2 ^ 64) (hv : v < 2 ^ 64) (nu : ¬ isN u) (nv : ¬ isN v) (o : rk u ≤ rk v) : rk (sSg u) ≤ rk (sSg v) := by
  have G : ∀ u, u < 2 ^ 64 → ¬ isN u → sSg u = if u % 2 ^ 63 = 0 then u else if u < 2 ^ 63 then 4607182418800017408 else 13830554455654793216 := by
    intro u h n
    unfold sSg
    by_cases z : u % 2 ^ 63 = 0
    · rw [if_pos (.inr z), if_pos z]
    · rw [if_neg (by simp only [n, z, or_self, not_false_eq_true]), if_neg z]; split <;> omega
  rw [G u hu nu, G v hv nv]
  have a1 : rk 4607182418800017408 = 4607182418800017408 := by decide
  have a2 : rk 13830554455654793216 = -4607182418800017408 := by decide
  rcases rk_cases u with ⟨a, e⟩ | ⟨a, e⟩ <;> rcases rk_cases v with ⟨b, f'⟩ | ⟨b, f'⟩ <;> rw [e, f'] at o <;> split <;> split <;> (try split) <;> (try split) <;> omega
theorem cut_pos {u L G : Nat} (h : u < 2 ^ 63) (n : ¬ isN u) (hL : 2 ^ 63 < L) (hL2 : L < 2 ^ 64) (nL : ¬ isN L) (hG : G < 2 ^ 63) (nG : ¬ isN G) : sCut u L G = if nSc u < 1023 then 0 else if G ≤ u then G else if 1075 ≤ nSc u then u else u / 2 ^ (1075 - nSc u) * 2 ^ (1075 - nSc u) := by
  unfold sCut
  by_cases a : nSc u < 1023
  · rw [if_pos (.inr a), if_pos a]
  · rw [if_neg (by simp only [n, a, or_self, not_false_eq_true]), if_neg a]
    by_cases b : G ≤ u
    · rw [if_pos b, if_pos (by rw [lt_pos h n hG nG]; omega)]
    · rw [if_neg b, if_neg (by rw [lt_pos h n hG nG]; omega), if_neg]
      intro q
      exact q ⟨nL, n, by rw [rk_neg (by omega), rk_nat h]; omega⟩
theorem cut_neg {u L G : Nat} (h : 2 ^ 63 ≤ u) (n : ¬ isN u) (hL : 2 ^ 63 < L) (hL2 : L < 2 ^ 64) (nL : ¬ isN L) (hG : G < 2 ^ 63) (hG0 : 0 < G) (nG : ¬ isN G) : sCut u L G = if nSc u < 1023 then 0 else if L ≤ u then L else if 1075 ≤ nSc u then u else u / 2 ^ (1075 - nSc u) * 2 ^ (1075 - nSc u) := by
  unfold sCut
  by_cases a : nSc u < 1023
  · rw [if_pos (.inr a), if_pos a]
  · rw [if_neg (by simp only [n, a, or_self, not_false_eq_true]), if_neg a, if_neg (fun q => q (lt_np h n hG hG0 nG))]
    by_cases b : L ≤ u
    · rw [if_pos b, if_pos (by rw [lt_neg (by omega) nL h n]; omega)]
    · rw [if_neg b, if_neg (by rw [lt_neg (by omega) nL h n]; omega)]
theorem ct_mono {u v L G : Nat} (hL : 2 ^ 63 + 1023 * 2 ^ 52 ≤ L) (hL2 : L < 2 ^ 64) (nL : ¬ isN L) (hG : G < 2 ^ 63) (hG0 : 1023 * 2 ^ 52 ≤ G) (nG : ¬ isN G) (hu : u < 2 ^ 64) (hv : v < 2 ^ 64) (nu : ¬ isN u) (nv : ¬ isN v) (o : rk u ≤ rk v) : rk (sCut u L G) ≤ rk (sCut v L G) := by
  have P := fun u h n => cut_pos (u := u) (L := L) (G := G) h n (by omega) hL2 nL hG nG
  have N := fun u h n => cut_neg (u := u) (L := L) (G := G) h n (by omega) hL2 nL hG (by omega) nG
  have Pb : ∀ u, u < 2 ^ 63 → ¬ isN u → sCut u L G < 2 ^ 63 ∧ (sCut u L G ≤ u ∨ sCut u L G = 0) ∧ sCut u L G ≤ G := by
    intro u h n
    rw [P u h n]
    have := Nat.div_mul_le_self u (2 ^ (1075 - nSc u))
    split
    · omega
    split
    · omega
    split <;> omega
  have Sc : ∀ u, 1023 ≤ nSc u → 1023 * 2 ^ 52 ≤ u / 2 ^ 52 * 2 ^ 52 ∧ (2 ^ 63 ≤ u → u < 2 ^ 64 → 2 ^ 63 + 1023 * 2 ^ 52 ≤ u / 2 ^ 52 * 2 ^ 52) := by
    intro u h
    rw [sc_n] at h
    split at h <;> omega
  have Nb : ∀ u, 2 ^ 63 ≤ u → u < 2 ^ 64 → ¬ isN u → (nSc u < 1023 ∧ sCut u L G = 0) ∨ (1023 ≤ nSc u ∧ 2 ^ 63 + 1023 * 2 ^ 52 ≤ sCut u L G ∧ sCut u L G ≤ u ∧ sCut u L G ≤ L) := by
    intro u h h2 n
    rw [N u h n]
    have := Nat.div_mul_le_self u (2 ^ (1075 - nSc u))
    by_cases a : nSc u < 1023
    · rw [if_pos a]; exact .inl ⟨a, rfl⟩
    · rw [if_neg a]
      have := (Sc u (by omega)).2 h h2
      refine .inr ⟨by omega, ?_⟩
      split
      · omega
      split
      · omega
      · have := cut_ge (u := u) (k := 1075 - nSc u) (X := u / 2 ^ 52) (by omega) (Nat.div_mul_le_self u (2 ^ 52))
        omega
  have r0 : rk 0 = 0 := by decide
  refine mono_of (f := fun u => sCut u L G) (fun u h n => ?_) (fun u h h2 n => ?_) (fun u v h h2 n1 n2 => ?_) (fun u v h h2 h3 n1 n2 => ?_) ?_ hu hv nu nv o
  · show 0 ≤ rk (sCut u L G)
    have := Pb u h n
    rw [rk_nat this.1]; omega
  · show rk (sCut u L G) ≤ 0
    rcases Nb u h h2 n with ⟨-, e⟩ | ⟨-, e, -⟩
    · rw [e, r0]; exact Int.le_refl _
    · rw [rk_neg (by omega)]; omega
  · show rk (sCut u L G) ≤ rk (sCut v L G)
    have b1 := Pb u (by omega) n1
    have b2 := Pb v h2 n2
    rw [rk_nat b1.1, rk_nat b2.1]
    have : sCut u L G ≤ sCut v L G := by
      have S := sc_mono h (.inl h2)
      have e1 := P u (by omega) n1
      have e2 := P v h2 n2
      by_cases a : nSc u < 1023
      · rw [e1, if_pos a]; exact Nat.zero_le _
      · rw [if_neg (by omega)] at e2
        by_cases g : G ≤ v
        · rw [e2, if_pos g]; exact b1.2.2
        · rw [if_neg g] at e2
          by_cases c : 1075 ≤ nSc v
          · rw [if_pos c] at e2
            rcases b1.2.1 with q | q <;> omega
          · rw [if_neg c] at e2
            rw [if_neg a, if_neg (by omega), if_neg (by omega)] at e1
            by_cases c3 : nSc u = nSc v
            · rw [e1, e2, c3]; exact Nat.mul_le_mul_right _ (Nat.div_le_div_right h)
            · have S2 := S.2 (by omega)
              have := cut_ge (u := v) (k := 1075 - nSc v) (X := v / 2 ^ 52) (by omega) S2.2.2
              rcases b1.2.1 with q | q <;> omega
    omega
  · show rk (sCut v L G) ≤ rk (sCut u L G)
    have S := sc_mono h2 (.inr ⟨h, h3⟩)
    rcases Nb u h (by omega) n1 with ⟨a, e⟩ | ⟨a, e, f, g⟩
    · rw [e, r0]
      rcases Nb v (by omega) h3 n2 with ⟨-, e⟩ | ⟨-, e, -⟩
      · rw [e, r0]; exact Int.le_refl _
      · rw [rk_neg (by omega)]; omega
    · rcases Nb v (by omega) h3 n2 with ⟨a', e'⟩ | ⟨a', e', f', g'⟩
      · omega
      · rw [rk_neg (by omega), rk_neg (by omega)]
        have : sCut u L G ≤ sCut v L G := by
          have e1 := N u h n1
          have e2 := N v (by omega) n2
          rw [if_neg (by omega)] at e1 e2
          by_cases l : L ≤ v
          · rw [e2, if_pos l]; exact g
          · rw [if_neg l] at e2
            rw [if_neg (by omega)] at e1
            by_cases c : 1075 ≤ nSc v
            · rw [if_pos c] at e2; omega
            · rw [if_neg c] at e2
              rw [if_neg (by omega)] at e1
              by_cases c3 : nSc u = nSc v
              · rw [e1, e2, c3]; exact Nat.mul_le_mul_right _ (Nat.div_le_div_right h2)
              · have S2 := S.2 (by omega)
                have := cut_ge (u := v) (k := 1075 - nSc v) (X := v / 2 ^ 52) (by omega) S2.2.2
                omega
        omega
  · show rk (sCut 0 L G) ≤ rk (sCut (2 ^ 63) L G)
    rw [P 0 (by decide) (by decide), N (2 ^ 63) (by decide) (by decide), if_pos (by decide), if_pos (by decide)]; exact Int.le_refl _
