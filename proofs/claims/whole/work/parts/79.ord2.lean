theorem Z_zero : Zv 0 = 0 := by decide +kernel
theorem dec_mul {u v : Nat} : FP.Core.decode FP.Core.b64 (FP.Core.mul FP.Core.b64 u v) = FP.Core.round FP.Core.b64 (FP.Core.exactProduct (FP.Core.decode FP.Core.b64 u) (FP.Core.decode FP.Core.b64 v)) := FP.Core.decode_enc FP.Core.good_b64 (FP.Core.round_fits FP.Core.good_b64 _)
theorem sq_cmp {u : Nat} (f : u % 2 ^ 63 < 9218868437227405312) {V : Nat} (nV : ¬ isN V) : (Zv u * Zv u ≤ Zv V * ((2 ^ (FP.Core.b64.qmin - 2 * FP.Core.b64.qmin).toNat : Nat) : Int) → Zv (FP.Core.mul FP.Core.b64 u u) ≤ Zv V) ∧ (Zv V * ((2 ^ (FP.Core.b64.qmin - 2 * FP.Core.b64.qmin).toNat : Nat) : Int) ≤ Zv u * Zv u → Zv V ≤ Zv (FP.Core.mul FP.Core.b64 u u)) := by
  obtain ⟨s, c, q, h⟩ := fin_shape f
  have fit : FP.Core.fits FP.Core.b64 (.fin s c q) := h ▸ FP.Core.decode_fits FP.Core.good_b64 u
  obtain ⟨p1, p2, p3⟩ := FP.Core.product_units fit fit
  have D := dec_mul (u := u) (v := u)
  rw [h, p1] at D
  have ss : (s != s) = false := by cases s <;> rfl
  rw [ss] at D
  have sq : FP.Core.signed false (FP.Core.inUnits (c * c) (q + q) (2 * FP.Core.b64.qmin)) = Zv u * Zv u := by
    unfold Zv
    rw [p3, h]
    show ((FP.Core.zmag FP.Core.b64 (.fin s c q) * FP.Core.zmag FP.Core.b64 (.fin s c q) : Nat) : Int) = FP.Core.signed s _ * FP.Core.signed s _
    cases s
    · show _ = ((FP.Core.zmag FP.Core.b64 (.fin false c q) : Nat) : Int) * ((FP.Core.zmag FP.Core.b64 (.fin false c q) : Nat) : Int)
      rw [Int.natCast_mul]
    · show _ = -((FP.Core.zmag FP.Core.b64 (.fin true c q) : Nat) : Int) * -((FP.Core.zmag FP.Core.b64 (.fin true c q) : Nat) : Int)
      rw [Int.neg_mul_neg, Int.natCast_mul]
  have fV := FP.Core.decode_fits FP.Core.good_b64 V
  have nV' : FP.Core.decode FP.Core.b64 V ≠ .nan := fun z => nV (nan_dec.mp z)
  have q0 : 2 * FP.Core.b64.qmin ≤ FP.Core.b64.qmin := by decide
  constructor
  · intro g
    have := FP.Core.zval_round_le FP.Core.good_b64 (s := false) (c := c * c) (q := q + q) fV nV' q0 p2 (by rw [sq]; exact g)
    rw [← D] at this; exact this
  · intro g
    have := FP.Core.zval_round_ge FP.Core.good_b64 (s := false) (c := c * c) (q := q + q) fV nV' q0 p2 (by rw [sq]; exact g)
    rw [← D] at this; exact this
theorem sq_slack {l h : Nat} (hl : l < 2 ^ 64) (hh : h < 2 ^ 64) (nl : ¬ isN l) (nh : ¬ isN h) (p : 0 ≤ rk l) (o : rk l ≤ rk h) : rk (sDn (sTi l l)) ≤ rk (sUp (sTi h h)) := by
  obtain ⟨e1, m1⟩ := mul_self_n hl nl
  obtain ⟨e2, m2⟩ := mul_self_n hh nh
  rw [e1, e2]
  refine slack (mul_lt _ _) (mul_lt _ _) m1 m2 (fun a b D U hD hU nD nU h1 h2 => ?_)
  have pi : rk 9218868437227405312 = 9218868437227405312 := by decide
  have Fh : ¬ isI h := fun q => by
    rcases inf_two hh q with r | r
    · exact b (by rw [r]; decide +kernel)
    · rw [r, show rk 18442240474082181120 = -9218868437227405312 from by decide] at o; omega
  have Fl : ¬ isI l := fun q => by
    rcases inf_two hl q with r | r
    · exact Fh (by rw [rk_pi hh nh (by rw [r, pi] at o; exact o)])
    · rw [r, show rk 18442240474082181120 = -9218868437227405312 from by decide] at p; omega
  have c1 := sq_cmp (u := l) (by omega) nD
  have c2 := sq_cmp (u := h) (by omega) nU
  have s1 : 0 ≤ Zv l := by
    have := (Z_le (u := 0) (v := l) (by decide) hl (by decide) nl).mpr (by rw [show rk 0 = 0 from by decide]; exact p)
    rw [Z_zero] at this; exact this
  have s2 : Zv l ≤ Zv h := (Z_le hl hh nl nh).mpr o
  have s3 : Zv l * Zv l ≤ Zv h * Zv h := Int.mul_le_mul s2 s2 s1 (by omega)
  have P : 0 < ((2 ^ (FP.Core.b64.qmin - 2 * FP.Core.b64.qmin).toNat : Nat) : Int) := by exact_mod_cast Nat.two_pow_pos _
  generalize ((2 ^ (FP.Core.b64.qmin - 2 * FP.Core.b64.qmin).toNat : Nat) : Int) = T at *
  have k1 : Zv D * T < Zv l * Zv l := Int.lt_of_not_ge fun q => absurd h1 (Int.not_lt.mpr (c1.1 q))
  have k2 : Zv h * Zv h < Zv U * T := Int.lt_of_not_ge fun q => absurd h2 (Int.not_lt.mpr (c2.2 q))
  exact Int.lt_of_mul_lt_mul_right (by omega) (Int.le_of_lt P)
theorem srk_rk {u v : Nat} (h : srk u ≤ srk v) : rk u ≤ rk v := by
  rcases rk_cases u with ⟨a, e⟩ | ⟨a, e⟩ <;> rcases rk_cases v with ⟨b, f⟩ | ⟨b, f⟩ <;> rcases srk_cases u with ⟨a', e'⟩ | ⟨a', e'⟩ <;> rcases srk_cases v with ⟨b', f'⟩ | ⟨b', f'⟩ <;> rw [e, f] <;> rw [e', f'] at h <;> omega
theorem mi_rk {u v : Nat} (nu : ¬ isN u) (nv : ¬ isN v) : rk (sMi u v) ≤ rk u ∧ rk (sMi u v) ≤ rk v ∧ (rk (sMi u v) = rk u ∨ rk (sMi u v) = rk v) := by
  unfold sMi
  rw [if_neg (by simp only [nu, nv, or_self, not_false_eq_true])]
  split
  · rename_i h; exact ⟨srk_rk (by omega), Int.le_refl _, .inr rfl⟩
  · rename_i h; exact ⟨Int.le_refl _, srk_rk (by omega), .inl rfl⟩
theorem ma_rk {u v : Nat} (nu : ¬ isN u) (nv : ¬ isN v) : rk u ≤ rk (sMa u v) ∧ rk v ≤ rk (sMa u v) ∧ (rk (sMa u v) = rk u ∨ rk (sMa u v) = rk v) := by
  unfold sMa
  rw [if_neg (by simp only [nu, nv, or_self, not_false_eq_true])]
  split
  · rename_i h; exact ⟨srk_rk (by omega), Int.le_refl _, .inr rfl⟩
  · rename_i h; exact ⟨Int.le_refl _, srk_rk (by omega), .inl rfl⟩
theorem sMi_n {u v : Nat} : isN (sMi u v) ↔ isN u ∨ isN v := by
  unfold sMi
  by_cases h : isN u ∨ isN v
  · rw [if_pos h]; exact ⟨fun _ => h, fun _ => by decide⟩
  · rw [if_neg h]; constructor
    · intro q; split at q
      · exact .inr q
      · exact .inl q
    · intro q; exact absurd q h
/-- a function of bits is monotone if it is on either side of 0 -/
theorem mono_of {f : Nat → Nat} (p1 : ∀ u, u < 2 ^ 63 → ¬ isN u → 0 ≤ rk (f u)) (p2 : ∀ u, 2 ^ 63 ≤ u → u < 2 ^ 64 → ¬ isN u → rk (f u) ≤ 0)
    (p3 : ∀ u v, u ≤ v → v < 2 ^ 63 → ¬ isN u → ¬ isN v → rk (f u) ≤ rk (f v)) (p4 : ∀ u v, 2 ^ 63 ≤ u → u ≤ v → v < 2 ^ 64 → ¬ isN u → ¬ isN v → rk (f v) ≤ rk (f u)) (p5 : rk (f 0) ≤ rk (f (2 ^ 63)))
    {u v : Nat} (hu : u < 2 ^ 64) (hv : v < 2 ^ 64) (nu : ¬ isN u) (nv : ¬ isN v) (o : rk u ≤ rk v) : rk (f u) ≤ rk (f v) := by
  rcases rk_cases u with ⟨a, e⟩ | ⟨a, e⟩ <;> rcases rk_cases v with ⟨b, f'⟩ | ⟨b, f'⟩ <;> rw [e, f'] at o
  · exact p4 v u b (by omega) hu nv nu
  · exact Int.le_trans (p2 u a hu nu) (p1 v b nv)
  · have : u = 0 := by omega
    have : v = 2 ^ 63 := by omega
    subst u; subst v; exact p5
  · exact p3 u v (by omega) b nu nv
theorem rk_nat {u : Nat} (h : u < 2 ^ 63) : rk u = u := by rcases rk_cases u with ⟨a, e⟩ | ⟨a, e⟩ <;> omega
theorem rk_neg {u : Nat} (h : 2 ^ 63 ≤ u) : rk u = (2 ^ 63 : Int) - u := by rcases rk_cases u with ⟨a, e⟩ | ⟨a, e⟩ <;> omega
theorem ceil_ge (u k : Nat) : u ≤ (u + (2 ^ k - 1)) / 2 ^ k * 2 ^ k := by
  have := Nat.div_add_mod (u + (2 ^ k - 1)) (2 ^ k)
  have := Nat.mod_lt (u + (2 ^ k - 1)) (Nat.two_pow_pos k)
  rw [Nat.mul_comm]; omega
theorem ceil_le {u k X : Nat} (hk : k ≤ 52) (h : u ≤ X * 2 ^ 52) : (u + (2 ^ k - 1)) / 2 ^ k * 2 ^ k ≤ X * 2 ^ 52 := by
  have P := Nat.two_pow_pos k
  have e : X * 2 ^ 52 = X * 2 ^ (52 - k) * 2 ^ k := by rw [Nat.mul_assoc, ← Nat.pow_add, show 52 - k + k = 52 by omega]
  rw [e] at h ⊢
  refine Nat.mul_le_mul_right _ ?_
  have : (u + (2 ^ k - 1)) / 2 ^ k < X * 2 ^ (52 - k) + 1 := by
    rw [Nat.div_lt_iff_lt_mul P, Nat.add_mul, Nat.one_mul]; omega
  omega
theorem cut_ge {u k X : Nat} (hk : k ≤ 52) (h : X * 2 ^ 52 ≤ u) : X * 2 ^ 52 ≤ u / 2 ^ k * 2 ^ k := by
  have P := Nat.two_pow_pos k
  have e : X * 2 ^ 52 = X * 2 ^ (52 - k) * 2 ^ k := by rw [Nat.mul_assoc, ← Nat.pow_add, show 52 - k + k = 52 by omega]
  rw [e] at h ⊢
  exact Nat.mul_le_mul_right _ ((Nat.le_div_iff_mul_le P).mpr h)
theorem sc_n (u : Nat) : nSc u = if u / 2 ^ 52 % 2048 = 0 then 1 else u / 2 ^ 52 % 2048 := rfl
theorem sc_mono {u v : Nat} (h : u ≤ v) (s : v < 2 ^ 63 ∨ 2 ^ 63 ≤ u ∧ v < 2 ^ 64) : nSc u ≤ nSc v ∧ (nSc u < nSc v → u < v / 2 ^ 52 * 2 ^ 52 ∧ (u / 2 ^ 52 + 1) * 2 ^ 52 ≤ v / 2 ^ 52 * 2 ^ 52 ∧ v / 2 ^ 52 * 2 ^ 52 ≤ v) := by
  have h1 : u / 2 ^ 52 ≤ v / 2 ^ 52 := Nat.div_le_div_right h
  rw [sc_n, sc_n]
  have : u / 2 ^ 52 % 2048 ≤ v / 2 ^ 52 % 2048 := by omega
  constructor
  · split <;> split <;> omega
  · intro q
    have : u / 2 ^ 52 < v / 2 ^ 52 := by
      split at q <;> split at q <;> omega
    omega
theorem fl_pos {u : Nat} (h : u < 2 ^ 63) : sFl u ≤ u := by
  unfold sFl
  split
  · exact Nat.le_refl _
  split
  · exact Nat.zero_le _
  · exact Nat.div_mul_le_self _ _
theorem fl_neg {u : Nat} (h : 2 ^ 63 ≤ u) (h2 : u < 2 ^ 64) : 2 ^ 63 ≤ sFl u ∧ (u % 2 ^ 63 ≠ 0 → u ≤ sFl u) := by
  unfold sFl
  by_cases a : u % 2 ^ 63 = 0 ∨ 1075 ≤ nSc u
  · rw [if_pos a]; exact ⟨h, fun _ => Nat.le_refl _⟩
  · rw [if_neg a]
    by_cases b : nSc u < 1023
    · rw [if_pos b, if_neg (by omega)]
      refine ⟨by decide, fun _ => ?_⟩
      rw [sc_n] at b
      split at b <;> omega
    · rw [if_neg b, if_neg (by omega)]
      have := ceil_ge u (1075 - nSc u)
      exact ⟨by omega, fun _ => this⟩
theorem fl_mono {u v : Nat} (hu : u < 2 ^ 64) (hv : v < 2 ^ 64) (nu : ¬ isN u) (nv : ¬ isN v) (o : rk u ≤ rk v) : rk (sFl u) ≤ rk (sFl v) := by
  refine mono_of (f := sFl) (fun u h n => ?_) (fun u h h2 n => ?_) (fun u v h h2 n1 n2 => ?_) (fun u v h h2 h3 n1 n2 => ?_) (by decide) hu hv nu nv o
  · have := fl_pos h; rw [rk_nat (by omega)]; omega
  · have := fl_neg h h2; rw [rk_neg this.1]; omega
  · have a := fl_pos (u := u) (by omega)
    have b := fl_pos h2
    rw [rk_nat (by omega), rk_nat (by omega)]
    have : sFl u ≤ sFl v := by
      have S := sc_mono h (.inl h2)
      by_cases z : u = 0
      · subst z; exact Nat.le_trans a (Nat.zero_le _)
      · have zv : ¬ v % 2 ^ 63 = 0 := by omega
        have zu : ¬ u % 2 ^ 63 = 0 := by omega
        by_cases c1 : 1075 ≤ nSc v
        · have : sFl v = v := by unfold sFl; rw [if_pos (.inr c1)]
          omega
        · by_cases c2 : nSc v < 1023
          · have e1 : sFl u = 0 := by unfold sFl; rw [if_neg (by omega), if_pos (by omega), if_pos (by omega)]
            omega
          · have e2 : sFl v = v / 2 ^ (1075 - nSc v) * 2 ^ (1075 - nSc v) := by unfold sFl; rw [if_neg (by omega), if_neg c2, if_pos h2]
            by_cases c3 : nSc u = nSc v
            · have e1 : sFl u = u / 2 ^ (1075 - nSc v) * 2 ^ (1075 - nSc v) := by unfold sFl; rw [c3, if_neg (by omega), if_neg c2, if_pos (by omega)]
              rw [e1, e2]
              exact Nat.mul_le_mul_right _ (Nat.div_le_div_right h)
            · have S2 := S.2 (by omega)
              have := cut_ge (u := v) (k := 1075 - nSc v) (X := v / 2 ^ 52) (by omega) S2.2.2
              omega
    omega
  · have a := fl_neg h (by omega)
    have b := fl_neg (u := v) (by omega) h3
    rw [rk_neg a.1, rk_neg b.1]
    have : sFl u ≤ sFl v := by
      have S := sc_mono h2 (.inr ⟨h, h3⟩)
      by_cases z : u % 2 ^ 63 = 0
      · have : sFl u = u := by unfold sFl; rw [if_pos (.inl z)]
        have := b.1; omega
      · have zv : ¬ v % 2 ^ 63 = 0 := by omega
        have bv := b.2 zv
        by_cases c1 : 1075 ≤ nSc u
        · have : sFl u = u := by unfold sFl; rw [if_pos (.inr c1)]
          omega
        · by_cases c2 : nSc u < 1023
          · have e1 : sFl u = 13830554455654793216 := by unfold sFl; rw [if_neg (by omega), if_pos c2, if_neg (by omega)]
            by_cases c3 : nSc v < 1023
            · have e2 : sFl v = 13830554455654793216 := by unfold sFl; rw [if_neg (by omega), if_pos c3, if_neg (by omega)]
              omega
            · rw [sc_n] at c3
              split at c3 <;> omega
          · have e1 : sFl u = (u + (2 ^ (1075 - nSc u) - 1)) / 2 ^ (1075 - nSc u) * 2 ^ (1075 - nSc u) := by unfold sFl; rw [if_neg (by omega), if_neg c2, if_neg (by omega)]
            by_cases c3 : nSc v = nSc u
            · have e2 : sFl v = (v + (2 ^ (1075 - nSc u) - 1)) / 2 ^ (1075 - nSc u) * 2 ^ (1075 - nSc u) := by unfold sFl; rw [c3, if_neg (by omega), if_neg c2, if_neg (by omega)]
              rw [e1, e2]
              exact Nat.mul_le_mul_right _ (Nat.div_le_div_right (by omega))
            · have S2 := S.2 (by omega)
              have := ceil_le (u := u) (k := 1075 - nSc u) (X := u / 2 ^ 52 + 1) (by omega) (by omega)
              omega
    omega
