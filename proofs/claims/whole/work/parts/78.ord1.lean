/-! ENDS STAY IN ORDER -/
def Zv (u : Nat) : Int := FP.Core.zval FP.Core.b64 (FP.Core.decode FP.Core.b64 u)
theorem Z_cmp {u v : Nat} (hu : u < 2 ^ 64) (hv : v < 2 ^ 64) (nu : ¬ isN u) (nv : ¬ isN v) : compare (Zv u) (Zv v) = compare (rk u) (rk v) := by
  have a : FP.Core.val64 (dN u) ≠ .nan := fun q => nu ((val_nan hu).mp q)
  have b : FP.Core.val64 (dN v) ≠ .nan := fun q => nv ((val_nan hv).mp q)
  have h := (FP.Core.dcmp_zval a b).symm.trans (FP.Core.dcmp_key a b)
  rw [dkey_dN hu, dkey_dN hv] at h
  have h := Option.some.inj h
  unfold FP.Core.val64 at h
  rw [dN_nat hu, dN_nat hv] at h
  exact h
theorem Z_lt {u v : Nat} (hu : u < 2 ^ 64) (hv : v < 2 ^ 64) (nu : ¬ isN u) (nv : ¬ isN v) : Zv u < Zv v ↔ rk u < rk v := by
  rw [← FP.Core.compare_lt_iff, ← FP.Core.compare_lt_iff, Z_cmp hu hv nu nv]
theorem Z_le {u v : Nat} (hu : u < 2 ^ 64) (hv : v < 2 ^ 64) (nu : ¬ isN u) (nv : ¬ isN v) : Zv u ≤ Zv v ↔ rk u ≤ rk v := by
  have := Z_lt hv hu nv nu
  omega
theorem rk_lo {u : Nat} (hu : u < 2 ^ 64) (n : ¬ isN u) : -9218868437227405312 ≤ rk u ∧ rk u ≤ 9218868437227405312 := by
  rcases rk_cases u with ⟨h, e⟩ | ⟨h, e⟩ <;> rw [e] <;> omega
theorem up_rk {u : Nat} (hu : u < 2 ^ 64) (n : ¬ isN u) : rk (sUp u) = if u = 9218868437227405312 then rk u else rk u + 1 := by
  unfold sUp
  by_cases i : u = 9218868437227405312
  · rw [if_pos (.inr i), if_pos i]
  · rw [if_neg (by simp only [n, i, or_self, not_false_eq_true]), if_neg i]
    by_cases z : u % 2 ^ 63 = 0
    · rw [if_pos z]
      have : rk 1 = 1 := by decide
      rw [this]
      rcases rk_cases u with ⟨h, e⟩ | ⟨h, e⟩ <;> rw [e] <;> omega
    · rw [if_neg z]
      split
      · rename_i s
        rcases rk_cases u with ⟨h, e⟩ | ⟨h, e⟩ <;> rcases rk_cases (u + 1) with ⟨h', e'⟩ | ⟨h', e'⟩ <;> rw [e, e'] <;> omega
      · rename_i s
        rcases rk_cases u with ⟨h, e⟩ | ⟨h, e⟩ <;> rcases rk_cases (u - 1) with ⟨h', e'⟩ | ⟨h', e'⟩ <;> rw [e, e'] <;> omega
theorem neg_rk {u : Nat} (hu : u < 2 ^ 64) (n : ¬ isN u) : rk (sNeg u) = - rk u := by rw [sNeg_flip n, flip_rk hu]
theorem dn_rk {u : Nat} (hu : u < 2 ^ 64) (n : ¬ isN u) : rk (sDn u) = if u = 18442240474082181120 then rk u else rk u - 1 := by
  unfold sDn
  have h1 := sNeg_cn hu
  have n1 : ¬ isN (sNeg u) := by rw [sNeg_n hu]; exact n
  rw [neg_rk (sUp_lt h1.1) (by rw [sUp_n h1.1]; exact n1), up_rk h1.1 n1, neg_rk hu n]
  have e : sNeg u = 9218868437227405312 ↔ u = 18442240474082181120 := by
    rw [sNeg_flip n]; unfold flip; split <;> omega
  by_cases q : u = 18442240474082181120
  · rw [if_pos (e.mpr q), if_pos q]; omega
  · rw [if_neg (fun z => q (e.mp z)), if_neg q]; omega
/-- one lies below the other by a number that lies between: D is just below x's rounding, U just above y's -/
theorem slack {a b : Nat} (ha : a < 2 ^ 64) (hb : b < 2 ^ 64) (na : ¬ isN a) (nb : ¬ isN b)
    (h : a ≠ 18442240474082181120 → b ≠ 9218868437227405312 → ∀ D U, D < 2 ^ 64 → U < 2 ^ 64 → ¬ isN D → ¬ isN U → Zv D < Zv a → Zv b < Zv U → Zv D < Zv U) : rk (sDn a) ≤ rk (sUp b) := by
  have D1 := sDn_cn ha
  have U1 := sUp_lt hb
  have nD : ¬ isN (sDn a) := by rw [sDn_n ha]; exact na
  have nU : ¬ isN (sUp b) := by rw [sUp_n hb]; exact nb
  by_cases x : a = 18442240474082181120
  · have e : rk (sDn a) = -9218868437227405312 := by rw [dn_rk ha na, if_pos x, x]; decide
    rw [e]; exact (rk_lo U1 nU).1
  · by_cases y : b = 9218868437227405312
    · have e : rk (sUp b) = 9218868437227405312 := by rw [up_rk hb nb, if_pos y, y]; decide
      rw [e]; exact (rk_lo D1.1 nD).2
    · have e1 := dn_rk ha na
      have e2 := up_rk hb nb
      rw [if_neg x] at e1
      rw [if_neg y] at e2
      have := h x y (sDn a) (sUp b) D1.1 U1 nD nU ((Z_lt D1.1 ha nD na).mpr (by omega)) ((Z_lt hb U1 nb nU).mpr (by omega))
      rw [Z_lt D1.1 U1 nD nU] at this
      omega
theorem dec_add {u v : Nat} : FP.Core.decode FP.Core.b64 (FP.Core.add FP.Core.b64 u v) = FP.Core.round FP.Core.b64 (FP.Core.exactSum (FP.Core.decode FP.Core.b64 u) (FP.Core.decode FP.Core.b64 v)) := FP.Core.decode_enc FP.Core.good_b64 (FP.Core.round_fits FP.Core.good_b64 _)
theorem fin_shape {u : Nat} (h : u % 2 ^ 63 < 9218868437227405312) : ∃ s c q, FP.Core.decode FP.Core.b64 u = .fin s c q := ⟨_, _, _, dec_fin (fin_iff.mp h)⟩
theorem inf_of {u : Nat} (hu : u < 2 ^ 64) {s : Bool} (h : FP.Core.decode FP.Core.b64 u = .inf s) : u = if s then 18442240474082181120 else 9218868437227405312 := by
  have v : FP.Core.val64 (dN u) = .inf s := by unfold FP.Core.val64; rw [dN_nat hu]; exact h
  obtain ⟨i, e⟩ := val_inf hu v
  rcases inf_two hu i with q | q
  · subst q; rw [show nS 9218868437227405312 = false from by decide] at e; subst e; rfl
  · subst q; rw [show nS 18442240474082181120 = true from by decide] at e; subst e; rfl
theorem add_inf {u v : Nat} (hu : u < 2 ^ 64) (hv : v < 2 ^ 64) (nu : ¬ isN u) (nv : ¬ isN v) (i : ¬ (isI u ∧ isI v ∧ u ≠ v)) : (isI u → FP.Core.add FP.Core.b64 u v = u) ∧ (isI v → FP.Core.add FP.Core.b64 u v = v) := by
  have A := add_lt u v
  have D := dec_add (u := u) (v := v)
  constructor
  · intro q
    rw [dec_inf q] at D
    have e : FP.Core.decode FP.Core.b64 (FP.Core.add FP.Core.b64 u v) = .inf (nS u) := by
      by_cases r : isI v
      · have : u = v := Classical.byContradiction fun z => i ⟨q, r, z⟩
        subst this
        rw [dec_inf q] at D
        rw [D]
        generalize nS u = t
        cases t <;> rfl
      · obtain ⟨s, c, e, h⟩ := fin_shape (u := v) (by omega)
        rw [h] at D; exact D
    rw [inf_of A e]
    rw [inf_of hu (dec_inf q)]
    cases nS u <;> decide
  · intro q
    rw [dec_inf q] at D
    have e : FP.Core.decode FP.Core.b64 (FP.Core.add FP.Core.b64 u v) = .inf (nS v) := by
      by_cases r : isI u
      · have : u = v := Classical.byContradiction fun z => i ⟨r, q, z⟩
        subst this
        rw [dec_inf r] at D
        rw [D]
        generalize nS u = t
        cases t <;> rfl
      · obtain ⟨s, c, e, h⟩ := fin_shape (u := u) (by omega)
        rw [h] at D; exact D
    rw [inf_of A e]
    rw [inf_of hv (dec_inf q)]
    cases nS v <;> decide
theorem rk_pi {u : Nat} (hu : u < 2 ^ 64) (n : ¬ isN u) (h : rk u ≥ 9218868437227405312) : u = 9218868437227405312 := by
  rcases rk_cases u with ⟨a, e⟩ | ⟨a, e⟩ <;> rw [e] at h <;> omega
theorem rk_mi {u : Nat} (hu : u < 2 ^ 64) (n : ¬ isN u) (h : rk u ≤ -9218868437227405312) : u = 18442240474082181120 := by
  rcases rk_cases u with ⟨a, e⟩ | ⟨a, e⟩ <;> rw [e] at h <;> omega
theorem add_slack {u v x y : Nat} (hu : u < 2 ^ 64) (hv : v < 2 ^ 64) (hx : x < 2 ^ 64) (hy : y < 2 ^ 64) (nu : ¬ isN u) (nv : ¬ isN v) (nx : ¬ isN x) (ny : ¬ isN y) (o1 : rk u ≤ rk x) (o2 : rk v ≤ rk y)
    (n1 : ¬ isN (sPl u v)) (n2 : ¬ isN (sPl x y)) : rk (sDn (sPl u v)) ≤ rk (sUp (sPl x y)) := by
  have i1 : ¬ (isI u ∧ isI v ∧ u ≠ v) := fun q => n1 (by unfold sPl; rw [if_neg (fun z => z.2.2 q)]; decide)
  have i2 : ¬ (isI x ∧ isI y ∧ x ≠ y) := fun q => n2 (by unfold sPl; rw [if_neg (fun z => z.2.2 q)]; decide)
  have e1 : sPl u v = FP.Core.add FP.Core.b64 u v := by unfold sPl; rw [if_pos ⟨nu, nv, i1⟩]
  have e2 : sPl x y = FP.Core.add FP.Core.b64 x y := by unfold sPl; rw [if_pos ⟨nx, ny, i2⟩]
  rw [e1] at n1 ⊢
  rw [e2] at n2 ⊢
  have f1 := add_inf hu hv nu nv i1
  have f2 := add_inf hx hy nx ny i2
  refine slack (add_lt _ _) (add_lt _ _) n1 n2 (fun a b D U hD hU nD nU h1 h2 => ?_)
  have pi : rk 9218868437227405312 = 9218868437227405312 := by decide
  have mi : rk 18442240474082181120 = -9218868437227405312 := by decide
  have Fx : ¬ isI x := fun q => by
    rcases inf_two hx q with r | r
    · exact b ((f2.1 q).trans r)
    · have : u = 18442240474082181120 := rk_mi hu nu (by rw [r, mi] at o1; exact o1)
      exact a ((f1.1 (by rw [this])).trans this)
  have Fy : ¬ isI y := fun q => by
    rcases inf_two hy q with r | r
    · exact b ((f2.2 q).trans r)
    · have : v = 18442240474082181120 := rk_mi hv nv (by rw [r, mi] at o2; exact o2)
      exact a ((f1.2 (by rw [this])).trans this)
  have Fu : ¬ isI u := fun q => by
    rcases inf_two hu q with r | r
    · have : x = 9218868437227405312 := rk_pi hx nx (by rw [r, pi] at o1; exact o1)
      exact Fx (by rw [this])
    · exact a ((f1.1 q).trans r)
  have Fv : ¬ isI v := fun q => by
    rcases inf_two hv q with r | r
    · have : y = 9218868437227405312 := rk_pi hy ny (by rw [r, pi] at o2; exact o2)
      exact Fy (by rw [this])
    · exact a ((f1.2 q).trans r)
  have fit := fun u => FP.Core.decode_fits FP.Core.good_b64 u
  have s1 := Z_le hu hx nu nx
  have s2 := Z_le hv hy nv ny
  have k1 : Zv D < Zv u + Zv v := Int.lt_of_not_ge fun q => by
    have := FP.Core.sum_le FP.Core.good_b64 (fin_shape (u := u) (by omega)) (fin_shape (u := v) (by omega)) (fit u) (fit v) (fit D) (fun z => nD (nan_dec.mp z)) q
    rw [← dec_add] at this
    exact absurd h1 (Int.not_lt.mpr this)
  have k2 : Zv x + Zv y < Zv U := Int.lt_of_not_ge fun q => by
    have := FP.Core.sum_ge FP.Core.good_b64 (fin_shape (u := x) (by omega)) (fin_shape (u := y) (by omega)) (fit x) (fit y) (fit U) (fun z => nU (nan_dec.mp z)) q
    rw [← dec_add] at this
    exact absurd h2 (Int.not_lt.mpr this)
  have := s1.mpr o1
  have := s2.mpr o2
  omega
