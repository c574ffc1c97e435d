/-! least, greatest, size, sums, products, quotients of both sides -/
theorem if_iff {c d : Prop} [Decidable c] [Decidable d] {α : Type} {a b : α} (h : c ↔ d) : (if c then a else b) = if d then a else b := by
  by_cases q : c
  · rw [if_pos q, if_pos (h.mp q)]
  · rw [if_neg q, if_neg (fun z => q (h.mpr z))]
theorem dadd_N {u v : Nat} (hu : u < 2 ^ 64) (hv : v < 2 ^ 64) : FP.dadd (dN u) (dN v) = dN (FP.Core.add FP.Core.b64 u v) := by
  show dN (FP.Core.add FP.Core.b64 (dN u).toNat (dN v).toNat) = _
  rw [dN_nat hu, dN_nat hv]
theorem dmul_N {u v : Nat} (hu : u < 2 ^ 64) (hv : v < 2 ^ 64) : FP.dmul (dN u) (dN v) = dN (FP.Core.mul FP.Core.b64 u v) := by
  show dN (FP.Core.mul FP.Core.b64 (dN u).toNat (dN v).toNat) = _
  rw [dN_nat hu, dN_nat hv]
theorem ddiv_N {u v : Nat} (hu : u < 2 ^ 64) (hv : v < 2 ^ 64) : FP.ddiv (dN u) (dN v) = dN (FP.Core.div FP.Core.b64 u v) := by
  show dN (FP.Core.div FP.Core.b64 (dN u).toNat (dN v).toNat) = _
  rw [dN_nat hu, dN_nat hv]
theorem dec_flip {v : Nat} (h : v < 2 ^ 64) : FP.Core.decode FP.Core.b64 (flip v) = FP.Core.negate (FP.Core.decode FP.Core.b64 v) := by
  unfold flip
  split
  · rename_i q
    have := FP.Core.decode_half (f := FP.Core.b64) (n := v) (by rw [FP.Core.half_b64]; exact q)
    rw [FP.Core.half_b64] at this; exact this
  · rename_i q
    have := FP.Core.decode_half (f := FP.Core.b64) (n := v - 2 ^ 63) (by rw [FP.Core.half_b64]; omega)
    rw [FP.Core.half_b64, show v - 2 ^ 63 + 2 ^ 63 = v by omega] at this
    rw [this, FP.Core.negate_negate]
theorem dsub_N {u v : Nat} (hu : u < 2 ^ 64) (hv : v < 2 ^ 64) : FP.dsub (dN u) (dN v) = dN (FP.Core.add FP.Core.b64 u (flip v)) := by
  show dN (FP.Core.sub FP.Core.b64 (dN u).toNat (dN v).toNat) = _
  rw [dN_nat hu, dN_nat hv]
  unfold FP.Core.sub FP.Core.add
  rw [dec_flip hv]
theorem dnan_N {w : Nat} (h : w < 2 ^ 64) : FP.Core.dIsNaN (dN w) = true ↔ isN w := by
  unfold FP.Core.dIsNaN FP.Core.isNaN
  rw [dN_nat h, decide_eq_true_iff]; exact nan_dec
theorem n64_N {w : Nat} (h : w < 2 ^ 64) : vf_n64 (dN w) ↔ ¬ isN w := by
  unfold vf_n64
  rw [UInt64.le_iff_toNat_le, FP.Core.mask_toNat, dN_nat h]
  show w % 2 ^ 63 ≤ 9218868437227405312 ↔ _
  omega
theorem val_nan {u : Nat} (hu : u < 2 ^ 64) : FP.Core.val64 (dN u) = .nan ↔ isN u := by unfold FP.Core.val64; rw [dN_nat hu]; exact nan_dec
theorem val_inf {u : Nat} (hu : u < 2 ^ 64) {s : Bool} (h : FP.Core.val64 (dN u) = .inf s) : isI u ∧ nS u = s := by
  unfold FP.Core.val64 at h; rw [dN_nat hu] at h
  rcases sc_dec u with q | q | q
  · rw [dec_fin (fin_iff.mp q)] at h; cases h
  · rw [dec_inf q] at h; cases h; exact ⟨q, rfl⟩
  · rw [dec_nan q] at h; cases h
theorem val_zero {u : Nat} (hu : u < 2 ^ 64) : FP.Core.DZero (dN u) ↔ u % 2 ^ 63 = 0 := by
  rw [FP.Core.zero_bits2, dN_nat hu]
theorem add_n {u v : Nat} (hu : u < 2 ^ 64) (hv : v < 2 ^ 64) (nu : ¬ isN u) (nv : ¬ isN v) (i : ¬ (isI u ∧ isI v ∧ u ≠ v)) : ¬ isN (FP.Core.add FP.Core.b64 u v) := by
  intro h
  rw [← dnan_N (add_lt u v), ← dadd_N hu hv] at h
  rcases (FP.Core.dadd_nan_iff _ _).mp h with q | q | ⟨s, q, r⟩
  · exact nu ((val_nan hu).mp q)
  · exact nv ((val_nan hv).mp q)
  · have a := val_inf hu q
    have b := val_inf hv r
    refine i ⟨a.1, b.1, fun e => ?_⟩
    rw [e, b.2] at a
    exact absurd a.2 (by cases s <;> decide)
theorem mul_lt (u v : Nat) : FP.Core.mul FP.Core.b64 u v < 2 ^ 64 := enc_lt _ (FP.Core.round_fits FP.Core.good_b64 _)
theorem div_lt (u v : Nat) : FP.Core.div FP.Core.b64 u v < 2 ^ 64 := enc_lt _ (FP.Core.quotient_fits FP.Core.good_b64 _ _)
theorem mul_n {u v : Nat} (hu : u < 2 ^ 64) (hv : v < 2 ^ 64) (nu : ¬ isN u) (nv : ¬ isN v) (i : ¬ (u % 2 ^ 63 = 0 ∧ isI v)) (j : ¬ (isI u ∧ v % 2 ^ 63 = 0)) : ¬ isN (FP.Core.mul FP.Core.b64 u v) := by
  intro h
  rw [← dnan_N (mul_lt u v), ← dmul_N hu hv] at h
  rcases (FP.Core.dmul_nan_iff _ _).mp h with q | q | ⟨s, q, r⟩ | ⟨s, q, r⟩
  · exact nu ((val_nan hu).mp q)
  · exact nv ((val_nan hv).mp q)
  · exact j ⟨(val_inf hu q).1, (val_zero hv).mp r⟩
  · exact i ⟨(val_zero hu).mp q, (val_inf hv r).1⟩
theorem div_n {u v : Nat} (hu : u < 2 ^ 64) (hv : v < 2 ^ 64) (nu : ¬ isN u) (nv : ¬ isN v) (i : ¬ (u % 2 ^ 63 = 0 ∧ v % 2 ^ 63 = 0)) (j : ¬ (isI u ∧ isI v)) : ¬ isN (FP.Core.div FP.Core.b64 u v) := by
  intro h
  rw [← dnan_N (div_lt u v), ← ddiv_N hu hv] at h
  rcases (FP.Core.ddiv_nan_iff _ _).mp h with q | q | ⟨s, t, q, r⟩ | ⟨q, r⟩
  · exact nu ((val_nan hu).mp q)
  · exact nv ((val_nan hv).mp q)
  · exact j ⟨(val_inf hu q).1, (val_inf hv r).1⟩
  · exact i ⟨(val_zero hu).mp q, (val_zero hv).mp r⟩
def sPl (u v : Nat) : Nat := if ¬ isN u ∧ ¬ isN v ∧ ¬ (isI u ∧ isI v ∧ u ≠ v) then FP.Core.add FP.Core.b64 u v else NOT64
theorem c_plus {u v : Nat} (hu : u < 2 ^ 64) (hv : v < 2 ^ 64) : fX1_plus (lN u) (lN v) = lN (sPl u v) := by
  rw [r_plus hu hv]; unfold sPl; exact congrArg lN (if_iff (by rw [isN_le, isN_le]))
theorem sPl_cn {u v : Nat} (hu : u < 2 ^ 64) (hv : v < 2 ^ 64) : Cn (sPl u v) := by
  unfold sPl; split
  · rename_i q; exact ⟨add_lt u v, fun k => absurd k (add_n hu hv q.1 q.2.1 q.2.2)⟩
  · exact Cn_NOT
def sTi (u v : Nat) : Nat := if ¬ isN u ∧ ¬ isN v ∧ ¬ (u % 2 ^ 63 = 0 ∧ isI v) ∧ ¬ (isI u ∧ v % 2 ^ 63 = 0) then FP.Core.mul FP.Core.b64 u v else NOT64
theorem c_times {u v : Nat} (hu : u < 2 ^ 64) (hv : v < 2 ^ 64) : fX1_times (lN u) (lN v) = lN (sTi u v) := by
  rw [r_times hu hv]; unfold sTi; exact congrArg lN (if_iff (by rw [isN_le, isN_le]))
theorem sTi_cn {u v : Nat} (hu : u < 2 ^ 64) (hv : v < 2 ^ 64) : Cn (sTi u v) := by
  unfold sTi; split
  · rename_i q; exact ⟨mul_lt u v, fun k => absurd k (mul_n hu hv q.1 q.2.1 q.2.2.1 q.2.2.2)⟩
  · exact Cn_NOT
def sDi (u v : Nat) : Nat := if ¬ isN u ∧ ¬ isN v ∧ ¬ (u % 2 ^ 63 = 0 ∧ v % 2 ^ 63 = 0) ∧ ¬ (isI u ∧ isI v) then FP.Core.div FP.Core.b64 u v else NOT64
theorem c_over {u v : Nat} (hu : u < 2 ^ 64) (hv : v < 2 ^ 64) : fX1_over (lN u) (lN v) = lN (sDi u v) := by
  rw [r_over hu hv]; unfold sDi; exact congrArg lN (if_iff (by rw [isN_le, isN_le]))
theorem sDi_cn {u v : Nat} (hu : u < 2 ^ 64) (hv : v < 2 ^ 64) : Cn (sDi u v) := by
  unfold sDi; split
  · rename_i q; exact ⟨div_lt u v, fun k => absurd k (div_n hu hv q.1 q.2.1 q.2.2.1 q.2.2.2)⟩
  · exact Cn_NOT
theorem m_isFar {u : Nat} (h : u < 2 ^ 64) {kr : Int32 → Prop} (k : kr (if isI u then 1 else 0)) : wX4_isFar (dN u) kr := by
  unfold wX4_isFar bX4_isFar_0
  rw [dI, dMI]
  by_cases a : u = 9218868437227405312
  · rw [if_pos (by rw [cvl_eq h (by decide), eq_inf h]; exact a)]
    rw [if_pos (by omega)] at k; exact k
  · rw [if_neg (by rw [cvl_eq h (by decide), eq_inf h]; exact a)]
    by_cases b : u = 18442240474082181120
    · rw [if_pos (by rw [cvl_eq h (by decide), eq_minf h]; exact b)]
      rw [if_pos (by omega)] at k; exact k
    · rw [if_neg (by rw [cvl_eq h (by decide), eq_minf h]; exact b)]
      rw [if_neg (by omega)] at k; exact k
theorem eq_far {u v : Nat} (hu : u < 2 ^ 64) (hv : v < 2 ^ 64) (iu : isI u) (iv : isI v) : bEq u v ↔ u = v := by
  constructor
  · rintro ⟨_, _, q⟩
    rcases rk_cases u with ⟨a, b⟩ | ⟨a, b⟩ <;> rcases rk_cases v with ⟨c, d⟩ | ⟨c, d⟩ <;> rw [b, d] at q <;> omega
  · intro e; subst e; exact ⟨by omega, by omega, rfl⟩
theorem n_self {u : Nat} (h : u < 2 ^ 64) {P Q : Prop} (n : isN u → Q) (y : ¬ isN u → P) : (if Op.cmpValue (FP.dcmp (dN u) (dN u)) .l = 0 then P else Q) := by
  by_cases q : isN u
  · rw [if_neg (by rw [self_eq h]; exact fun z => z q)]; exact n q
  · rw [if_pos (by rw [self_eq h]; exact q)]; exact y q
theorem m_added {u v : Nat} (hu : u < 2 ^ 64) (hv : v < 2 ^ 64) {kr : UInt64 → Prop} (k : kr (dN (sPl u v))) : wX4_added (dN u) (dN v) kr := by
  unfold wX4_added bX4_added_0
  unfold sPl at k
  refine n_self hu (fun n => ?_) (fun nu => n_self hv (fun n => ?_) (fun nv => ?_))
  · rw [if_neg (fun z => z.1 n)] at k; exact k
  · rw [if_neg (fun z => z.2.1 n)] at k; exact k
  · have good : ¬ (isI u ∧ isI v ∧ u ≠ v) → vf_n64 (FP.dadd (dN u) (dN v)) ∧ kr (FP.dadd (dN u) (dN v)) := by
      intro i
      rw [if_pos ⟨nu, nv, i⟩] at k
      rw [dadd_N hu hv]
      exact ⟨(n64_N (add_lt u v)).mpr (add_n hu hv nu nv i), k⟩
    refine m_isFar hu ?_
    by_cases iu : isI u
    · rw [if_pos iu, if_neg (by decide)]
      refine m_isFar hv ?_
      by_cases iv : isI v
      · rw [if_pos iv, if_neg (by decide)]
        by_cases e : u = v
        · rw [if_pos (by rw [cvl_eq hu hv, eq_far hu hv iu iv]; exact e)]; exact good (fun z => z.2.2 e)
        · rw [if_neg (by rw [cvl_eq hu hv, eq_far hu hv iu iv]; exact e)]
          rw [if_neg (fun z => z.2.2 ⟨iu, iv, e⟩)] at k; exact k
      · rw [if_neg iv, if_pos rfl]; exact good (fun z => iv z.2.1)
    · rw [if_neg iu, if_pos rfl]; exact good (fun z => iu z.1)
theorem flip_ne {u v : Nat} (hu : u < 2 ^ 64) (hv : v < 2 ^ 64) (iu : isI u) (iv : isI v) : u ≠ flip v ↔ u = v := by
  unfold flip; split <;> omega
theorem sPl_sub {u v : Nat} (hu : u < 2 ^ 64) (hv : v < 2 ^ 64) : sPl u (sNeg v) = if ¬ isN u ∧ ¬ isN v ∧ ¬ (isI u ∧ isI v ∧ u = v) then FP.Core.add FP.Core.b64 u (flip v) else NOT64 := by
  unfold sPl
  by_cases nv : isN v
  · rw [if_neg (fun z => z.2.1 ((sNeg_n hv).mpr nv)), if_neg (fun z => z.2.1 nv)]
  · rw [sNeg_flip nv]
    have e1 : isN (flip v) ↔ isN v := by unfold isN; rw [flip_mod hv]
    have e2 : isI (flip v) ↔ isI v := by unfold isI; rw [flip_mod hv]
    have e3 : (isI u ∧ isI v ∧ u ≠ flip v) ↔ (isI u ∧ isI v ∧ u = v) :=
      ⟨fun h => ⟨h.1, h.2.1, (flip_ne hu hv h.1 h.2.1).mp h.2.2⟩, fun h => ⟨h.1, h.2.1, (flip_ne hu hv h.1 h.2.1).mpr h.2.2⟩⟩
    exact if_iff (by rw [e1, e2, e3])
theorem m_lessened {u v : Nat} (hu : u < 2 ^ 64) (hv : v < 2 ^ 64) {kr : UInt64 → Prop} (k : kr (dN (sPl u (sNeg v)))) : wX4_lessened (dN u) (dN v) kr := by
  unfold wX4_lessened bX4_lessened_0
  rw [sPl_sub hu hv] at k
  refine n_self hu (fun n => ?_) (fun nu => n_self hv (fun n => ?_) (fun nv => ?_))
  · rw [if_neg (fun z => z.1 n)] at k; exact k
  · rw [if_neg (fun z => z.2.1 n)] at k; exact k
  · have good : ¬ (isI u ∧ isI v ∧ u = v) → vf_n64 (FP.dsub (dN u) (dN v)) ∧ kr (FP.dsub (dN u) (dN v)) := by
      intro i
      rw [if_pos ⟨nu, nv, i⟩] at k
      rw [dsub_N hu hv]
      refine ⟨(n64_N (add_lt u _)).mpr (add_n hu (flip_lt hv) nu (by unfold isN; rw [flip_mod hv]; exact nv) ?_), k⟩
      intro z
      have iv : isI v := by have := z.2.1; unfold isI at this ⊢; rwa [flip_mod hv] at this
      exact i ⟨z.1, iv, (flip_ne hu hv z.1 iv).mp z.2.2⟩
    refine m_isFar hu ?_
    by_cases iu : isI u
    · rw [if_pos iu, if_neg (by decide)]
      by_cases e : u = v
      · rw [if_pos (by rw [cvl_eq hu hv, eq_far hu hv iu (e ▸ iu)]; exact e)]
        rw [if_neg (fun z => z.2.2 ⟨iu, e ▸ iu, e⟩)] at k; exact k
      · rw [if_neg (by
          rw [cvl_eq hu hv]; rintro ⟨_, _, q⟩
          rcases rk_cases u with ⟨a, b⟩ | ⟨a, b⟩ <;> rcases rk_cases v with ⟨c, d⟩ | ⟨c, d⟩ <;> rw [b, d] at q <;> omega)]
        exact good (fun z => e z.2.2)
    · rw [if_neg iu, if_pos rfl]; exact good (fun z => iu z.1)
theorem m_timed {u v : Nat} (hu : u < 2 ^ 64) (hv : v < 2 ^ 64) {kr : UInt64 → Prop} (k : kr (dN (sTi u v))) : wX4_timed (dN u) (dN v) kr := by
  unfold wX4_timed bX4_timed_0
  unfold sTi at k
  rw [d0]
  refine n_self hu (fun n => ?_) (fun nu => n_self hv (fun n => ?_) (fun nv => ?_))
  · rw [if_neg (fun z => z.1 n)] at k; exact k
  · rw [if_neg (fun z => z.2.1 n)] at k; exact k
  · have good : ¬ (u % 2 ^ 63 = 0 ∧ isI v) → ¬ (isI u ∧ v % 2 ^ 63 = 0) → vf_n64 (FP.dmul (dN u) (dN v)) ∧ kr (FP.dmul (dN u) (dN v)) := by
      intro i j
      rw [if_pos ⟨nu, nv, i, j⟩] at k
      rw [dmul_N hu hv]
      exact ⟨(n64_N (mul_lt u v)).mpr (mul_n hu hv nu nv i j), k⟩
    have zu : Op.cmpValue (FP.dcmp (dN u) (dN 0)) .l = 0 ↔ u % 2 ^ 63 = 0 := by rw [cvl_eq hu (by decide), eq_zero hu]
    have zv : Op.cmpValue (FP.dcmp (dN v) (dN 0)) .l = 0 ↔ v % 2 ^ 63 = 0 := by rw [cvl_eq hv (by decide), eq_zero hv]
    by_cases a : u % 2 ^ 63 = 0
    · rw [if_pos (zu.mpr a)]
      refine m_isFar hv ?_
      by_cases iv : isI v
      · rw [if_pos iv, if_neg (by decide)]
        rw [if_neg (fun z => z.2.2.1 ⟨a, iv⟩)] at k; exact k
      · rw [if_neg iv, if_pos rfl]
        refine m_isFar hu ?_
        have iu : ¬ isI u := by omega
        rw [if_neg iu, if_pos rfl]; exact good (fun z => iv z.2) (fun z => iu z.1)
    · rw [if_neg (fun z => a (zu.mp z))]
      refine m_isFar hu ?_
      by_cases iu : isI u
      · rw [if_pos iu, if_neg (by decide)]
        by_cases b : v % 2 ^ 63 = 0
        · rw [if_pos (zv.mpr b)]; rw [if_neg (fun z => z.2.2.2 ⟨iu, b⟩)] at k; exact k
        · rw [if_neg (fun z => b (zv.mp z))]; exact good (fun z => a z.1) (fun z => b z.2)
      · rw [if_neg iu, if_pos rfl]; exact good (fun z => a z.1) (fun z => iu z.1)
theorem m_divided {u v : Nat} (hu : u < 2 ^ 64) (hv : v < 2 ^ 64) {kr : UInt64 → Prop} (k : kr (dN (sDi u v))) : wX4_divided (dN u) (dN v) kr := by
  unfold wX4_divided bX4_divided_0
  unfold sDi at k
  rw [d0]
  refine n_self hu (fun n => ?_) (fun nu => n_self hv (fun n => ?_) (fun nv => ?_))
  · rw [if_neg (fun z => z.1 n)] at k; exact k
  · rw [if_neg (fun z => z.2.1 n)] at k; exact k
  · have good : ¬ (u % 2 ^ 63 = 0 ∧ v % 2 ^ 63 = 0) → ¬ (isI u ∧ isI v) → vf_n64 (FP.ddiv (dN u) (dN v)) ∧ kr (FP.ddiv (dN u) (dN v)) := by
      intro i j
      rw [if_pos ⟨nu, nv, i, j⟩] at k
      rw [ddiv_N hu hv]
      exact ⟨(n64_N (div_lt u v)).mpr (div_n hu hv nu nv i j), k⟩
    have zu : Op.cmpValue (FP.dcmp (dN u) (dN 0)) .l = 0 ↔ u % 2 ^ 63 = 0 := by rw [cvl_eq hu (by decide), eq_zero hu]
    have zv : Op.cmpValue (FP.dcmp (dN v) (dN 0)) .l = 0 ↔ v % 2 ^ 63 = 0 := by rw [cvl_eq hv (by decide), eq_zero hv]
    have tail : ¬ (u % 2 ^ 63 = 0 ∧ v % 2 ^ 63 = 0) → wX4_isFar (dN u) (fun r1 => (if r1 = 0 then (vf_n64 (FP.ddiv (dN u) (dN v)) ∧ kr (FP.ddiv (dN u) (dN v))) else (wX4_isFar (dN v) (fun r2 => (if r2 = 0 then (vf_n64 (FP.ddiv (dN u) (dN v)) ∧ kr (FP.ddiv (dN u) (dN v))) else kr (9221120237041090560 : UInt64)))))) := by
      intro i
      refine m_isFar hu ?_
      by_cases iu : isI u
      · rw [if_pos iu, if_neg (by decide)]
        refine m_isFar hv ?_
        by_cases iv : isI v
        · rw [if_pos iv, if_neg (by decide)]
          rw [if_neg (fun z => z.2.2.2 ⟨iu, iv⟩)] at k; exact k
        · rw [if_neg iv, if_pos rfl]; exact good i (fun z => iv z.2)
      · rw [if_neg iu, if_pos rfl]; exact good i (fun z => iu z.1)
    by_cases a : u % 2 ^ 63 = 0
    · rw [if_pos (zu.mpr a)]
      by_cases b : v % 2 ^ 63 = 0
      · rw [if_pos (zv.mpr b)]; rw [if_neg (fun z => z.2.2.1 ⟨a, b⟩)] at k; exact k
      · rw [if_neg (fun z => b (zv.mp z))]; exact tail (fun z => b z.2)
    · rw [if_neg (fun z => a (zu.mp z))]; exact tail (fun z => a z.1)
/-- the rank with -0.0 below 0.0 -/
def srk (u : Nat) : Int := if 2 ^ 63 ≤ u then (2 ^ 63 : Int) - u - 1 else u
theorem srk_cases (u : Nat) : (2 ^ 63 ≤ u ∧ srk u = (2 ^ 63 : Int) - u - 1) ∨ (u < 2 ^ 63 ∧ srk u = u) := by
  unfold srk; by_cases h : 2 ^ 63 ≤ u
  · exact .inl ⟨h, if_pos h⟩
  · exact .inr ⟨by omega, if_neg h⟩
theorem lN_int {u : Nat} (h : u < 2 ^ 64) : (lN u).toInt = if 2 ^ 63 ≤ u then (u : Int) - 2 ^ 64 else (u : Int) := by
  have : (lN u).toInt = (lN u).toBitVec.toInt := rfl
  rw [this, wb_tb, BitVec.toInt_eq_toNat_bmod, BitVec.toNat_ofNat, Nat.mod_eq_of_lt h, Int.bmod_def]
  split <;> split <;> omega
theorem xor_all {m : Nat} (h : m < 2 ^ 64) : m ^^^ (2 ^ 64 - 1) = 2 ^ 64 - 1 - m := by
  apply Nat.eq_of_testBit_eq
  intro i
  rw [Nat.testBit_xor, Nat.testBit_two_pow_sub_one, show 2 ^ 64 - 1 - m = 2 ^ 64 - (m + 1) by omega, Nat.testBit_two_pow_sub_succ h]
  by_cases q : i < 64
  · rw [decide_eq_true q]; cases m.testBit i <;> rfl
  · rw [decide_eq_false q, Nat.testBit_lt_two_pow (Nat.lt_of_lt_of_le h (Nat.pow_le_pow_right (by decide) (Nat.le_of_not_lt q)))]; rfl
theorem srk_int {u : Nat} (h : u < 2 ^ 64) : (fX1_strictRank (lN u)).toInt = srk u := by
  unfold fX1_strictRank srk
  have e := lN_int h
  by_cases q : 2 ^ 63 ≤ u
  · rw [if_pos q] at e ⊢
    rw [if_pos (by rw [lg_cmp_lt, Int64.lt_iff_toInt_lt, e]; show (u : Int) - 2 ^ 64 < 0; omega)]
    rw [mag_and h, show (-1 : Int64) = lN (2 ^ 64 - 1) from rfl, x_lN, xor_all (by omega), lN_int (by omega), if_pos (by omega)]
    omega
  · rw [if_neg q] at e ⊢
    rw [if_neg (by rw [lg_cmp_lt, Int64.lt_iff_toInt_lt, e]; show ¬ (u : Int) < 0; omega), e]
def sMi (u v : Nat) : Nat := if isN u ∨ isN v then NOT64 else if srk v < srk u then v else u
def sMa (u v : Nat) : Nat := if isN u ∨ isN v then NOT64 else if srk u < srk v then v else u
theorem c_lesser {u v : Nat} (hu : u < 2 ^ 64) (hv : v < 2 ^ 64) : fX1_lesser (lN u) (lN v) = lN (sMi u v) := by
  unfold fX1_lesser sMi
  rw [c_isNone hu, c_isNone hv]
  by_cases n1 : isN u
  · rw [if_pos n1, if_neg (by decide), if_pos (.inl n1)]; rfl
  · rw [if_neg n1, if_pos rfl]
    by_cases n2 : isN v
    · rw [if_pos n2, if_neg (by decide), if_pos (.inr n2)]; rfl
    · rw [if_neg n2, if_pos rfl, if_neg (show ¬ (isN u ∨ isN v) from fun z => z.elim n1 n2)]
      have e : 0 < lg_cmp (fX1_strictRank (lN u)) (fX1_strictRank (lN v)) ↔ srk v < srk u := by rw [lg_cmp_gt, Int64.lt_iff_toInt_lt, srk_int hu, srk_int hv]
      by_cases q : srk v < srk u
      · rw [if_pos (e.mpr q), if_pos q]
      · rw [if_neg (fun z => q (e.mp z)), if_neg q]
theorem c_greater {u v : Nat} (hu : u < 2 ^ 64) (hv : v < 2 ^ 64) : fX1_greater (lN u) (lN v) = lN (sMa u v) := by
  unfold fX1_greater sMa
  rw [c_isNone hu, c_isNone hv]
  by_cases n1 : isN u
  · rw [if_pos n1, if_neg (by decide), if_pos (.inl n1)]; rfl
  · rw [if_neg n1, if_pos rfl]
    by_cases n2 : isN v
    · rw [if_pos n2, if_neg (by decide), if_pos (.inr n2)]; rfl
    · rw [if_neg n2, if_pos rfl, if_neg (show ¬ (isN u ∨ isN v) from fun z => z.elim n1 n2)]
      have e : lg_cmp (fX1_strictRank (lN u)) (fX1_strictRank (lN v)) < 0 ↔ srk u < srk v := by rw [lg_cmp_lt, Int64.lt_iff_toInt_lt, srk_int hu, srk_int hv]
      by_cases q : srk u < srk v
      · rw [if_pos (e.mpr q), if_pos q]
      · rw [if_neg (fun z => q (e.mp z)), if_neg q]
theorem sMi_cn {u v : Nat} (hu : u < 2 ^ 64) (hv : v < 2 ^ 64) : Cn (sMi u v) := by
  unfold sMi; split
  · exact Cn_NOT
  · rename_i q; split
    · exact ⟨hv, fun k => absurd (.inr k) q⟩
    · exact ⟨hu, fun k => absurd (.inl k) q⟩
theorem sMa_cn {u v : Nat} (hu : u < 2 ^ 64) (hv : v < 2 ^ 64) : Cn (sMa u v) := by
  unfold sMa; split
  · exact Cn_NOT
  · rename_i q; split
    · exact ⟨hv, fun k => absurd (.inr k) q⟩
    · exact ⟨hu, fun k => absurd (.inl k) q⟩
theorem sMa_n {u v : Nat} : isN (sMa u v) ↔ isN u ∨ isN v := by
  unfold sMa; split
  · rename_i q; exact ⟨fun _ => q, fun _ => NOT_n⟩
  · rename_i q; split
    · exact ⟨fun k => absurd (.inr k) q, fun k => absurd k q⟩
    · exact ⟨fun k => absurd (.inl k) q, fun k => absurd k q⟩
theorem m_least {u v : Nat} (hu : Cn u) (hv : Cn v) {kr : UInt64 → Prop} (k : kr (dN (sMi u v))) : wX4_least (dN u) (dN v) kr := by
  unfold wX4_least bX4_least_0
  unfold sMi at k
  refine n_self hu.1 (fun n => ?_) (fun nu => n_self hv.1 (fun n => ?_) (fun nv => ?_))
  · rw [if_pos (.inl n)] at k; exact k
  · rw [if_pos (.inr n)] at k; exact k
  · rw [if_neg (show ¬ (isN u ∨ isN v) from fun z => z.elim nu nv)] at k
    have h1 := hu.1; have h2 := hv.1
    by_cases a : rk u < rk v
    · rw [if_pos (by rw [cvg_lt h1 h2]; exact ⟨nu, nv, a⟩)]
      rw [if_neg (by
        rcases rk_cases u with ⟨x, y⟩ | ⟨x, y⟩ <;> rcases rk_cases v with ⟨c, d⟩ | ⟨c, d⟩ <;> rcases srk_cases u with ⟨e, f⟩ | ⟨e, f⟩ <;> rcases srk_cases v with ⟨g, h⟩ | ⟨g, h⟩ <;> rw [y, d] at a <;> rw [f, h] <;> omega)] at k
      exact k
    · rw [if_neg (by rw [cvg_lt h1 h2]; exact fun z => a z.2.2)]
      by_cases b : rk u = rk v
      · rw [if_pos (by rw [cvl_eq h1 h2]; exact ⟨nu, nv, b⟩)]
        refine m_isMinus hu ?_
        by_cases s : 2 ^ 63 ≤ u
        · rw [if_pos s, if_neg (by decide)]
          rw [if_neg (by
            rcases rk_cases u with ⟨x, y⟩ | ⟨x, y⟩ <;> rcases rk_cases v with ⟨c, d⟩ | ⟨c, d⟩ <;> rcases srk_cases u with ⟨e, f⟩ | ⟨e, f⟩ <;> rcases srk_cases v with ⟨g, h⟩ | ⟨g, h⟩ <;> rw [y, d] at b <;> rw [f, h] <;> omega)] at k
          exact k
        · rw [if_neg s, if_pos rfl]
          by_cases t : srk v < srk u
          · rw [if_pos t] at k; exact k
          · rw [if_neg t] at k
            have : v = u := by
              rcases rk_cases u with ⟨x, y⟩ | ⟨x, y⟩ <;> rcases rk_cases v with ⟨c, d⟩ | ⟨c, d⟩ <;> rcases srk_cases u with ⟨e, f⟩ | ⟨e, f⟩ <;> rcases srk_cases v with ⟨g, h⟩ | ⟨g, h⟩ <;> rw [y, d] at b <;> rw [f, h] at t <;> omega
            rw [this]; exact k
      · rw [if_neg (by rw [cvl_eq h1 h2]; exact fun z => b z.2.2)]
        rw [if_pos (by
            rcases rk_cases u with ⟨x, y⟩ | ⟨x, y⟩ <;> rcases rk_cases v with ⟨c, d⟩ | ⟨c, d⟩ <;> rcases srk_cases u with ⟨e, f⟩ | ⟨e, f⟩ <;> rcases srk_cases v with ⟨g, h⟩ | ⟨g, h⟩ <;> rw [y, d] at b a <;> rw [f, h] <;> omega)] at k
        exact k
theorem m_greatest {u v : Nat} (hu : Cn u) (hv : Cn v) {kr : UInt64 → Prop} (k : kr (dN (sMa u v))) : wX4_greatest (dN u) (dN v) kr := by
  unfold wX4_greatest bX4_greatest_0
  unfold sMa at k
  refine n_self hu.1 (fun n => ?_) (fun nu => n_self hv.1 (fun n => ?_) (fun nv => ?_))
  · rw [if_pos (.inl n)] at k; exact k
  · rw [if_pos (.inr n)] at k; exact k
  · rw [if_neg (show ¬ (isN u ∨ isN v) from fun z => z.elim nu nv)] at k
    have h1 := hu.1; have h2 := hv.1
    by_cases a : rk v < rk u
    · rw [if_pos (by rw [cvl_gt h1 h2]; exact ⟨nv, nu, a⟩)]
      rw [if_neg (by
        rcases rk_cases u with ⟨x, y⟩ | ⟨x, y⟩ <;> rcases rk_cases v with ⟨c, d⟩ | ⟨c, d⟩ <;> rcases srk_cases u with ⟨e, f⟩ | ⟨e, f⟩ <;> rcases srk_cases v with ⟨g, h⟩ | ⟨g, h⟩ <;> rw [y, d] at a <;> rw [f, h] <;> omega)] at k
      exact k
    · rw [if_neg (by rw [cvl_gt h1 h2]; exact fun z => a z.2.2)]
      by_cases b : rk u = rk v
      · rw [if_pos (by rw [cvl_eq h1 h2]; exact ⟨nu, nv, b⟩)]
        refine m_isMinus hu ?_
        by_cases s : 2 ^ 63 ≤ u
        · rw [if_pos s, if_neg (by decide)]
          by_cases t : srk u < srk v
          · rw [if_pos t] at k; exact k
          · rw [if_neg t] at k
            have : v = u := by
              rcases rk_cases u with ⟨x, y⟩ | ⟨x, y⟩ <;> rcases rk_cases v with ⟨c, d⟩ | ⟨c, d⟩ <;> rcases srk_cases u with ⟨e, f⟩ | ⟨e, f⟩ <;> rcases srk_cases v with ⟨g, h⟩ | ⟨g, h⟩ <;> rw [y, d] at b <;> rw [f, h] at t <;> omega
            rw [this]; exact k
        · rw [if_neg s, if_pos rfl]
          rw [if_neg (by
            rcases rk_cases u with ⟨x, y⟩ | ⟨x, y⟩ <;> rcases rk_cases v with ⟨c, d⟩ | ⟨c, d⟩ <;> rcases srk_cases u with ⟨e, f⟩ | ⟨e, f⟩ <;> rcases srk_cases v with ⟨g, h⟩ | ⟨g, h⟩ <;> rw [y, d] at b <;> rw [f, h] <;> omega)] at k
          exact k
      · rw [if_neg (by rw [cvl_eq h1 h2]; exact fun z => b z.2.2)]
        rw [if_pos (by
            rcases rk_cases u with ⟨x, y⟩ | ⟨x, y⟩ <;> rcases rk_cases v with ⟨c, d⟩ | ⟨c, d⟩ <;> rcases srk_cases u with ⟨e, f⟩ | ⟨e, f⟩ <;> rcases srk_cases v with ⟨g, h⟩ | ⟨g, h⟩ <;> rw [y, d] at b a <;> rw [f, h] <;> omega)] at k
        exact k
