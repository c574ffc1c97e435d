/-! THE MODEL'S DOUBLES: the machine's comparisons, by the bits -/
def dN (u : Nat) : UInt64 := UInt64.ofNat u
theorem dN_lN (u : Nat) : (lN u).toUInt64 = dN u := by
  apply UInt64.toBitVec_inj.mp
  show (lN u).toBitVec = _
  rw [wb_tb]; rfl
theorem dN_nat {u : Nat} (h : u < 2 ^ 64) : (dN u).toNat = u := by
  unfold dN; rw [UInt64.toNat_ofNat']; exact Nat.mod_eq_of_lt h
theorem dN_inj {u v : Nat} (hu : u < 2 ^ 64) (hv : v < 2 ^ 64) (h : dN u = dN v) : u = v := by
  rw [← dN_nat hu, ← dN_nat hv, h]
theorem dN_back (u : Nat) : (dN u).toInt64 = lN u := by
  rw [← dN_lN]; rfl
def rk (u : Nat) : Int := if 2 ^ 63 ≤ u then (2 ^ 63 : Int) - u else u
theorem dec_nan {u : Nat} (h : isN u) : FP.Core.decode FP.Core.b64 u = .nan := by
  unfold FP.Core.decode FP.Core.fieldE FP.Core.fieldT FP.Core.fieldS
  simp only [b64_exps, b64_tails]
  rw [if_pos (by omega), if_neg (by omega)]
theorem nan_dec {u : Nat} : FP.Core.decode FP.Core.b64 u = .nan ↔ isN u := by
  constructor
  · intro h
    rcases sc_dec u with q | q | q
    · rw [dec_fin (fin_iff.mp q)] at h; cases h
    · rw [dec_inf q] at h; cases h
    · exact q
  · exact dec_nan
theorem dkey_dN {u : Nat} (h : u < 2 ^ 64) : FP.Core.dkey (dN u) = rk u := by
  unfold FP.Core.dkey rk; rw [dN_nat h]; rfl
theorem dcmp_N {u v : Nat} (hu : u < 2 ^ 64) (hv : v < 2 ^ 64) : FP.dcmp (dN u) (dN v) = if isN u ∨ isN v then none else some (compare (rk u) (rk v)) := by
  have vu : FP.Core.val64 (dN u) = .nan ↔ isN u := by unfold FP.Core.val64; rw [dN_nat hu]; exact nan_dec
  have vv : FP.Core.val64 (dN v) = .nan ↔ isN v := by unfold FP.Core.val64; rw [dN_nat hv]; exact nan_dec
  by_cases h : isN u ∨ isN v
  · rw [if_pos h]; exact (FP.Core.dcmp_none _ _).mpr (by rw [vu, vv]; exact h)
  · rw [if_neg h]
    rw [← dkey_dN hu, ← dkey_dN hv]
    exact FP.Core.dcmp_key (fun q => h (.inl (vu.mp q))) (fun q => h (.inr (vv.mp q)))
abbrev bLt (u v : Nat) : Prop := ¬ isN u ∧ ¬ isN v ∧ rk u < rk v
abbrev bLe (u v : Nat) : Prop := ¬ isN u ∧ ¬ isN v ∧ rk u ≤ rk v
abbrev bEq (u v : Nat) : Prop := ¬ isN u ∧ ¬ isN v ∧ rk u = rk v
theorem cv_cases {u v : Nat} (hu : u < 2 ^ 64) (hv : v < 2 ^ 64) : ((isN u ∨ isN v) ∧ Op.cmpValue (FP.dcmp (dN u) (dN v)) .l = -1 ∧ Op.cmpValue (FP.dcmp (dN u) (dN v)) .g = 1) ∨ (bLt u v ∧ Op.cmpValue (FP.dcmp (dN u) (dN v)) .l = -1 ∧ Op.cmpValue (FP.dcmp (dN u) (dN v)) .g = -1) ∨ (bEq u v ∧ Op.cmpValue (FP.dcmp (dN u) (dN v)) .l = 0 ∧ Op.cmpValue (FP.dcmp (dN u) (dN v)) .g = 0) ∨ (bLt v u ∧ Op.cmpValue (FP.dcmp (dN u) (dN v)) .l = 1 ∧ Op.cmpValue (FP.dcmp (dN u) (dN v)) .g = 1) := by
  rw [dcmp_N hu hv]
  by_cases h : isN u ∨ isN v
  · rw [if_pos h]; exact .inl ⟨h, rfl, rfl⟩
  · rw [if_neg h]
    have h1 : ¬ isN u := fun q => h (.inl q)
    have h2 : ¬ isN v := fun q => h (.inr q)
    rcases Int.lt_trichotomy (rk u) (rk v) with q | q | q
    · refine .inr (.inl ⟨⟨h1, h2, q⟩, ?_⟩)
      rw [show compare (rk u) (rk v) = .lt from (FP.Core.compare_lt_iff _ _).mpr q]; exact ⟨rfl, rfl⟩
    · refine .inr (.inr (.inl ⟨⟨h1, h2, q⟩, ?_⟩))
      rw [show compare (rk u) (rk v) = .eq from (FP.Core.compare_eq_iff _ _).mpr q]; exact ⟨rfl, rfl⟩
    · refine .inr (.inr (.inr ⟨⟨h2, h1, q⟩, ?_⟩))
      rw [show compare (rk u) (rk v) = .gt from (FP.Core.compare_gt_iff _ _).mpr q]; exact ⟨rfl, rfl⟩
theorem cvl_eq {u v : Nat} (hu : u < 2 ^ 64) (hv : v < 2 ^ 64) : Op.cmpValue (FP.dcmp (dN u) (dN v)) .l = 0 ↔ bEq u v := by
  rcases cv_cases hu hv with ⟨h, e, _⟩ | ⟨h, e, _⟩ | ⟨h, e, _⟩ | ⟨h, e, _⟩ <;> rw [e]
  · exact ⟨fun q => absurd q (by decide), fun q => (h.elim q.1 q.2.1).elim⟩
  · exact ⟨fun q => absurd q (by decide), fun q => by have := h.2.2; have := q.2.2; omega⟩
  · exact ⟨fun _ => h, fun _ => rfl⟩
  · exact ⟨fun q => absurd q (by decide), fun q => by have := h.2.2; have := q.2.2; omega⟩
theorem cvl_le {u v : Nat} (hu : u < 2 ^ 64) (hv : v < 2 ^ 64) : Op.cmpValue (FP.dcmp (dN u) (dN v)) .l ≤ 0 ↔ ¬ bLt v u := by
  rcases cv_cases hu hv with ⟨h, e, _⟩ | ⟨h, e, _⟩ | ⟨h, e, _⟩ | ⟨h, e, _⟩ <;> rw [e]
  · exact ⟨fun _ q => h.elim q.2.1 q.1, fun _ => by decide⟩
  · exact ⟨fun _ q => by have := h.2.2; have := q.2.2; omega, fun _ => by decide⟩
  · exact ⟨fun _ q => by have := h.2.2; have := q.2.2; omega, fun _ => by decide⟩
  · exact ⟨fun q => absurd q (by decide), fun q => absurd h q⟩
theorem cvg_lt {u v : Nat} (hu : u < 2 ^ 64) (hv : v < 2 ^ 64) : Op.cmpValue (FP.dcmp (dN u) (dN v)) .g < 0 ↔ bLt u v := by
  rcases cv_cases hu hv with ⟨h, _, e⟩ | ⟨h, _, e⟩ | ⟨h, _, e⟩ | ⟨h, _, e⟩ <;> rw [e]
  · exact ⟨fun q => absurd q (by decide), fun q => (h.elim q.1 q.2.1).elim⟩
  · exact ⟨fun _ => h, fun _ => by decide⟩
  · exact ⟨fun q => absurd q (by decide), fun q => by have := h.2.2; have := q.2.2; omega⟩
  · exact ⟨fun q => absurd q (by decide), fun q => by have := h.2.2; have := q.2.2; omega⟩
theorem cvg_le {u v : Nat} (hu : u < 2 ^ 64) (hv : v < 2 ^ 64) : Op.cmpValue (FP.dcmp (dN u) (dN v)) .g ≤ 0 ↔ bLe u v := by
  rcases cv_cases hu hv with ⟨h, _, e⟩ | ⟨h, _, e⟩ | ⟨h, _, e⟩ | ⟨h, _, e⟩ <;> rw [e]
  · exact ⟨fun q => absurd q (by decide), fun q => (h.elim q.1 q.2.1).elim⟩
  · exact ⟨fun _ => ⟨h.1, h.2.1, Int.le_of_lt h.2.2⟩, fun _ => by decide⟩
  · exact ⟨fun _ => ⟨h.1, h.2.1, Int.le_of_eq h.2.2⟩, fun _ => by decide⟩
  · exact ⟨fun q => absurd q (by decide), fun q => by have := h.2.2; have := q.2.2; omega⟩
theorem n_le {a : Int32} : 0 ≤ a ↔ ¬ a < 0 := Int32.not_lt.symm
theorem n_lt {a : Int32} : 0 < a ↔ ¬ a ≤ 0 := Int32.not_le.symm
theorem cvg_ge {u v : Nat} (hu : u < 2 ^ 64) (hv : v < 2 ^ 64) : 0 ≤ Op.cmpValue (FP.dcmp (dN u) (dN v)) .g ↔ ¬ bLt u v := by rw [n_le, cvg_lt hu hv]
theorem cvg_gt {u v : Nat} (hu : u < 2 ^ 64) (hv : v < 2 ^ 64) : 0 < Op.cmpValue (FP.dcmp (dN u) (dN v)) .g ↔ ¬ bLe u v := by rw [n_lt, cvg_le hu hv]
theorem cvl_gt {u v : Nat} (hu : u < 2 ^ 64) (hv : v < 2 ^ 64) : 0 < Op.cmpValue (FP.dcmp (dN u) (dN v)) .l ↔ bLt v u := by rw [n_lt, cvl_le hu hv, Classical.not_not]
theorem cvl_ge {u v : Nat} (hu : u < 2 ^ 64) (hv : v < 2 ^ 64) : 0 ≤ Op.cmpValue (FP.dcmp (dN u) (dN v)) .l ↔ bLe v u := by
  rcases cv_cases hu hv with ⟨h, e, _⟩ | ⟨h, e, _⟩ | ⟨h, e, _⟩ | ⟨h, e, _⟩ <;> rw [e]
  · exact ⟨fun q => absurd q (by decide), fun q => (h.elim q.2.1 q.1).elim⟩
  · exact ⟨fun q => absurd q (by decide), fun q => by have := h.2.2; have := q.2.2; omega⟩
  · exact ⟨fun _ => ⟨h.2.1, h.1, Int.le_of_eq h.2.2.symm⟩, fun _ => by decide⟩
  · exact ⟨fun _ => ⟨h.1, h.2.1, Int.le_of_lt h.2.2⟩, fun _ => by decide⟩
theorem cvl_lt {u v : Nat} (hu : u < 2 ^ 64) (hv : v < 2 ^ 64) : Op.cmpValue (FP.dcmp (dN u) (dN v)) .l < 0 ↔ ¬ bLe v u := by rw [← cvl_ge hu hv, n_le, Classical.not_not]
/-- what the class does with ranks -/
theorem rk_toInt {u : Nat} (h : u < 2 ^ 64) (hn : ¬ isN u) : (fX1_rank (lN u)).toInt = rk u := by
  unfold fX1_rank rk
  have e : (lN u).toInt = if 2 ^ 63 ≤ u then (u : Int) - 2 ^ 64 else (u : Int) := by
    have : (lN u).toInt = (lN u).toBitVec.toInt := rfl
    rw [this, wb_tb, BitVec.toInt_eq_toNat_bmod, BitVec.toNat_ofNat, Nat.mod_eq_of_lt h, Int.bmod_def]
    have : ((u : Int) % ((2 ^ 64 : Nat) : Int)) = u := by omega
    rw [this]
    split <;> split <;> omega
  by_cases q : 2 ^ 63 ≤ u
  · rw [if_pos q] at e ⊢
    rw [if_pos (by rw [lg_cmp_lt, Int64.lt_iff_toInt_lt, e]; show (u : Int) - 2 ^ 64 < 0; omega)]
    rw [Int64.toInt_sub, e]
    show ((-2 ^ 63 : Int) - ((u : Int) - 2 ^ 64)).bmod (2 ^ 64) = _
    rw [Int.bmod_def]; split <;> omega
  · rw [if_neg q] at e ⊢
    rw [if_neg (by rw [lg_cmp_lt, Int64.lt_iff_toInt_lt, e]; show ¬ (u : Int) < 0; omega), e]
theorem rk_lt {u v : Nat} (hu : u < 2 ^ 64) (hv : v < 2 ^ 64) (nu : ¬ isN u) (nv : ¬ isN v) : 0 ≤ lg_cmp (fX1_rank (lN u)) (fX1_rank (lN v)) ↔ ¬ rk u < rk v := by
  rw [lg_cmp_ge, Int64.le_iff_toInt_le, rk_toInt hu nu, rk_toInt hv nv]; omega
theorem rk_gt {u v : Nat} (hu : u < 2 ^ 64) (hv : v < 2 ^ 64) (nu : ¬ isN u) (nv : ¬ isN v) : 0 < lg_cmp (fX1_rank (lN u)) (fX1_rank (lN v)) ↔ rk v < rk u := by
  rw [lg_cmp_gt, Int64.lt_iff_toInt_lt, rk_toInt hu nu, rk_toInt hv nv]
theorem isN_le {u : Nat} : u % 2 ^ 63 ≤ 9218868437227405312 ↔ ¬ isN u := by omega
theorem c_isNone {u : Nat} (h : u < 2 ^ 64) : fX1_isNone (lN u) = if isN u then 1 else 0 := by
  rw [r_isNone h]; by_cases q : isN u
  · rw [if_pos q, if_neg (by omega)]
  · rw [if_neg q, if_pos (by omega)]
theorem c_below {u v : Nat} (hu : u < 2 ^ 64) (hv : v < 2 ^ 64) : fX1_isBelow (lN u) (lN v) = if bLt u v then 1 else 0 := by
  unfold fX1_isBelow
  rw [c_isNone hu, c_isNone hv]
  by_cases n1 : isN u
  · rw [if_pos n1, if_neg (by decide), if_neg (fun h => h.1 n1)]
  · rw [if_neg n1, if_pos rfl]
    by_cases n2 : isN v
    · rw [if_pos n2, if_neg (by decide), if_neg (fun h => h.2.1 n2)]
    · rw [if_neg n2, if_pos rfl]
      by_cases q : rk u < rk v
      · rw [if_neg (by rw [rk_lt hu hv n1 n2]; exact fun h => h q), if_pos ⟨n1, n2, q⟩]
      · rw [if_pos (by rw [rk_lt hu hv n1 n2]; exact q), if_neg (fun h => q h.2.2)]
theorem c_fromto {u v w : Nat} (hu : u < 2 ^ 64) (hv : v < 2 ^ 64) (hw : w < 2 ^ 64) (nv : ¬ isN v) (nw : ¬ isN w) : fX1_isFromTo (lN u) (lN v) (lN w) = if bLe v u ∧ bLe u w then 1 else 0 := by
  unfold fX1_isFromTo
  rw [c_isNone hu]
  by_cases n1 : isN u
  · rw [if_pos n1, if_neg (by decide), if_neg (fun h => h.2.1 n1)]
  · rw [if_neg n1, if_pos rfl]
    by_cases q : rk u < rk v
    · rw [if_pos (by rw [rk_gt hv hu nv n1]; exact q), if_neg (fun h => by have := h.1.2.2; omega)]
    · rw [if_neg (by rw [rk_gt hv hu nv n1]; exact q)]
      by_cases r : rk w < rk u
      · rw [if_pos (by rw [rk_gt hu hw n1 nw]; exact r), if_neg (fun h => by have := h.2.2.2; omega)]
      · rw [if_neg (by rw [rk_gt hu hw n1 nw]; exact r), if_pos ⟨⟨nv, n1, by omega⟩, ⟨n1, nw, by omega⟩⟩]
