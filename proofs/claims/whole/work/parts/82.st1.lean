/-! BOXES: widths, middles, kinds, weights, by the state -/
def TWO64 : Nat := 4611686018427387904
def ONE64 : Nat := 4607182418800017408
def wdt (S : St) (b d : Nat) : Nat := sPl (S.2 6 (6 * b + 2 * d + 1)) (sNeg (S.2 6 (6 * b + 2 * d)))
def widT (S : St) (b : Nat) : Nat → Nat
  | 0 => 0
  | n + 1 => if bLt (wdt S b (widT S b n)) (wdt S b n) then n else widT S b n
theorem widT_lt (S : St) (b : Nat) : ∀ n, widT S b n < n ∨ (n = 0 ∧ widT S b n = 0)
  | 0 => .inr ⟨rfl, rfl⟩
  | n + 1 => by
    have := widT_lt S b n
    refine .inl ?_
    show (if bLt (wdt S b (widT S b n)) (wdt S b n) then n else widT S b n) < n + 1
    split <;> omega
def wid (S : St) (b : Nat) : Nat := widT S b (S.1 0)
theorem wid_lt {S : St} {b : Nat} (h : 0 < S.1 0) : wid S b < S.1 0 := by
  have := widT_lt S b (S.1 0); unfold wid; omega
def mid (S : St) (b : Nat) : Nat := sPl (S.2 6 (6 * b + 2 * wid S b)) (sDi (wdt S b (wid S b)) TWO64)
abbrev tgt (S : St) (b : Nat) : Prop := ¬ bLt (S.2 6 (6 * b + 2 * wid S b)) (mid S b) ∨ ¬ bLt (mid S b) (S.2 6 (6 * b + 2 * wid S b + 1))
def hold (S : St) (b r : Nat) : Nat := if S.2 5 r = 0 then 1 else if bLt 0 (enc S b (S.2 5 r - 1)).1 then 1 else if ¬ bLt 0 (enc S b (S.2 5 r - 1)).2 then 0 else 2
def kindOf (S : St) (b : Nat) : Nat := if hold S b 0 = 0 then 0 else if hold S b 0 = 1 then (if hold S b 1 = 1 then 1 else if hold S b 1 = 0 then 2 else 3) else 3
def wS (S : St) (b d : Nat) (p : Nat × Nat) : Nat × Nat := if S.2 5 (2 + d) = 0 then (sLt p.1 (sDn (wdt S b d)), sHt p.2 (sUp (wdt S b d))) else (sLt (sLt p.1 (sDn (wdt S b d))) (enc S b (S.2 5 (2 + d) - 1)).1, sHt (sHt p.2 (sUp (wdt S b d))) (enc S b (S.2 5 (2 + d) - 1)).2)
def wT (S : St) (b : Nat) : Nat → Nat × Nat
  | 0 => (ONE64, ONE64)
  | d + 1 => wS S b d (wT S b d)
def sI (S : St) (k x : Nat) : St := (fun j => if j = k then x else S.1 j, S.2)
def sR (S : St) (k : Nat) (f : Nat → Nat) : St := (S.1, fun j => if j = k then f else S.2 j)
def uN (f : Nat → Nat) (k x : Nat) : Nat → Nat := fun j => if j = k then x else f j
def judge (S : St) (b : Nat) : St := sR (sR (sR S 7 (uN (S.2 7) b (kindOf S b))) 8 (uN (S.2 8) b (wT S b (S.1 0)).1)) 9 (uN (S.2 9) b (wT S b (S.1 0)).2)
def nxT (S : St) : Nat → Nat
  | 0 => 0
  | n + 1 => if S.2 7 n = 3 ∧ ¬ tgt S n ∧ (nxT S n = 0 ∨ bLt (S.2 9 (nxT S n - 1)) (S.2 9 n)) then n + 1 else nxT S n
def nxt (S : St) : Nat := nxT S (S.1 2)
theorem nxT_le (S : St) : ∀ n, nxT S n ≤ n
  | 0 => Nat.le_refl _
  | n + 1 => by
    have := nxT_le S n
    show (if S.2 7 n = 3 ∧ ¬ tgt S n ∧ (nxT S n = 0 ∨ bLt (S.2 9 (nxT S n - 1)) (S.2 9 n)) then n + 1 else nxT S n) ≤ n + 1
    split <;> omega
theorem nxT_ok (S : St) : ∀ n, nxT S n ≠ 0 → S.2 7 (nxT S n - 1) = 3 ∧ ¬ tgt S (nxT S n - 1)
  | 0 => fun h => absurd rfl h
  | n + 1 => by
    have ih := nxT_ok S n
    intro h
    have e : nxT S (n + 1) = if S.2 7 n = 3 ∧ ¬ tgt S n ∧ (nxT S n = 0 ∨ bLt (S.2 9 (nxT S n - 1)) (S.2 9 n)) then n + 1 else nxT S n := rfl
    by_cases q : S.2 7 n = 3 ∧ ¬ tgt S n ∧ (nxT S n = 0 ∨ bLt (S.2 9 (nxT S n - 1)) (S.2 9 n))
    · rw [if_pos q] at e
      rw [e]; exact ⟨q.1, q.2.1⟩
    · rw [if_neg q] at e
      rw [e] at h ⊢; exact ih h
def split (S : St) (b : Nat) : St :=
  sI (sR S 6 (fun j => if j = 6 * b + 2 * wid S b + 1 then mid S b else if j = 6 * S.1 2 + 2 * wid S b then mid S b else if 6 * S.1 2 ≤ j ∧ j < 6 * S.1 2 + 6 then S.2 6 (6 * b + (j - 6 * S.1 2)) else S.2 6 j)) 2 (S.1 2 + 1)
def step (S : St) (b : Nat) : St := judge (judge (split S b) b) (S.1 2)
def runT : Nat → St → St
  | 0, S => S
  | k + 1, S => if nxt S = 0 ∨ 100 ≤ S.1 2 then S else runT k (step S (nxt S - 1))
def begS (S : St) : St := judge (sI (sR S 6 (fun j => if j < 2 * S.1 0 then S.2 0 j else S.2 6 j)) 2 1) 0
def lmT (S : St) (k : Nat) : Nat → Nat
  | 0 => 0
  | n + 1 => if S.2 7 n = k then sZl (sDn (sPl (lmT S k n) (S.2 8 n))) else lmT S k n
def hmT (S : St) (k : Nat) : Nat → Nat
  | 0 => 0
  | n + 1 => if S.2 7 n = k then sUp (sPl (hmT S k n) (S.2 9 n)) else hmT S k n
/-! weights are never below 0, nor none -/
def WN (u : Nat) : Prop := u < 2 ^ 64 ∧ ¬ isN u ∧ 0 ≤ rk u
theorem WN_0 : WN 0 := by refine ⟨by decide, by decide, by decide⟩
theorem WN_1 : WN ONE64 := by refine ⟨by decide, by decide, by decide⟩
theorem WN_I : WN 9218868437227405312 := by refine ⟨by decide, by decide, by decide⟩
theorem WN.cn {u : Nat} (h : WN u) : Cn u := Cn_of h.1 h.2.1
theorem WN_zl {u : Nat} (h : u < 2 ^ 64) : WN (sZl u) := by
  refine ⟨(sZl_cn h).1, sZl_n, ?_⟩
  unfold sZl
  by_cases q : isN u ∨ bLt u 0
  · rw [if_pos q]; decide
  · rw [if_neg q]
    exact Int.not_lt.mp fun z => q (.inr ⟨fun n => q (.inl n), by decide, by rw [show rk 0 = 0 from by decide]; exact z⟩)
theorem WN_up {u : Nat} (h : WN u) : WN (sUp u) := ⟨sUp_lt h.1, by rw [sUp_n h.1]; exact h.2.1, Int.le_trans h.2.2 (up_ge h.1 h.2.1)⟩
theorem WN_inf {u : Nat} (h : WN u) (i : isI u) : u = 9218868437227405312 := by
  rcases inf_two h.1 i with r | r
  · exact r
  · have := h.2.2; rw [r] at this; exact absurd this (by decide)
theorem Z_nn {u : Nat} (h : WN u) : 0 ≤ Zv u := by
  have := (Z_le (u := 0) (v := u) (by decide) h.1 (by decide) h.2.1).mpr (by rw [show rk 0 = 0 from by decide]; exact h.2.2)
  rw [Z_zero] at this; exact this
theorem WN_of_Z {u : Nat} (h : u < 2 ^ 64) (n : ¬ isN u) (z : 0 ≤ Zv u) : WN u := by
  refine ⟨h, n, ?_⟩
  have := (Z_le (u := 0) (v := u) (by decide) h (by decide) n).mp (by rw [Z_zero]; exact z)
  rw [show rk 0 = 0 from by decide] at this; exact this
theorem pl_WN {u v : Nat} (hu : WN u) (hv : WN v) : sPl u v = FP.Core.add FP.Core.b64 u v ∧ WN (sPl u v) := by
  have i : ¬ (isI u ∧ isI v ∧ u ≠ v) := fun q => q.2.2 ((WN_inf hu q.1).trans (WN_inf hv q.2.1).symm)
  have e : sPl u v = FP.Core.add FP.Core.b64 u v := by unfold sPl; rw [if_pos ⟨hu.2.1, hv.2.1, i⟩]
  refine ⟨e, ?_⟩
  rw [e]
  have n := add_n hu.1 hv.1 hu.2.1 hv.2.1 i
  have f := add_inf hu.1 hv.1 hu.2.1 hv.2.1 i
  by_cases iu : isI u
  · rw [f.1 iu]; exact hu
  · by_cases iv : isI v
    · rw [f.2 iv]; exact hv
    · refine WN_of_Z (add_lt _ _) n ?_
      have fit := fun u => FP.Core.decode_fits FP.Core.good_b64 u
      have hn := hu.2.1
      have hm := hv.2.1
      have := FP.Core.sum_ge FP.Core.good_b64 (V := FP.Core.decode FP.Core.b64 0) (fin_shape (u := u) (by omega)) (fin_shape (u := v) (by omega)) (fit u) (fit v) (fit 0) (fun z => absurd (nan_dec.mp z) (by decide)) (by
        show Zv 0 ≤ Zv u + Zv v
        rw [Z_zero]; have := Z_nn hu; have := Z_nn hv; omega)
      rw [← dec_add] at this
      have : Zv 0 ≤ Zv (FP.Core.add FP.Core.b64 u v) := this
      rw [Z_zero] at this; exact this
theorem ti_WN {u v : Nat} (hu : WN u) (hv : WN v) : isN (sTi u v) ∨ WN (sTi u v) := by
  by_cases n : isN (sTi u v)
  · exact .inl n
  · refine .inr ?_
    have c : ¬ isN u ∧ ¬ isN v ∧ ¬ (u % 2 ^ 63 = 0 ∧ isI v) ∧ ¬ (isI u ∧ v % 2 ^ 63 = 0) := Classical.byContradiction fun q => n (by unfold sTi; rw [if_neg q]; decide)
    have e : sTi u v = FP.Core.mul FP.Core.b64 u v := by unfold sTi; rw [if_pos c]
    rw [e] at n ⊢
    have L := mul_lt u v
    have D := dec_mul (u := u) (v := v)
    have D1 : FP.Core.dmul (dN u) (dN v) = dN (FP.Core.mul FP.Core.b64 u v) := dmul_N hu.1 hv.1
    have zero : (FP.Core.mul FP.Core.b64 u v) % 2 ^ 63 = 0 → WN (FP.Core.mul FP.Core.b64 u v) := by
      intro z
      refine ⟨L, n, ?_⟩
      rcases rk_cases (FP.Core.mul FP.Core.b64 u v) with ⟨a, b⟩ | ⟨a, b⟩ <;> omega
    have sg : ∀ w, WN w → ¬ w % 2 ^ 63 = 0 → nS w = false := by
      intro w hw z
      refine sg_pos ?_
      have := hw.2.2
      rcases rk_cases w with ⟨a, b⟩ | ⟨a, b⟩ <;> omega
    by_cases iu : isI u
    · by_cases iv : isI v
      · rw [WN_inf hu iu, WN_inf hv iv]
        refine ⟨by decide +kernel, by decide +kernel, by decide +kernel⟩
      · have nv := hv.2.1
        have zv : ¬ v % 2 ^ 63 = 0 := fun z => c.2.2.2 ⟨iu, z⟩
        rw [dec_inf iu, dec_fin (fin_iff.mp (show v % 2 ^ 63 < 9218868437227405312 by omega)), sg u hu (by omega), sg v hv zv] at D
        have p := nFr_pos zv
        have : FP.Core.exactProduct (.inf false) (.fin false (nFr v) ((nSc v : Int) - 1075)) = .inf false := by
          simp [FP.Core.exactProduct, Nat.ne_of_gt p]
        rw [this] at D
        have := inf_of L D
        rw [this]; exact WN_I
    · by_cases iv : isI v
      · have nu := hu.2.1
        have zu : ¬ u % 2 ^ 63 = 0 := fun z => c.2.2.1 ⟨z, iv⟩
        rw [dec_inf iv, dec_fin (fin_iff.mp (show u % 2 ^ 63 < 9218868437227405312 by omega)), sg v hv (by omega), sg u hu zu] at D
        have p := nFr_pos zu
        have : FP.Core.exactProduct (.fin false (nFr u) ((nSc u : Int) - 1075)) (.inf false) = .inf false := by
          simp [FP.Core.exactProduct, Nat.ne_of_gt p]
        rw [this] at D
        have := inf_of L D
        rw [this]; exact WN_I
      · have nu := hu.2.1
        have nv := hv.2.1
        have du := dec_fin (fin_iff.mp (show u % 2 ^ 63 < 9218868437227405312 by omega))
        have dv := dec_fin (fin_iff.mp (show v % 2 ^ 63 < 9218868437227405312 by omega))
        rw [du, dv] at D
        by_cases zu : u % 2 ^ 63 = 0
        · refine zero ?_
          have : FP.Core.DZero (FP.Core.dmul (dN u) (dN v)) := FP.Core.dzero_mul (a := dN v) (z := dN u) ⟨_, _, _, by unfold FP.Core.val64; rw [dN_nat hv.1]; exact dv⟩ ((val_zero hu.1).mpr zu)
          rw [D1] at this
          exact (val_zero L).mp this
        · by_cases zv : v % 2 ^ 63 = 0
          · refine zero ?_
            have : FP.Core.DZero (FP.Core.dmul (dN u) (dN v)) := FP.Core.dmul_zero (a := dN u) (z := dN v) ⟨_, _, _, by unfold FP.Core.val64; rw [dN_nat hu.1]; exact du⟩ ((val_zero hv.1).mpr zv)
            rw [D1] at this
            exact (val_zero L).mp this
          · rw [sg u hu zu, sg v hv zv] at D
            refine WN_of_Z L n ?_
            unfold Zv
            rw [D]
            show 0 ≤ FP.Core.zval FP.Core.b64 (FP.Core.roundRatio FP.Core.b64 false _ 1 _)
            unfold FP.Core.zval
            rw [FP.Core.sgn_roundRatio]
            exact Int.natCast_nonneg _
theorem lt_WN {u v : Nat} (hu : u < 2 ^ 64) (hv : v < 2 ^ 64) : WN (sLt u v) := WN_zl (sDn_cn (sTi_cn hu (sZl_cn hv).1).1).1
theorem ht_WN {u v : Nat} (hu : WN u) (hv : v < 2 ^ 64) : WN (sHt u v) := by
  unfold sHt
  have c := (sTi_cn hu.1 (sZl_cn hv).1).1
  rw [if_iff (sUp_n c)]
  rcases ti_WN hu (WN_zl hv) with n | w
  · rw [if_pos n]; exact WN_I
  · rw [if_neg w.2.1]; exact WN_up w
