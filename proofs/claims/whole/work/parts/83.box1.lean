/-! A BOX'S WIDEST DRAW, MIDDLE AND TIGHTNESS, in the model -/
theorem raw_w {hi lo : Nat} (fh : fin hi) (fl : fin lo) : FP.dsub (dN hi) (dN lo) = dN (sPl hi (sNeg lo)) ∧ vf_n64 (dN (sPl hi (sNeg lo))) ∧ ¬ isN (sPl hi (sNeg lo)) ∧ sPl hi (sNeg lo) < 2 ^ 64 := by
  have nh := fin_n fh
  have nl := fin_n fl
  have f1 := fh.2
  have f2 := fl.2
  have c : ¬ isN hi ∧ ¬ isN lo ∧ ¬ (isI hi ∧ isI lo ∧ hi = lo) := ⟨nh, nl, fun q => by omega⟩
  have e := sPl_sub fh.1 fl.1
  rw [if_pos c] at e
  have n : ¬ isN (FP.Core.add FP.Core.b64 hi (flip lo)) := add_n fh.1 (flip_lt fl.1) nh (by rw [isN, flip_mod fl.1]; exact nl) (fun q => by omega)
  rw [e]
  exact ⟨dsub_N fh.1 fl.1, (n64_N (add_lt _ _)).mpr n, n, add_lt _ _⟩
theorem raw_m {lo w : Nat} (fl : fin lo) (hw : w < 2 ^ 64) (nw : ¬ isN w) : FP.ddiv (dN w) (4611686018427387904 : UInt64) = dN (sDi w TWO64) ∧ vf_n64 (dN (sDi w TWO64)) ∧ FP.dadd (dN lo) (dN (sDi w TWO64)) = dN (sPl lo (sDi w TWO64)) ∧ vf_n64 (dN (sPl lo (sDi w TWO64))) ∧ ¬ isN (sPl lo (sDi w TWO64)) ∧ sPl lo (sDi w TWO64) < 2 ^ 64 := by
  have nl := fin_n fl
  have f2 := fl.2
  have ht : TWO64 < 2 ^ 64 := by decide
  have nt : ¬ isN TWO64 := by decide
  have zt : ¬ TWO64 % 2 ^ 63 = 0 := by decide
  have it : ¬ isI TWO64 := by decide
  have c : ¬ isN w ∧ ¬ isN TWO64 ∧ ¬ (w % 2 ^ 63 = 0 ∧ TWO64 % 2 ^ 63 = 0) ∧ ¬ (isI w ∧ isI TWO64) := ⟨nw, nt, fun q => zt q.2, fun q => it q.2⟩
  have e : sDi w TWO64 = FP.Core.div FP.Core.b64 w TWO64 := by unfold sDi; rw [if_pos c]
  have n := div_n hw ht nw nt c.2.2.1 c.2.2.2
  rw [e]
  have c2 : ¬ isN lo ∧ ¬ isN (FP.Core.div FP.Core.b64 w TWO64) ∧ ¬ (isI lo ∧ isI (FP.Core.div FP.Core.b64 w TWO64) ∧ lo ≠ FP.Core.div FP.Core.b64 w TWO64) := ⟨nl, n, fun q => by omega⟩
  have e2 : sPl lo (FP.Core.div FP.Core.b64 w TWO64) = FP.Core.add FP.Core.b64 lo (FP.Core.div FP.Core.b64 w TWO64) := by unfold sPl; rw [if_pos c2]
  have n2 := add_n fl.1 (div_lt w TWO64) nl n c2.2.2
  rw [e2]
  exact ⟨ddiv_N hw ht, (n64_N (div_lt _ _)).mpr n, dadd_N fl.1 (div_lt _ _), (n64_N (add_lt _ _)).mpr n2, n2, add_lt _ _⟩
theorem wdt_ok {S : St} {b d : Nat} (hS : SdS S b) (hd : d < S.1 0) : FP.dsub (dN (S.2 6 (6 * b + 2 * d + 1))) (dN (S.2 6 (6 * b + 2 * d))) = dN (wdt S b d) ∧ vf_n64 (dN (wdt S b d)) ∧ ¬ isN (wdt S b d) ∧ wdt S b d < 2 ^ 64 :=
  raw_w (by rw [Nat.add_assoc]; exact hS _ (by omega)) (hS _ (by omega))
theorem mid_ok {S : St} {b : Nat} (hS : SdS S b) (h0 : 0 < S.1 0) : ¬ isN (mid S b) ∧ mid S b < 2 ^ 64 := by
  have hw := wid_lt (b := b) h0
  have w := wdt_ok hS hw
  have r := raw_m (lo := S.2 6 (6 * b + 2 * wid S b)) (hS _ (by omega)) w.2.2.2 w.2.2.1
  exact ⟨r.2.2.2.2.1, r.2.2.2.2.2⟩
theorem m_widest {m : MS} {S : St} {b : Nat} (hb : b < 100) (h0 : 0 < S.1 0) (h3 : S.1 0 ≤ 3) (e : m.1 1 = nI (S.1 0)) (hs : SidM m S b) (hS : SdS S b) {kr : Int32 → MS → Prop} (K : kr (nI (wid S b)) m) : wX4_widest m (nI b) kr := by
  unfold wX4_widest bX4_widest_0
  refine ⟨S.1 0, ?_⟩
  have loop : ∀ (j k : Nat), j + k = S.1 0 → 1 ≤ k → itX4_widest_4 kr (j + 1) (nI b) (nI (widT S b k)) (nI k) m := by
    intro j
    induction j with
    | zero =>
      intro k q hk
      show bX4_widest_4 m (nI b) (nI (widT S b k)) (nI k) kr _
      unfold bX4_widest_4
      rw [e]
      refine ifp ((nI_leX (by omega) (by omega)).mpr (by omega)) ?_
      have : k = S.1 0 := by omega
      rw [this]; exact K
    | succ j ih =>
      intro k q hk
      have wl : widT S b k < k := by have := widT_lt S b k; omega
      show bX4_widest_4 m (nI b) (nI (widT S b k)) (nI k) kr (fun z1 z2 z3 X => itX4_widest_4 kr (j + 1) z1 z2 z3 X)
      unfold bX4_widest_4
      have s1 := hs k (by omega)
      have s2 := hs (widT S b k) (by omega)
      have w1 := wdt_ok hS (d := k) (by omega)
      have w2 := wdt_ok hS (d := widT S b k) (by omega)
      have i1 := in_nI (show 3 * b + k < 300 by omega) (by decide)
      have i2 := in_nI (show 3 * b + widT S b k < 300 by omega) (by decide)
      rw [e, nI_3a (by omega), nI_3a (by omega), nI_cl (by omega), nI_cl (by omega), s1.1, s1.2, s2.1, s2.2, w1.1, w2.1, nI_s (by omega)]
      refine ifn (fun z => by rw [nI_leX (by omega) (by omega)] at z; omega) ⟨i1, i1, w1.2.1, i2, i2, w2.2.1, ?_⟩
      have nx := ih (k + 1) (by omega) (by omega)
      have ew : widT S b (k + 1) = if bLt (wdt S b (widT S b k)) (wdt S b k) then k else widT S b k := rfl
      refine ifx (cvl_le w1.2.2.2 w2.2.2.2) (fun z => ?_) (fun z => ?_)
      · rw [ew, if_neg z] at nx; exact nx
      · rw [ew, if_pos (Classical.not_not.mp z)] at nx; exact nx
  have := loop (S.1 0 - 1) 1 (by omega) (Nat.le_refl _)
  have w1 : widT S b 1 = 0 := by
    show (if bLt (wdt S b 0) (wdt S b 0) then 0 else 0) = 0
    split <;> rfl
  rw [w1, show S.1 0 - 1 + 1 = S.1 0 by omega] at this
  exact this
theorem m_middle {m : MS} {S : St} {b : Nat} (hb : b < 100) (h0 : 0 < S.1 0) (h3 : S.1 0 ≤ 3) (e : m.1 1 = nI (S.1 0)) (hs : SidM m S b) (hS : SdS S b) {kr : UInt64 → MS → Prop} (K : kr (dN (mid S b)) m) : wX4_middle m (nI b) kr := by
  unfold wX4_middle bX4_middle_0
  refine m_widest hb h0 h3 e hs hS ?_
  have hw := wid_lt (b := b) h0
  have i1 := in_nI (show 3 * b + wid S b < 300 by omega) (by decide)
  have s1 := hs _ hw
  have w1 := wdt_ok hS hw
  have r := raw_m (lo := S.2 6 (6 * b + 2 * wid S b)) (hS _ (by omega)) w1.2.2.2 w1.2.2.1
  rw [nI_3a (by omega), nI_cl (by omega), s1.1, s1.2, w1.1, r.1, r.2.2.1]
  exact ⟨i1, i1, i1, w1.2.1, r.2.1, r.2.2.2.1, K⟩
theorem m_tight {m : MS} {S : St} {b : Nat} (hb : b < 100) (h0 : 0 < S.1 0) (h3 : S.1 0 ≤ 3) (e : m.1 1 = nI (S.1 0)) (hs : SidM m S b) (hS : SdS S b) {kr : Int32 → MS → Prop} (K : kr (if tgt S b then 1 else 0) m) : wX4_isTight m (nI b) kr := by
  unfold wX4_isTight bX4_isTight_0
  refine m_widest hb h0 h3 e hs hS (m_middle hb h0 h3 e hs hS ?_)
  have hw := wid_lt (b := b) h0
  have i1 := in_nI (show 3 * b + wid S b < 300 by omega) (by decide)
  have s1 := hs _ hw
  have md := mid_ok hS h0
  have l1 : S.2 6 (6 * b + 2 * wid S b) < 2 ^ 64 := (hS _ (by omega)).1
  have l2 : S.2 6 (6 * b + 2 * wid S b + 1) < 2 ^ 64 := by rw [Nat.add_assoc]; exact (hS _ (by omega)).1
  rw [nI_3a (by omega), nI_cl (by omega), s1.1, s1.2]
  refine ⟨i1, ifx (cvl_le md.2 l1) (fun z => ?_) (fun z => ⟨i1, ifx (cvg_lt md.2 l2) (fun y => ?_) (fun y => ?_)⟩)⟩
  · rw [if_pos (.inl z)] at K; exact K
  · rw [if_neg (fun q => q.elim z (fun w => w y))] at K; exact K
  · rw [if_pos (.inr y)] at K; exact K
def BoxM (m : MS) (S : St) (b : Nat) : Prop := SidM m S b ∧ m.2.1 30 b = nI (S.2 7 b) ∧ m.2.2 31 b = dN (S.2 8 b) ∧ m.2.2 32 b = dN (S.2 9 b)
def BoxS (S : St) (b : Nat) : Prop := SdS S b ∧ SdO S b ∧ S.2 7 b ≤ 3 ∧ WN (S.2 8 b) ∧ WN (S.2 9 b)
theorem m_next {m : MS} {S : St} (h0 : 0 < S.1 2 → 0 < S.1 0) (h3 : S.1 0 ≤ 3) (h100 : S.1 2 ≤ 100) (e : m.1 1 = nI (S.1 0)) (e4 : m.1 4 = nI (S.1 2)) (hM : ∀ b, b < S.1 2 → BoxM m S b) (hS : ∀ b, b < S.1 2 → BoxS S b) {kr : Int32 → MS → Prop} (K : kr (if nxt S = 0 then -1 else nI (nxt S - 1)) m) : wX4_next m kr := by
  unfold wX4_next bX4_next_0
  refine ⟨S.1 2 + 1, ?_⟩
  have loop : ∀ (j k : Nat), j + k = S.1 2 → itX4_next_4 kr (j + 1) (if nxT S k = 0 then -1 else nI (nxT S k - 1)) (nI k) m := by
    intro j
    induction j with
    | zero =>
      intro k q
      show bX4_next_4 m _ (nI k) kr _
      unfold bX4_next_4
      rw [e4]
      refine ifp ((nI_leX (by omega) (by omega)).mpr (by omega)) ?_
      have : k = S.1 2 := by omega
      rw [this]; exact K
    | succ j ih =>
      intro k q
      have nx := ih (k + 1) (by omega)
      have en : nxT S (k + 1) = if S.2 7 k = 3 ∧ ¬ tgt S k ∧ (nxT S k = 0 ∨ bLt (S.2 9 (nxT S k - 1)) (S.2 9 k)) then k + 1 else nxT S k := rfl
      show bX4_next_4 m (if nxT S k = 0 then -1 else nI (nxT S k - 1)) (nI k) kr (fun z1 z2 X => itX4_next_4 kr (j + 1) z1 z2 X)
      unfold bX4_next_4
      have bm := hM k (by omega)
      have bs := hS k (by omega)
      rw [e4, nI_cl (i := k) (by omega), bm.2.1, nI_s (by omega)]
      have ik := in_nI (show k < 100 by omega) (by decide)
      have ek : nI (S.2 7 k) = (3 : Int32) ↔ S.2 7 k = 3 := by
        constructor
        · intro z; exact Classical.byContradiction fun y => nI_ne (a := S.2 7 k) (b := 3) (by have := bs.2.2.1; omega) (by decide) y z
        · intro z; rw [z]; rfl
      refine ifn (fun z => by rw [nI_leX (by omega) (by omega)] at z; omega) ⟨ik, ifx ek (fun k3 => m_tight (by omega) (h0 (by omega)) h3 e bm.1 bs.1 ?_) (fun k3 => ?_)⟩
      · by_cases t : tgt S k
        · rw [if_pos t]
          refine ifn (by decide) ?_
          rw [en.trans (if_neg (fun z => z.2.1 t))] at nx; exact nx
        · rw [if_neg t]
          refine ifp rfl ?_
          by_cases z : nxT S k = 0
          · rw [if_pos z]
            rw [en.trans (if_pos ⟨k3, t, .inl z⟩), if_neg (by omega), Nat.add_sub_cancel] at nx
            exact ifp (by decide) nx
          · have le := nxT_le S k
            have bp := hM (nxT S k - 1) (by omega)
            have ws := hS (nxT S k - 1) (by omega)
            rw [if_neg z, nI_cl (i := nxT S k - 1) (by omega), bp.2.2.2, bm.2.2.2]
            refine ifn (fun y => ?_) ⟨ik, in_nI (by omega) (by decide), ifx (cvl_le bs.2.2.2.2.1 ws.2.2.2.2.1) (fun y => ?_) (fun y => ?_)⟩
            · rw [show (0 : Int32) = nI 0 from rfl, nI_ltX (by omega) (by omega)] at y; omega
            · rw [en.trans (if_neg (fun w => w.2.2.elim z y)), if_neg z] at nx; exact nx
            · rw [en.trans (if_pos ⟨k3, t, .inr (Classical.not_not.mp y)⟩), if_neg (by omega), Nat.add_sub_cancel] at nx; exact nx
      · rw [en.trans (if_neg (fun z => k3 z.1))] at nx; exact nx
  exact loop (S.1 2) 0 rfl
