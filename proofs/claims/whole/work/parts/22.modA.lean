/-! THE REFERENCE'S WORLD: twenty cells before it, then its own sixteen -/
abbrev MS : Type := (Nat → Int32) × (Nat → Nat → Int32) × (Nat → Nat → UInt64)
def msetI (c : MS) (k : Nat) (x : Int32) : MS := (fun j => if j = k then x else c.1 j, c.2.1, c.2.2)
def msetA (c : MS) (k : Nat) (f : Nat → Int32) : MS := (c.1, fun j => if j = k then f else c.2.1 j, c.2.2)
def msetL (c : MS) (k : Nat) (f : Nat → UInt64) : MS := (c.1, c.2.1, fun j => if j = k then f else c.2.2 j)
abbrev pre20 (u : Nat → aE) : aS := [u 0, u 1, u 2, u 3, u 4, u 5, u 6, u 7, u 8, u 9, u 10, u 11, u 12, u 13, u 14, u 15, u 16, u 17, u 18, u 19]
abbrev dR (n : Nat) (f : Nat → UInt64) : aE := .inl (2, n, .inr (.inr (.inr (.inl f))))
/-- ints: 0 fault, 1 draws, 2 nodes, 3 isRun, 4 boxes, 5 steps -/
def wM (c : MS) : aS := [
  .inr (3, [.int (c.1 0), .int (c.1 1), .ref 21, .ref 22, .int (c.1 2), .ref 23, .ref 24, .ref 25, .ref 26, .ref 27, .int (c.1 3), .int (c.1 4), .int (c.1 5), .ref 28, .ref 29, .ref 30, .ref 31, .ref 32, .ref 33, .ref 34, .ref 35]),
  dR 3 (c.2.2 21), dR 3 (c.2.2 22), .inl (0, 32, .inl (c.2.1 23)), .inl (0, 32, .inl (c.2.1 24)), .inl (0, 32, .inl (c.2.1 25)), dR 32 (c.2.2 26), .inl (0, 5, .inl (c.2.1 27)), dR 300 (c.2.2 28), dR 300 (c.2.2 29), .inl (0, 100, .inl (c.2.1 30)), dR 100 (c.2.2 31), dR 100 (c.2.2 32), dR 32 (c.2.2 33), dR 32 (c.2.2 34), dR 32 (c.2.2 35)]
def bX4_thrown_0 (c : MS)  (kr : Int32 → MS → Prop)  : Prop :=
  kr (c.1 0) c
set_option maxRecDepth 20000 in
theorem mbX4_thrown_0 {c : MS}  {kr kq : Int32 → MS → Prop}  (hr : ∀ x X, kr x X → kq x X)  (h : bX4_thrown_0 c  kr ) : bX4_thrown_0 c  kq  := by
  unfold bX4_thrown_0 at h ⊢
  exact hr _ _ h
def wX4_thrown (c : MS)  (kr : Int32 → MS → Prop) : Prop := bX4_thrown_0 c  kr 
theorem mnX4_thrown {c : MS}  {kr kq : Int32 → MS → Prop} (hr : ∀ x X, kr x X → kq x X) (h : wX4_thrown c  kr) : wX4_thrown c  kq := mbX4_thrown_0 hr  h
def tX4_thrown : Tr := fun as σ k => match as with
  | [.ref 20] => ∃ (c : MS) (u : Nat → aE) (M : aS), σ = pre20 u ++ (wM c ++ M) ∧ wX4_thrown c  (fun x X => k (some (.int x)) (pre20 u ++ (wM X ++ M)))
  | _ => False
def ceX4_thrown : List (Nat × Nat × Tr) := []
theorem coX4_thrown (l : Launch) : CEok l yX4_thrown.cls 0 ceX4_thrown := ce_0
abbrev cutX4_thrown : List (Nat × List Nat) := []
set_option maxRecDepth 20000 in
set_option maxHeartbeats 4000000 in
theorem lbX4_thrown_0 {G : Nat → LV → List Value → aS → Prop} {post : Option Value → aS → Prop} (hG : ∀ n b pc lv st σ, seg (0, fun _ => 0) pgX4_thrown ceX4_thrown cutX4_thrown G (fun v σ => rFit (some .int) v ∧ post v σ) n b pc lv st σ → G pc lv st σ) (c : MS) (u : Nat → aE) (M : aS)  (hb : bX4_thrown_0 c  (fun x X => rFit (some .int) (some (.int x)) ∧ post (some (.int x)) (pre20 u ++ (wM X ++ M))) ) : G 0 [(0, .ref 20)] [] (pre20 u ++ (wM c ++ M)) := by
  unfold bX4_thrown_0 at hb
  refine hG 400 false 0 _ _ _ ?_
  exact hb
theorem rcX4_thrown : ∀ as σ kk, tX4_thrown as σ kk → ∃ a r fs, as = .ref a :: r ∧ σ[a]? = some (.inr (3, fs)) := by
  intro as σ kk h
  unfold tX4_thrown at h; split at h
  · obtain ⟨c, u, M, rfl, -⟩ := h
    exact ⟨_, _, _, rfl, rfl⟩
  · exact h.elim
set_option maxRecDepth 20000 in
theorem okX4_thrown (l : Launch) : OK l yX4_thrown cX4_thrown 1 (some .int) 0 tX4_thrown := by
  intro D τ ρ A as σ post h
  unfold tX4_thrown at h; split at h
  · obtain ⟨c, u, M, rfl, hw⟩ := h
    refine met_of (P := pgX4_thrown) (CE := ceX4_thrown) (cut := cutX4_thrown) (by decide) kkX4_thrown (coX4_thrown l) (Nat.le_of_ble_eq_true rfl) ?_
    intro G hG
    unfold wX4_thrown at hw
    refine lbX4_thrown_0 hG c u M  (mbX4_thrown_0 ?_  hw)
    · exact fun _ _ h => ⟨trivial, h⟩
  · exact h.elim
def bX4_ends_0 (c : MS)  (kr : MS → Prop)  : Prop :=
  (((0 : Int32) = 0 ∨ (0 : Int32) = 1) ∧ kr (msetI (msetI (msetI c 3 (0 : Int32)) 4 (0 : Int32)) 5 (0 : Int32)))
set_option maxRecDepth 20000 in
theorem mbX4_ends_0 {c : MS}  {kr kq : MS → Prop}  (hr : ∀ X, kr X → kq X)  (h : bX4_ends_0 c  kr ) : bX4_ends_0 c  kq  := by
  unfold bX4_ends_0 at h ⊢
  obtain ⟨hi, h⟩ := h
  refine And.intro hi ?_
  exact hr _ h
def wX4_ends (c : MS)  (kr : MS → Prop) : Prop := bX4_ends_0 c  kr 
theorem mnX4_ends {c : MS}  {kr kq : MS → Prop} (hr : ∀ X, kr X → kq X) (h : wX4_ends c  kr) : wX4_ends c  kq := mbX4_ends_0 hr  h
def tX4_ends : Tr := fun as σ k => match as with
  | [.ref 20] => ∃ (c : MS) (u : Nat → aE) (M : aS), σ = pre20 u ++ (wM c ++ M) ∧ wX4_ends c  (fun X => k none (pre20 u ++ (wM X ++ M)))
  | _ => False
def ceX4_ends : List (Nat × Nat × Tr) := []
theorem coX4_ends (l : Launch) : CEok l yX4_ends.cls 0 ceX4_ends := ce_0
abbrev cutX4_ends : List (Nat × List Nat) := []
set_option maxRecDepth 20000 in
set_option maxHeartbeats 4000000 in
theorem lbX4_ends_0 {G : Nat → LV → List Value → aS → Prop} {post : Option Value → aS → Prop} (hG : ∀ n b pc lv st σ, seg (0, fun _ => 0) pgX4_ends ceX4_ends cutX4_ends G (fun v σ => rFit none v ∧ post v σ) n b pc lv st σ → G pc lv st σ) (c : MS) (u : Nat → aE) (M : aS)  (hb : bX4_ends_0 c  (fun X => rFit none none ∧ post none (pre20 u ++ (wM X ++ M))) ) : G 0 [(0, .ref 20)] [] (pre20 u ++ (wM c ++ M)) := by
  unfold bX4_ends_0 at hb
  refine hG 400 false 0 _ _ _ ?_
  obtain ⟨hi, hb⟩ := hb
  refine And.intro hi ?_
  exact hb
theorem rcX4_ends : ∀ as σ kk, tX4_ends as σ kk → ∃ a r fs, as = .ref a :: r ∧ σ[a]? = some (.inr (3, fs)) := by
  intro as σ kk h
  unfold tX4_ends at h; split at h
  · obtain ⟨c, u, M, rfl, -⟩ := h
    exact ⟨_, _, _, rfl, rfl⟩
  · exact h.elim
set_option maxRecDepth 20000 in
theorem okX4_ends (l : Launch) : OK l yX4_ends cX4_ends 1 none 0 tX4_ends := by
  intro D τ ρ A as σ post h
  unfold tX4_ends at h; split at h
  · obtain ⟨c, u, M, rfl, hw⟩ := h
    refine met_of (P := pgX4_ends) (CE := ceX4_ends) (cut := cutX4_ends) (by decide) kkX4_ends (coX4_ends l) (Nat.le_of_ble_eq_true rfl) ?_
    intro G hG
    unfold wX4_ends at hw
    refine lbX4_ends_0 hG c u M  (mbX4_ends_0 ?_  hw)
    · exact fun _ h => ⟨trivial, h⟩
  · exact h.elim
def bX4_draw_0 (c : MS) (a : Int64) (b : Int64) (kr : Int32 → MS → Prop) (kc92 : Int32 → MS → Prop) : Prop :=
  (wX4_of a (fun r1 => (wX4_of b (fun r2 => (if 0 ≤ (Op.cmpValue (FP.dcmp r1 r2) .g) then
    kr (-2 : Int32) (msetI c 0 (0 : Int32))
  else
    (if (Op.cmpValue (FP.dcmp r1 (18442240474082181120 : UInt64)) .l) = 0 then
      kr (-2 : Int32) (msetI c 0 (0 : Int32))
    else
      (if (Op.cmpValue (FP.dcmp r2 (9218868437227405312 : UInt64)) .l) = 0 then
        kr (-2 : Int32) (msetI c 0 (0 : Int32))
      else
        (if ((msetI c 0 (0 : Int32)).1 1) = (3 : Int32) then
          kr (-4 : Int32) (msetI c 0 (0 : Int32))
        else
          (vp_in ((msetI c 0 (0 : Int32)).1 1) 3 ∧ (vp_in ((msetL (msetI c 0 (0 : Int32)) 21 (vf_upd ((msetI c 0 (0 : Int32)).2.2 21) ((msetI c 0 (0 : Int32)).1 1).toNatClampNeg r1)).1 1) 3 ∧ (∀ Y3 : MS, Y3 = (msetL (msetL (msetI c 0 (0 : Int32)) 21 (vf_upd ((msetI c 0 (0 : Int32)).2.2 21) ((msetI c 0 (0 : Int32)).1 1).toNatClampNeg r1)) 22 (vf_upd ((msetL (msetI c 0 (0 : Int32)) 21 (vf_upd ((msetI c 0 (0 : Int32)).2.2 21) ((msetI c 0 (0 : Int32)).1 1).toNatClampNeg r1)).2.2 22) ((msetL (msetI c 0 (0 : Int32)) 21 (vf_upd ((msetI c 0 (0 : Int32)).2.2 21) ((msetI c 0 (0 : Int32)).1 1).toNatClampNeg r1)).1 1).toNatClampNeg r2)) → kc92 (0 : Int32) (msetI Y3 1 ((Y3.1 1) + (1 : Int32))))))))))))))
def bX4_draw_92 (c : MS) (l9 : Int32) (kr : Int32 → MS → Prop) (kc92 : Int32 → MS → Prop) : Prop :=
  (if (5 : Int32) ≤ l9 then
    (wX4_ends c  (fun  X4 => kr ((X4.1 1) - (1 : Int32)) X4))
  else
    (vp_in l9 5 ∧ kc92 (l9 + (1 : Int32)) (msetA c 27 (upd (c.2.1 27) l9.toNatClampNeg (-5 : Int32)))))
set_option maxRecDepth 20000 in
theorem mbX4_draw_0 {c : MS} {a : Int64} {b : Int64} {kr kq : Int32 → MS → Prop} {kc92 kd92 : Int32 → MS → Prop} (hr : ∀ x X, kr x X → kq x X) (hc92 : ∀ z9 X, kc92 z9 X → kd92 z9 X) (h : bX4_draw_0 c a b kr kc92) : bX4_draw_0 c a b kq kd92 := by
  unfold bX4_draw_0 at h ⊢
  refine mnX4_of ?_ h
  intro r1 h
  refine mnX4_of ?_ h
  intro r2 h
  by_cases hc : 0 ≤ (Op.cmpValue (FP.dcmp r1 r2) .g)
  · rw [if_pos hc] at h ⊢
    exact hr _ _ h
  · rw [if_neg hc] at h ⊢
    by_cases hc : (Op.cmpValue (FP.dcmp r1 (18442240474082181120 : UInt64)) .l) = 0
    · rw [if_pos hc] at h ⊢
      exact hr _ _ h
    · rw [if_neg hc] at h ⊢
      by_cases hc : (Op.cmpValue (FP.dcmp r2 (9218868437227405312 : UInt64)) .l) = 0
      · rw [if_pos hc] at h ⊢
        exact hr _ _ h
      · rw [if_neg hc] at h ⊢
        by_cases hc : ((msetI c 0 (0 : Int32)).1 1) = (3 : Int32)
        · rw [if_pos hc] at h ⊢
          exact hr _ _ h
        · rw [if_neg hc] at h ⊢
          obtain ⟨hi, h⟩ := h
          refine And.intro hi ?_
          obtain ⟨hi, h⟩ := h
          refine And.intro hi ?_
          intro Y3 eY3
          replace h := h _ eY3
          exact hc92 _ _ h
set_option maxRecDepth 20000 in
theorem mbX4_draw_92 {c : MS} {l9 : Int32} {kr kq : Int32 → MS → Prop} {kc92 kd92 : Int32 → MS → Prop} (hr : ∀ x X, kr x X → kq x X) (hc92 : ∀ z9 X, kc92 z9 X → kd92 z9 X) (h : bX4_draw_92 c l9 kr kc92) : bX4_draw_92 c l9 kq kd92 := by
  unfold bX4_draw_92 at h ⊢
  by_cases hc : (5 : Int32) ≤ l9
  · rw [if_pos hc] at h ⊢
    refine mnX4_ends ?_ h
    intro  X4 h
    exact hr _ _ h
  · rw [if_neg hc] at h ⊢
    obtain ⟨hi, h⟩ := h
    refine And.intro hi ?_
    exact hc92 _ _ h
def itX4_draw_92 (kr : Int32 → MS → Prop) : Nat → Int32 → MS → Prop
  | 0, _, _ => False
  | n + 1, l9, c => bX4_draw_92 c l9 kr (fun z9 X => itX4_draw_92 kr n z9 X)
theorem miX4_draw_92 {kr kq : Int32 → MS → Prop} (hr : ∀ x X, kr x X → kq x X) : ∀ (n : Nat) (z9 : Int32) (X : MS), itX4_draw_92 kr n z9 X → itX4_draw_92 kq n z9 X
  | 0, _, _, h => h
  | n + 1, _, _, h => mbX4_draw_92 hr (fun _ _ h => miX4_draw_92 hr n _ _ h) h
def wX4_draw (c : MS) (a : Int64) (b : Int64) (kr : Int32 → MS → Prop) : Prop := bX4_draw_0 c a b kr (fun z9 X => ∃ N, itX4_draw_92 kr N z9 X)
theorem mnX4_draw {c : MS} {a : Int64} {b : Int64} {kr kq : Int32 → MS → Prop} (hr : ∀ x X, kr x X → kq x X) (h : wX4_draw c a b kr) : wX4_draw c a b kq := mbX4_draw_0 hr (fun _ _ h => h.elim fun N h => ⟨N, miX4_draw_92 hr N _ _ h⟩) h
def tX4_draw : Tr := fun as σ k => match as with
  | [.ref 20, .long a, .long b] => ∃ (c : MS) (u : Nat → aE) (M : aS), σ = pre20 u ++ (wM c ++ M) ∧ wX4_draw c a b (fun x X => k (some (.int x)) (pre20 u ++ (wM X ++ M)))
  | _ => False
def ceX4_draw : List (Nat × Nat × Tr) := (2 * 78, 1, tX4_of) :: (2 * 123 + 1, 0 + 1, tX4_ends) :: []
theorem coX4_draw (l : Launch) : CEok l yX4_draw.cls 2 ceX4_draw := ce_S (okX4_of l) (mw 707 (by decide +kernel) rfl) (mw 708 (by decide +kernel) rfl) (mw 4 (by decide +kernel) rfl) (mw 709 (by decide +kernel) rfl) (by decide) ⟨by decide, by decide⟩ (ce_V (ci := 3) (n := 0) rfl (okX4_ends l) rcX4_ends (mw 718 (by decide +kernel) rfl) (mw 720 (by decide +kernel) rfl) (ms 16 (by decide +kernel) rfl) (mw 4 (by decide +kernel) rfl) (mw 721 (by decide +kernel) rfl) rfl (by decide) ⟨by decide, by decide⟩ (ce_0))
abbrev cutX4_draw : List (Nat × List Nat) := [(92, [0, 9])]
set_option maxRecDepth 20000 in
set_option maxHeartbeats 4000000 in
theorem lbX4_draw_0 {G : Nat → LV → List Value → aS → Prop} {post : Option Value → aS → Prop} (hG : ∀ n b pc lv st σ, seg (0, fun _ => 0) pgX4_draw ceX4_draw cutX4_draw G (fun v σ => rFit (some .int) v ∧ post v σ) n b pc lv st σ → G pc lv st σ) (c : MS) (u : Nat → aE) (M : aS) (a : Int64) (b : Int64) (hb : bX4_draw_0 c a b (fun x X => rFit (some .int) (some (.int x)) ∧ post (some (.int x)) (pre20 u ++ (wM X ++ M))) (fun z9 X => G 92 [(0, .ref 20), (9, .int z9)] [] (pre20 u ++ (wM X ++ M)))) : G 0 [(0, .ref 20), (1, .long a), (3, .long b)] [] (pre20 u ++ (wM c ++ M)) := by
  unfold bX4_draw_0 at hb
  refine hG 400 false 0 _ _ _ ?_
  refine And.intro trivial (mnX4_of ?_ hb)
  intro r1 hb
  refine And.intro trivial (mnX4_of ?_ hb)
  intro r2 hb
  refine And.intro (fun (h : 0 ≤ (Op.cmpValue (FP.dcmp r1 r2) .g)) => ?_) (fun (h : ¬ 0 ≤ (Op.cmpValue (FP.dcmp r1 r2) .g)) => ?_)
  · rw [if_pos h] at hb
    exact hb
  · rw [if_neg h] at hb
    refine And.intro (fun (h : (Op.cmpValue (FP.dcmp r1 (18442240474082181120 : UInt64)) .l) = 0) => ?_) (fun (h : ¬ (Op.cmpValue (FP.dcmp r1 (18442240474082181120 : UInt64)) .l) = 0) => ?_)
    · rw [if_pos h] at hb
      exact hb
    · rw [if_neg h] at hb
      refine And.intro (fun (h : ¬ (Op.cmpValue (FP.dcmp r2 (9218868437227405312 : UInt64)) .l) = 0) => ?_) (fun hq => have h : (Op.cmpValue (FP.dcmp r2 (9218868437227405312 : UInt64)) .l) = 0 := Classical.not_not.mp hq; ?_)
      · rw [if_neg h] at hb
        refine And.intro (fun (h : ¬ ((msetI c 0 (0 : Int32)).1 1) = (3 : Int32)) => ?_) (fun hq => have h : ((msetI c 0 (0 : Int32)).1 1) = (3 : Int32) := Classical.not_not.mp hq; ?_)
        · rw [if_neg h] at hb
          obtain ⟨hi, hb⟩ := hb
          refine And.intro hi ?_
          obtain ⟨hi, hb⟩ := hb
          refine And.intro hi ?_
          let Y3 : MS := (msetL (msetL (msetI c 0 (0 : Int32)) 21 (vf_upd ((msetI c 0 (0 : Int32)).2.2 21) ((msetI c 0 (0 : Int32)).1 1).toNatClampNeg r1)) 22 (vf_upd ((msetL (msetI c 0 (0 : Int32)) 21 (vf_upd ((msetI c 0 (0 : Int32)).2.2 21) ((msetI c 0 (0 : Int32)).1 1).toNatClampNeg r1)).2.2 22) ((msetL (msetI c 0 (0 : Int32)) 21 (vf_upd ((msetI c 0 (0 : Int32)).2.2 21) ((msetI c 0 (0 : Int32)).1 1).toNatClampNeg r1)).1 1).toNatClampNeg r2))
          replace hb := hb Y3 rfl
          exact hb
        · rw [if_pos h] at hb
          exact hb
      · rw [if_pos h] at hb
        exact hb
set_option maxRecDepth 20000 in
set_option maxHeartbeats 4000000 in
theorem lbX4_draw_92 {G : Nat → LV → List Value → aS → Prop} {post : Option Value → aS → Prop} (hG : ∀ n b pc lv st σ, seg (0, fun _ => 0) pgX4_draw ceX4_draw cutX4_draw G (fun v σ => rFit (some .int) v ∧ post v σ) n b pc lv st σ → G pc lv st σ) (c : MS) (u : Nat → aE) (M : aS) (l9 : Int32) (hb : bX4_draw_92 c l9 (fun x X => rFit (some .int) (some (.int x)) ∧ post (some (.int x)) (pre20 u ++ (wM X ++ M))) (fun z9 X => G 92 [(0, .ref 20), (9, .int z9)] [] (pre20 u ++ (wM X ++ M)))) : G 92 [(0, .ref 20), (9, .int l9)] [] (pre20 u ++ (wM c ++ M)) := by
  unfold bX4_draw_92 at hb
  refine hG 400 false 92 _ _ _ ?_
  refine And.intro (fun (h : (5 : Int32) ≤ l9) => ?_) (fun (h : ¬ (5 : Int32) ≤ l9) => ?_)
  · rw [if_pos h] at hb
    refine Exists.intro c (Exists.intro u (Exists.intro M ((And.intro rfl (mnX4_ends ?_ hb)))))
    intro  X4 hb
    exact hb
  · rw [if_neg h] at hb
    obtain ⟨hi, hb⟩ := hb
    refine And.intro hi ?_
    exact hb
theorem giX4_draw_92 {G : Nat → LV → List Value → aS → Prop} {post : Option Value → aS → Prop} (hG : ∀ n b pc lv st σ, seg (0, fun _ => 0) pgX4_draw ceX4_draw cutX4_draw G (fun v σ => rFit (some .int) v ∧ post v σ) n b pc lv st σ → G pc lv st σ) (u : Nat → aE) (M : aS) : ∀ (n : Nat) (z9 : Int32) (X : MS), itX4_draw_92 (fun x X => rFit (some .int) (some (.int x)) ∧ post (some (.int x)) (pre20 u ++ (wM X ++ M))) n z9 X → G 92 [(0, .ref 20), (9, .int z9)] [] (pre20 u ++ (wM X ++ M))
  | 0, _, _, h => h.elim
  | n + 1, _, _, h => lbX4_draw_92 hG _ u M _ (mbX4_draw_92 (fun _ _ h => h) (fun _ _ h => giX4_draw_92 hG u M n _ _ h) h)
theorem rcX4_draw : ∀ as σ kk, tX4_draw as σ kk → ∃ a r fs, as = .ref a :: r ∧ σ[a]? = some (.inr (3, fs)) := by
  intro as σ kk h
  unfold tX4_draw at h; split at h
  · obtain ⟨c, u, M, rfl, -⟩ := h
    exact ⟨_, _, _, rfl, rfl⟩
  · exact h.elim
set_option maxRecDepth 20000 in
theorem okX4_draw (l : Launch) : OK l yX4_draw cX4_draw 10 (some .int) 2 tX4_draw := by
  intro D τ ρ A as σ post h
  unfold tX4_draw at h; split at h
  · rename_i a b; obtain ⟨c, u, M, rfl, hw⟩ := h
    refine met_of (P := pgX4_draw) (CE := ceX4_draw) (cut := cutX4_draw) (by decide) kkX4_draw (coX4_draw l) (Nat.le_of_ble_eq_true rfl) ?_
    intro G hG
    unfold wX4_draw at hw
    refine lbX4_draw_0 hG c u M a b (mbX4_draw_0 ?_ ?_ hw)
    · exact fun _ _ h => ⟨trivial, h⟩
    · intro _ _ ⟨N, h⟩; exact giX4_draw_92 hG u M N _ _ (miX4_draw_92 (fun _ _ h => ⟨trivial, h⟩) N _ _ h)
  · exact h.elim
def bX4_isNode_0 (c : MS) (a : Int32) (kr : Int32 → MS → Prop)  : Prop :=
  (wX4_in a (0 : Int32) ((c.1 2) - (1 : Int32)) (fun r1 => ((r1 = 0 ∨ r1 = 1) ∧ kr r1 c)))
set_option maxRecDepth 20000 in
theorem mbX4_isNode_0 {c : MS} {a : Int32} {kr kq : Int32 → MS → Prop}  (hr : ∀ x X, (x = 0 ∨ x = 1) → kr x X → kq x X)  (h : bX4_isNode_0 c a kr ) : bX4_isNode_0 c a kq  := by
  unfold bX4_isNode_0 at h ⊢
  refine mnX4_in ?_ h
  intro r1 _ h
  exact ⟨h.1, hr _ _ h.1 h.2⟩
def wX4_isNode (c : MS) (a : Int32) (kr : Int32 → MS → Prop) : Prop := bX4_isNode_0 c a kr 
theorem mnX4_isNode {c : MS} {a : Int32} {kr kq : Int32 → MS → Prop} (hr : ∀ x X, (x = 0 ∨ x = 1) → kr x X → kq x X) (h : wX4_isNode c a kr) : wX4_isNode c a kq := mbX4_isNode_0 hr  h
def tX4_isNode : Tr := fun as σ k => match as with
  | [.ref 20, .int a] => ∃ (c : MS) (u : Nat → aE) (M : aS), σ = pre20 u ++ (wM c ++ M) ∧ wX4_isNode c a (fun x X => k (some (.int x)) (pre20 u ++ (wM X ++ M)))
  | _ => False
def ceX4_isNode : List (Nat × Nat × Tr) := (2 * 129, 3, tX4_in) :: []
theorem coX4_isNode (l : Launch) : CEok l yX4_isNode.cls 1 ceX4_isNode := ce_S (okX4_in l) (mw 726 (by decide +kernel) rfl) (mw 727 (by decide +kernel) rfl) (mw 4 (by decide +kernel) rfl) (mw 728 (by decide +kernel) rfl) (by decide) ⟨by decide, by decide⟩ (ce_0)
abbrev cutX4_isNode : List (Nat × List Nat) := []
set_option maxRecDepth 20000 in
set_option maxHeartbeats 4000000 in
theorem lbX4_isNode_0 {G : Nat → LV → List Value → aS → Prop} {post : Option Value → aS → Prop} (hG : ∀ n b pc lv st σ, seg (0, fun _ => 0) pgX4_isNode ceX4_isNode cutX4_isNode G (fun v σ => rFit (some .boolean) v ∧ post v σ) n b pc lv st σ → G pc lv st σ) (c : MS) (u : Nat → aE) (M : aS) (a : Int32) (hb : bX4_isNode_0 c a (fun x X => rFit (some .boolean) (some (.int x)) ∧ post (some (.int x)) (pre20 u ++ (wM X ++ M))) ) : G 0 [(0, .ref 20), (1, .int a)] [] (pre20 u ++ (wM c ++ M)) := by
  unfold bX4_isNode_0 at hb
  refine hG 400 false 0 _ _ _ ?_
  refine And.intro trivial (mnX4_in ?_ hb)
  intro r1 _ hb
  exact hb.2
theorem rcX4_isNode : ∀ as σ kk, tX4_isNode as σ kk → ∃ a r fs, as = .ref a :: r ∧ σ[a]? = some (.inr (3, fs)) := by
  intro as σ kk h
  unfold tX4_isNode at h; split at h
  · obtain ⟨c, u, M, rfl, -⟩ := h
    exact ⟨_, _, _, rfl, rfl⟩
  · exact h.elim
set_option maxRecDepth 20000 in
theorem okX4_isNode (l : Launch) : OK l yX4_isNode cX4_isNode 2 (some .boolean) 1 tX4_isNode := by
  intro D τ ρ A as σ post h
  unfold tX4_isNode at h; split at h
  · rename_i a; obtain ⟨c, u, M, rfl, hw⟩ := h
    refine met_of (P := pgX4_isNode) (CE := ceX4_isNode) (cut := cutX4_isNode) (by decide) kkX4_isNode (coX4_isNode l) (Nat.le_of_ble_eq_true rfl) ?_
    intro G hG
    unfold wX4_isNode at hw
    refine lbX4_isNode_0 hG c u M a (mbX4_isNode_0 ?_  hw)
    · exact fun _ _ hf h => ⟨hf, h⟩
  · exact h.elim
def bX4_node_0 (c : MS) (a : Int32) (b : Int32) (d : Int32) (e : Int64) (kr : Int32 → MS → Prop)  : Prop :=
  (wX4_in a (0 : Int32) (16 : Int32) (fun r1 => (if r1 = 0 then
    kr (-2 : Int32) (msetI c 0 (0 : Int32))
  else
    (if a = 0 then
      (wX4_in b (0 : Int32) (((msetI c 0 (0 : Int32)).1 1) - (1 : Int32)) (fun r19 => (if r19 = 0 then
        kr (-1 : Int32) (msetI c 0 (0 : Int32))
      else
        (if a ≤ (1 : Int32) then
          (wX4_isTwo a (fun r20 => (if r20 = 0 then
            (if ((msetI c 0 (0 : Int32)).1 2) = (32 : Int32) then
              kr (-4 : Int32) (msetI c 0 (0 : Int32))
            else
              (vp_in ((msetI c 0 (0 : Int32)).1 2) 32 ∧ (vp_in ((msetA (msetI c 0 (0 : Int32)) 23 (upd ((msetI c 0 (0 : Int32)).2.1 23) ((msetI c 0 (0 : Int32)).1 2).toNatClampNeg a)).1 2) 32 ∧ (∀ Y21 : MS, Y21 = (msetA (msetA (msetI c 0 (0 : Int32)) 23 (upd ((msetI c 0 (0 : Int32)).2.1 23) ((msetI c 0 (0 : Int32)).1 2).toNatClampNeg a)) 24 (upd ((msetA (msetI c 0 (0 : Int32)) 23 (upd ((msetI c 0 (0 : Int32)).2.1 23) ((msetI c 0 (0 : Int32)).1 2).toNatClampNeg a)).2.1 24) ((msetA (msetI c 0 (0 : Int32)) 23 (upd ((msetI c 0 (0 : Int32)).2.1 23) ((msetI c 0 (0 : Int32)).1 2).toNatClampNeg a)).1 2).toNatClampNeg b)) → (vp_in (Y21.1 2) 32 ∧ (wX4_of e (fun r22 => (vp_in ((msetA Y21 25 (upd (Y21.2.1 25) (Y21.1 2).toNatClampNeg d)).1 2) 32 ∧ (∀ Y23 : MS, Y23 = (msetL (msetA Y21 25 (upd (Y21.2.1 25) (Y21.1 2).toNatClampNeg d)) 26 (vf_upd ((msetA Y21 25 (upd (Y21.2.1 25) (Y21.1 2).toNatClampNeg d)).2.2 26) ((msetA Y21 25 (upd (Y21.2.1 25) (Y21.1 2).toNatClampNeg d)).1 2).toNatClampNeg r22)) → kr (((msetI Y23 2 ((Y23.1 2) + (1 : Int32))).1 2) - (1 : Int32)) (msetI Y23 2 ((Y23.1 2) + (1 : Int32))))))))))))
          else
            (wX4_isNode (msetI c 0 (0 : Int32)) d (fun r24 X24 => (if r24 = 0 then
              kr (-1 : Int32) X24
            else
              (if (X24.1 2) = (32 : Int32) then
                kr (-4 : Int32) X24
              else
                (vp_in (X24.1 2) 32 ∧ (vp_in ((msetA X24 23 (upd (X24.2.1 23) (X24.1 2).toNatClampNeg a)).1 2) 32 ∧ (∀ Y25 : MS, Y25 = (msetA (msetA X24 23 (upd (X24.2.1 23) (X24.1 2).toNatClampNeg a)) 24 (upd ((msetA X24 23 (upd (X24.2.1 23) (X24.1 2).toNatClampNeg a)).2.1 24) ((msetA X24 23 (upd (X24.2.1 23) (X24.1 2).toNatClampNeg a)).1 2).toNatClampNeg b)) → (vp_in (Y25.1 2) 32 ∧ (wX4_of e (fun r26 => (vp_in ((msetA Y25 25 (upd (Y25.2.1 25) (Y25.1 2).toNatClampNeg d)).1 2) 32 ∧ (∀ Y27 : MS, Y27 = (msetL (msetA Y25 25 (upd (Y25.2.1 25) (Y25.1 2).toNatClampNeg d)) 26 (vf_upd ((msetA Y25 25 (upd (Y25.2.1 25) (Y25.1 2).toNatClampNeg d)).2.2 26) ((msetA Y25 25 (upd (Y25.2.1 25) (Y25.1 2).toNatClampNeg d)).1 2).toNatClampNeg r26)) → kr (((msetI Y27 2 ((Y27.1 2) + (1 : Int32))).1 2) - (1 : Int32)) (msetI Y27 2 ((Y27.1 2) + (1 : Int32))))))))))))))))))
        else
          (wX4_isNode (msetI c 0 (0 : Int32)) b (fun r28 X28 => (if r28 = 0 then
            kr (-1 : Int32) X28
          else
            (wX4_isTwo a (fun r29 => (if r29 = 0 then
              (if (X28.1 2) = (32 : Int32) then
                kr (-4 : Int32) X28
              else
                (vp_in (X28.1 2) 32 ∧ (vp_in ((msetA X28 23 (upd (X28.2.1 23) (X28.1 2).toNatClampNeg a)).1 2) 32 ∧ (∀ Y30 : MS, Y30 = (msetA (msetA X28 23 (upd (X28.2.1 23) (X28.1 2).toNatClampNeg a)) 24 (upd ((msetA X28 23 (upd (X28.2.1 23) (X28.1 2).toNatClampNeg a)).2.1 24) ((msetA X28 23 (upd (X28.2.1 23) (X28.1 2).toNatClampNeg a)).1 2).toNatClampNeg b)) → (vp_in (Y30.1 2) 32 ∧ (wX4_of e (fun r31 => (vp_in ((msetA Y30 25 (upd (Y30.2.1 25) (Y30.1 2).toNatClampNeg d)).1 2) 32 ∧ (∀ Y32 : MS, Y32 = (msetL (msetA Y30 25 (upd (Y30.2.1 25) (Y30.1 2).toNatClampNeg d)) 26 (vf_upd ((msetA Y30 25 (upd (Y30.2.1 25) (Y30.1 2).toNatClampNeg d)).2.2 26) ((msetA Y30 25 (upd (Y30.2.1 25) (Y30.1 2).toNatClampNeg d)).1 2).toNatClampNeg r31)) → kr (((msetI Y32 2 ((Y32.1 2) + (1 : Int32))).1 2) - (1 : Int32)) (msetI Y32 2 ((Y32.1 2) + (1 : Int32))))))))))))
            else
              (wX4_isNode X28 d (fun r33 X33 => (if r33 = 0 then
                kr (-1 : Int32) X33
              else
                (if (X33.1 2) = (32 : Int32) then
                  kr (-4 : Int32) X33
                else
                  (vp_in (X33.1 2) 32 ∧ (vp_in ((msetA X33 23 (upd (X33.2.1 23) (X33.1 2).toNatClampNeg a)).1 2) 32 ∧ (∀ Y34 : MS, Y34 = (msetA (msetA X33 23 (upd (X33.2.1 23) (X33.1 2).toNatClampNeg a)) 24 (upd ((msetA X33 23 (upd (X33.2.1 23) (X33.1 2).toNatClampNeg a)).2.1 24) ((msetA X33 23 (upd (X33.2.1 23) (X33.1 2).toNatClampNeg a)).1 2).toNatClampNeg b)) → (vp_in (Y34.1 2) 32 ∧ (wX4_of e (fun r35 => (vp_in ((msetA Y34 25 (upd (Y34.2.1 25) (Y34.1 2).toNatClampNeg d)).1 2) 32 ∧ (∀ Y36 : MS, Y36 = (msetL (msetA Y34 25 (upd (Y34.2.1 25) (Y34.1 2).toNatClampNeg d)) 26 (vf_upd ((msetA Y34 25 (upd (Y34.2.1 25) (Y34.1 2).toNatClampNeg d)).2.2 26) ((msetA Y34 25 (upd (Y34.2.1 25) (Y34.1 2).toNatClampNeg d)).1 2).toNatClampNeg r35)) → kr (((msetI Y36 2 ((Y36.1 2) + (1 : Int32))).1 2) - (1 : Int32)) (msetI Y36 2 ((Y36.1 2) + (1 : Int32)))))))))))))))))))))))))
    else
      (if a ≤ (1 : Int32) then
        (wX4_isTwo a (fun r2 => (if r2 = 0 then
          (if ((msetI c 0 (0 : Int32)).1 2) = (32 : Int32) then
            kr (-4 : Int32) (msetI c 0 (0 : Int32))
          else
            (vp_in ((msetI c 0 (0 : Int32)).1 2) 32 ∧ (vp_in ((msetA (msetI c 0 (0 : Int32)) 23 (upd ((msetI c 0 (0 : Int32)).2.1 23) ((msetI c 0 (0 : Int32)).1 2).toNatClampNeg a)).1 2) 32 ∧ (∀ Y3 : MS, Y3 = (msetA (msetA (msetI c 0 (0 : Int32)) 23 (upd ((msetI c 0 (0 : Int32)).2.1 23) ((msetI c 0 (0 : Int32)).1 2).toNatClampNeg a)) 24 (upd ((msetA (msetI c 0 (0 : Int32)) 23 (upd ((msetI c 0 (0 : Int32)).2.1 23) ((msetI c 0 (0 : Int32)).1 2).toNatClampNeg a)).2.1 24) ((msetA (msetI c 0 (0 : Int32)) 23 (upd ((msetI c 0 (0 : Int32)).2.1 23) ((msetI c 0 (0 : Int32)).1 2).toNatClampNeg a)).1 2).toNatClampNeg b)) → (vp_in (Y3.1 2) 32 ∧ (wX4_of e (fun r4 => (vp_in ((msetA Y3 25 (upd (Y3.2.1 25) (Y3.1 2).toNatClampNeg d)).1 2) 32 ∧ (∀ Y5 : MS, Y5 = (msetL (msetA Y3 25 (upd (Y3.2.1 25) (Y3.1 2).toNatClampNeg d)) 26 (vf_upd ((msetA Y3 25 (upd (Y3.2.1 25) (Y3.1 2).toNatClampNeg d)).2.2 26) ((msetA Y3 25 (upd (Y3.2.1 25) (Y3.1 2).toNatClampNeg d)).1 2).toNatClampNeg r4)) → kr (((msetI Y5 2 ((Y5.1 2) + (1 : Int32))).1 2) - (1 : Int32)) (msetI Y5 2 ((Y5.1 2) + (1 : Int32))))))))))))
        else
          (wX4_isNode (msetI c 0 (0 : Int32)) d (fun r6 X6 => (if r6 = 0 then
            kr (-1 : Int32) X6
          else
            (if (X6.1 2) = (32 : Int32) then
              kr (-4 : Int32) X6
            else
              (vp_in (X6.1 2) 32 ∧ (vp_in ((msetA X6 23 (upd (X6.2.1 23) (X6.1 2).toNatClampNeg a)).1 2) 32 ∧ (∀ Y7 : MS, Y7 = (msetA (msetA X6 23 (upd (X6.2.1 23) (X6.1 2).toNatClampNeg a)) 24 (upd ((msetA X6 23 (upd (X6.2.1 23) (X6.1 2).toNatClampNeg a)).2.1 24) ((msetA X6 23 (upd (X6.2.1 23) (X6.1 2).toNatClampNeg a)).1 2).toNatClampNeg b)) → (vp_in (Y7.1 2) 32 ∧ (wX4_of e (fun r8 => (vp_in ((msetA Y7 25 (upd (Y7.2.1 25) (Y7.1 2).toNatClampNeg d)).1 2) 32 ∧ (∀ Y9 : MS, Y9 = (msetL (msetA Y7 25 (upd (Y7.2.1 25) (Y7.1 2).toNatClampNeg d)) 26 (vf_upd ((msetA Y7 25 (upd (Y7.2.1 25) (Y7.1 2).toNatClampNeg d)).2.2 26) ((msetA Y7 25 (upd (Y7.2.1 25) (Y7.1 2).toNatClampNeg d)).1 2).toNatClampNeg r8)) → kr (((msetI Y9 2 ((Y9.1 2) + (1 : Int32))).1 2) - (1 : Int32)) (msetI Y9 2 ((Y9.1 2) + (1 : Int32))))))))))))))))))
      else
        (wX4_isNode (msetI c 0 (0 : Int32)) b (fun r10 X10 => (if r10 = 0 then
          kr (-1 : Int32) X10
        else
          (wX4_isTwo a (fun r11 => (if r11 = 0 then
            (if (X10.1 2) = (32 : Int32) then
              kr (-4 : Int32) X10
            else
              (vp_in (X10.1 2) 32 ∧ (vp_in ((msetA X10 23 (upd (X10.2.1 23) (X10.1 2).toNatClampNeg a)).1 2) 32 ∧ (∀ Y12 : MS, Y12 = (msetA (msetA X10 23 (upd (X10.2.1 23) (X10.1 2).toNatClampNeg a)) 24 (upd ((msetA X10 23 (upd (X10.2.1 23) (X10.1 2).toNatClampNeg a)).2.1 24) ((msetA X10 23 (upd (X10.2.1 23) (X10.1 2).toNatClampNeg a)).1 2).toNatClampNeg b)) → (vp_in (Y12.1 2) 32 ∧ (wX4_of e (fun r13 => (vp_in ((msetA Y12 25 (upd (Y12.2.1 25) (Y12.1 2).toNatClampNeg d)).1 2) 32 ∧ (∀ Y14 : MS, Y14 = (msetL (msetA Y12 25 (upd (Y12.2.1 25) (Y12.1 2).toNatClampNeg d)) 26 (vf_upd ((msetA Y12 25 (upd (Y12.2.1 25) (Y12.1 2).toNatClampNeg d)).2.2 26) ((msetA Y12 25 (upd (Y12.2.1 25) (Y12.1 2).toNatClampNeg d)).1 2).toNatClampNeg r13)) → kr (((msetI Y14 2 ((Y14.1 2) + (1 : Int32))).1 2) - (1 : Int32)) (msetI Y14 2 ((Y14.1 2) + (1 : Int32))))))))))))
          else
            (wX4_isNode X10 d (fun r15 X15 => (if r15 = 0 then
              kr (-1 : Int32) X15
            else
              (if (X15.1 2) = (32 : Int32) then
                kr (-4 : Int32) X15
              else
                (vp_in (X15.1 2) 32 ∧ (vp_in ((msetA X15 23 (upd (X15.2.1 23) (X15.1 2).toNatClampNeg a)).1 2) 32 ∧ (∀ Y16 : MS, Y16 = (msetA (msetA X15 23 (upd (X15.2.1 23) (X15.1 2).toNatClampNeg a)) 24 (upd ((msetA X15 23 (upd (X15.2.1 23) (X15.1 2).toNatClampNeg a)).2.1 24) ((msetA X15 23 (upd (X15.2.1 23) (X15.1 2).toNatClampNeg a)).1 2).toNatClampNeg b)) → (vp_in (Y16.1 2) 32 ∧ (wX4_of e (fun r17 => (vp_in ((msetA Y16 25 (upd (Y16.2.1 25) (Y16.1 2).toNatClampNeg d)).1 2) 32 ∧ (∀ Y18 : MS, Y18 = (msetL (msetA Y16 25 (upd (Y16.2.1 25) (Y16.1 2).toNatClampNeg d)) 26 (vf_upd ((msetA Y16 25 (upd (Y16.2.1 25) (Y16.1 2).toNatClampNeg d)).2.2 26) ((msetA Y16 25 (upd (Y16.2.1 25) (Y16.1 2).toNatClampNeg d)).1 2).toNatClampNeg r17)) → kr (((msetI Y18 2 ((Y18.1 2) + (1 : Int32))).1 2) - (1 : Int32)) (msetI Y18 2 ((Y18.1 2) + (1 : Int32))))))))))))))))))))))))))
set_option maxRecDepth 20000 in
theorem mbX4_node_0 {c : MS} {a : Int32} {b : Int32} {d : Int32} {e : Int64} {kr kq : Int32 → MS → Prop}  (hr : ∀ x X, kr x X → kq x X)  (h : bX4_node_0 c a b d e kr ) : bX4_node_0 c a b d e kq  := by
  unfold bX4_node_0 at h ⊢
  refine mnX4_in ?_ h
  intro r1 _ h
  by_cases hc : r1 = 0
  · rw [if_pos hc] at h ⊢
    exact hr _ _ h
  · rw [if_neg hc] at h ⊢
    by_cases hc : a = 0
    · rw [if_pos hc] at h ⊢
      refine mnX4_in ?_ h
      intro r19 _ h
      by_cases hc : r19 = 0
      · rw [if_pos hc] at h ⊢
        exact hr _ _ h
      · rw [if_neg hc] at h ⊢
        by_cases hc : a ≤ (1 : Int32)
        · rw [if_pos hc] at h ⊢
          refine mnX4_isTwo ?_ h
          intro r20 _ h
          by_cases hc : r20 = 0
          · rw [if_pos hc] at h ⊢
            by_cases hc : ((msetI c 0 (0 : Int32)).1 2) = (32 : Int32)
            · rw [if_pos hc] at h ⊢
              exact hr _ _ h
            · rw [if_neg hc] at h ⊢
              obtain ⟨hi, h⟩ := h
              refine And.intro hi ?_
              obtain ⟨hi, h⟩ := h
              refine And.intro hi ?_
              intro Y21 eY21
              replace h := h _ eY21
              obtain ⟨hi, h⟩ := h
              refine And.intro hi ?_
              refine mnX4_of ?_ h
              intro r22 h
              obtain ⟨hi, h⟩ := h
              refine And.intro hi ?_
              intro Y23 eY23
              replace h := h _ eY23
              exact hr _ _ h
          · rw [if_neg hc] at h ⊢
            refine mnX4_isNode ?_ h
            intro r24 X24 _ h
            by_cases hc : r24 = 0
            · rw [if_pos hc] at h ⊢
              exact hr _ _ h
            · rw [if_neg hc] at h ⊢
              by_cases hc : (X24.1 2) = (32 : Int32)
              · rw [if_pos hc] at h ⊢
                exact hr _ _ h
              · rw [if_neg hc] at h ⊢
                obtain ⟨hi, h⟩ := h
                refine And.intro hi ?_
                obtain ⟨hi, h⟩ := h
                refine And.intro hi ?_
                intro Y25 eY25
                replace h := h _ eY25
                obtain ⟨hi, h⟩ := h
                refine And.intro hi ?_
                refine mnX4_of ?_ h
                intro r26 h
                obtain ⟨hi, h⟩ := h
                refine And.intro hi ?_
                intro Y27 eY27
                replace h := h _ eY27
                exact hr _ _ h
        · rw [if_neg hc] at h ⊢
          refine mnX4_isNode ?_ h
          intro r28 X28 _ h
          by_cases hc : r28 = 0
          · rw [if_pos hc] at h ⊢
            exact hr _ _ h
          · rw [if_neg hc] at h ⊢
            refine mnX4_isTwo ?_ h
            intro r29 _ h
            by_cases hc : r29 = 0
            · rw [if_pos hc] at h ⊢
              by_cases hc : (X28.1 2) = (32 : Int32)
              · rw [if_pos hc] at h ⊢
                exact hr _ _ h
              · rw [if_neg hc] at h ⊢
                obtain ⟨hi, h⟩ := h
                refine And.intro hi ?_
                obtain ⟨hi, h⟩ := h
                refine And.intro hi ?_
                intro Y30 eY30
                replace h := h _ eY30
                obtain ⟨hi, h⟩ := h
                refine And.intro hi ?_
                refine mnX4_of ?_ h
                intro r31 h
                obtain ⟨hi, h⟩ := h
                refine And.intro hi ?_
                intro Y32 eY32
                replace h := h _ eY32
                exact hr _ _ h
            · rw [if_neg hc] at h ⊢
              refine mnX4_isNode ?_ h
              intro r33 X33 _ h
              by_cases hc : r33 = 0
              · rw [if_pos hc] at h ⊢
                exact hr _ _ h
              · rw [if_neg hc] at h ⊢
                by_cases hc : (X33.1 2) = (32 : Int32)
                · rw [if_pos hc] at h ⊢
                  exact hr _ _ h
                · rw [if_neg hc] at h ⊢
                  obtain ⟨hi, h⟩ := h
                  refine And.intro hi ?_
                  obtain ⟨hi, h⟩ := h
                  refine And.intro hi ?_
                  intro Y34 eY34
                  replace h := h _ eY34
                  obtain ⟨hi, h⟩ := h
                  refine And.intro hi ?_
                  refine mnX4_of ?_ h
                  intro r35 h
                  obtain ⟨hi, h⟩ := h
                  refine And.intro hi ?_
                  intro Y36 eY36
                  replace h := h _ eY36
                  exact hr _ _ h
    · rw [if_neg hc] at h ⊢
      by_cases hc : a ≤ (1 : Int32)
      · rw [if_pos hc] at h ⊢
        refine mnX4_isTwo ?_ h
        intro r2 _ h
        by_cases hc : r2 = 0
        · rw [if_pos hc] at h ⊢
          by_cases hc : ((msetI c 0 (0 : Int32)).1 2) = (32 : Int32)
          · rw [if_pos hc] at h ⊢
            exact hr _ _ h
          · rw [if_neg hc] at h ⊢
            obtain ⟨hi, h⟩ := h
            refine And.intro hi ?_
            obtain ⟨hi, h⟩ := h
            refine And.intro hi ?_
            intro Y3 eY3
            replace h := h _ eY3
            obtain ⟨hi, h⟩ := h
            refine And.intro hi ?_
            refine mnX4_of ?_ h
            intro r4 h
            obtain ⟨hi, h⟩ := h
            refine And.intro hi ?_
            intro Y5 eY5
            replace h := h _ eY5
            exact hr _ _ h
        · rw [if_neg hc] at h ⊢
          refine mnX4_isNode ?_ h
          intro r6 X6 _ h
          by_cases hc : r6 = 0
          · rw [if_pos hc] at h ⊢
            exact hr _ _ h
          · rw [if_neg hc] at h ⊢
            by_cases hc : (X6.1 2) = (32 : Int32)
            · rw [if_pos hc] at h ⊢
              exact hr _ _ h
            · rw [if_neg hc] at h ⊢
              obtain ⟨hi, h⟩ := h
              refine And.intro hi ?_
              obtain ⟨hi, h⟩ := h
              refine And.intro hi ?_
              intro Y7 eY7
              replace h := h _ eY7
              obtain ⟨hi, h⟩ := h
              refine And.intro hi ?_
              refine mnX4_of ?_ h
              intro r8 h
              obtain ⟨hi, h⟩ := h
              refine And.intro hi ?_
              intro Y9 eY9
              replace h := h _ eY9
              exact hr _ _ h
      · rw [if_neg hc] at h ⊢
        refine mnX4_isNode ?_ h
        intro r10 X10 _ h
        by_cases hc : r10 = 0
        · rw [if_pos hc] at h ⊢
          exact hr _ _ h
        · rw [if_neg hc] at h ⊢
          refine mnX4_isTwo ?_ h
          intro r11 _ h
          by_cases hc : r11 = 0
          · rw [if_pos hc] at h ⊢
            by_cases hc : (X10.1 2) = (32 : Int32)
            · rw [if_pos hc] at h ⊢
              exact hr _ _ h
            · rw [if_neg hc] at h ⊢
              obtain ⟨hi, h⟩ := h
              refine And.intro hi ?_
              obtain ⟨hi, h⟩ := h
              refine And.intro hi ?_
              intro Y12 eY12
              replace h := h _ eY12
              obtain ⟨hi, h⟩ := h
              refine And.intro hi ?_
              refine mnX4_of ?_ h
              intro r13 h
              obtain ⟨hi, h⟩ := h
              refine And.intro hi ?_
              intro Y14 eY14
              replace h := h _ eY14
              exact hr _ _ h
          · rw [if_neg hc] at h ⊢
            refine mnX4_isNode ?_ h
            intro r15 X15 _ h
            by_cases hc : r15 = 0
            · rw [if_pos hc] at h ⊢
              exact hr _ _ h
            · rw [if_neg hc] at h ⊢
              by_cases hc : (X15.1 2) = (32 : Int32)
              · rw [if_pos hc] at h ⊢
                exact hr _ _ h
              · rw [if_neg hc] at h ⊢
                obtain ⟨hi, h⟩ := h
                refine And.intro hi ?_
                obtain ⟨hi, h⟩ := h
                refine And.intro hi ?_
                intro Y16 eY16
                replace h := h _ eY16
                obtain ⟨hi, h⟩ := h
                refine And.intro hi ?_
                refine mnX4_of ?_ h
                intro r17 h
                obtain ⟨hi, h⟩ := h
                refine And.intro hi ?_
                intro Y18 eY18
                replace h := h _ eY18
                exact hr _ _ h
def wX4_node (c : MS) (a : Int32) (b : Int32) (d : Int32) (e : Int64) (kr : Int32 → MS → Prop) : Prop := bX4_node_0 c a b d e kr 
theorem mnX4_node {c : MS} {a : Int32} {b : Int32} {d : Int32} {e : Int64} {kr kq : Int32 → MS → Prop} (hr : ∀ x X, kr x X → kq x X) (h : wX4_node c a b d e kr) : wX4_node c a b d e kq := mbX4_node_0 hr  h
def tX4_node : Tr := fun as σ k => match as with
  | [.ref 20, .int a, .int b, .int d, .long e] => ∃ (c : MS) (u : Nat → aE) (M : aS), σ = pre20 u ++ (wM c ++ M) ∧ wX4_node c a b d e (fun x X => k (some (.int x)) (pre20 u ++ (wM X ++ M)))
  | _ => False
def ceX4_node : List (Nat × Nat × Tr) := (2 * 129, 3, tX4_in) :: (2 * 137, 1, tX4_isTwo) :: (2 * 78, 1, tX4_of) :: (2 * 133 + 1, 1 + 1, tX4_isNode) :: []
theorem coX4_node (l : Launch) : CEok l yX4_node.cls 2 ceX4_node := ce_S (okX4_in l) (mw 726 (by decide +kernel) rfl) (mw 727 (by decide +kernel) rfl) (mw 4 (by decide +kernel) rfl) (mw 728 (by decide +kernel) rfl) (by decide) ⟨by decide, by decide⟩ (ce_S (okX4_isTwo l) (mw 733 (by decide +kernel) rfl) (mw 734 (by decide +kernel) rfl) (mw 4 (by decide +kernel) rfl) (mw 735 (by decide +kernel) rfl) (by decide) ⟨by decide, by decide⟩ (ce_S (okX4_of l) (mw 707 (by decide +kernel) rfl) (mw 708 (by decide +kernel) rfl) (mw 4 (by decide +kernel) rfl) (mw 709 (by decide +kernel) rfl) (by decide) ⟨by decide, by decide⟩ (ce_V (ci := 3) (n := 1) rfl (okX4_isNode l) rcX4_isNode (mw 729 (by decide +kernel) rfl) (mw 731 (by decide +kernel) rfl) (ms 17 (by decide +kernel) rfl) (mw 4 (by decide +kernel) rfl) (mw 732 (by decide +kernel) rfl) rfl (by decide) ⟨by decide, by decide⟩ (ce_0))))
abbrev cutX4_node : List (Nat × List Nat) := []
set_option maxRecDepth 20000 in
set_option maxHeartbeats 4000000 in
theorem lbX4_node_0 {G : Nat → LV → List Value → aS → Prop} {post : Option Value → aS → Prop} (hG : ∀ n b pc lv st σ, seg (0, fun _ => 0) pgX4_node ceX4_node cutX4_node G (fun v σ => rFit (some .int) v ∧ post v σ) n b pc lv st σ → G pc lv st σ) (c : MS) (u : Nat → aE) (M : aS) (a : Int32) (b : Int32) (d : Int32) (e : Int64) (hb : bX4_node_0 c a b d e (fun x X => rFit (some .int) (some (.int x)) ∧ post (some (.int x)) (pre20 u ++ (wM X ++ M))) ) : G 0 [(0, .ref 20), (1, .int a), (2, .int b), (3, .int d), (4, .long e)] [] (pre20 u ++ (wM c ++ M)) := by
  unfold bX4_node_0 at hb
  refine hG 400 false 0 _ _ _ ?_
  refine And.intro trivial (mnX4_in ?_ hb)
  intro r1 _ hb
  refine And.intro (fun (h : ¬ r1 = 0) => ?_) (fun hq => have h : r1 = 0 := Classical.not_not.mp hq; ?_)
  · rw [if_neg h] at hb
    refine And.intro (fun (h : ¬ a = 0) => ?_) (fun hq => have h : a = 0 := Classical.not_not.mp hq; ?_)
    · rw [if_neg h] at hb
      refine And.intro (fun (h : a ≤ (1 : Int32)) => ?_) (fun (h : ¬ a ≤ (1 : Int32)) => ?_)
      · rw [if_pos h] at hb
        refine And.intro trivial (mnX4_isTwo ?_ hb)
        intro r2 _ hb
        refine And.intro (fun (h : r2 = 0) => ?_) (fun (h : ¬ r2 = 0) => ?_)
        · rw [if_pos h] at hb
          refine And.intro (fun (h : ¬ ((msetI c 0 (0 : Int32)).1 2) = (32 : Int32)) => ?_) (fun hq => have h : ((msetI c 0 (0 : Int32)).1 2) = (32 : Int32) := Classical.not_not.mp hq; ?_)
          · rw [if_neg h] at hb
            obtain ⟨hi, hb⟩ := hb
            refine And.intro hi ?_
            obtain ⟨hi, hb⟩ := hb
            refine And.intro hi ?_
            let Y3 : MS := (msetA (msetA (msetI c 0 (0 : Int32)) 23 (upd ((msetI c 0 (0 : Int32)).2.1 23) ((msetI c 0 (0 : Int32)).1 2).toNatClampNeg a)) 24 (upd ((msetA (msetI c 0 (0 : Int32)) 23 (upd ((msetI c 0 (0 : Int32)).2.1 23) ((msetI c 0 (0 : Int32)).1 2).toNatClampNeg a)).2.1 24) ((msetA (msetI c 0 (0 : Int32)) 23 (upd ((msetI c 0 (0 : Int32)).2.1 23) ((msetI c 0 (0 : Int32)).1 2).toNatClampNeg a)).1 2).toNatClampNeg b))
            replace hb := hb Y3 rfl
            obtain ⟨hi, hb⟩ := hb
            refine And.intro hi ?_
            refine And.intro trivial (mnX4_of ?_ hb)
            intro r4 hb
            obtain ⟨hi, hb⟩ := hb
            refine And.intro hi ?_
            let Y5 : MS := (msetL (msetA Y3 25 (upd (Y3.2.1 25) (Y3.1 2).toNatClampNeg d)) 26 (vf_upd ((msetA Y3 25 (upd (Y3.2.1 25) (Y3.1 2).toNatClampNeg d)).2.2 26) ((msetA Y3 25 (upd (Y3.2.1 25) (Y3.1 2).toNatClampNeg d)).1 2).toNatClampNeg r4))
            replace hb := hb Y5 rfl
            exact hb
          · rw [if_pos h] at hb
            exact hb
        · rw [if_neg h] at hb
          refine Exists.intro (msetI c 0 (0 : Int32)) (Exists.intro u (Exists.intro M ((And.intro rfl (mnX4_isNode ?_ hb)))))
          intro r6 X6 _ hb
          refine And.intro (fun (h : ¬ r6 = 0) => ?_) (fun hq => have h : r6 = 0 := Classical.not_not.mp hq; ?_)
          · rw [if_neg h] at hb
            refine And.intro (fun (h : ¬ (X6.1 2) = (32 : Int32)) => ?_) (fun hq => have h : (X6.1 2) = (32 : Int32) := Classical.not_not.mp hq; ?_)
            · rw [if_neg h] at hb
              obtain ⟨hi, hb⟩ := hb
              refine And.intro hi ?_
              obtain ⟨hi, hb⟩ := hb
              refine And.intro hi ?_
              let Y7 : MS := (msetA (msetA X6 23 (upd (X6.2.1 23) (X6.1 2).toNatClampNeg a)) 24 (upd ((msetA X6 23 (upd (X6.2.1 23) (X6.1 2).toNatClampNeg a)).2.1 24) ((msetA X6 23 (upd (X6.2.1 23) (X6.1 2).toNatClampNeg a)).1 2).toNatClampNeg b))
              replace hb := hb Y7 rfl
              obtain ⟨hi, hb⟩ := hb
              refine And.intro hi ?_
              refine And.intro trivial (mnX4_of ?_ hb)
              intro r8 hb
              obtain ⟨hi, hb⟩ := hb
              refine And.intro hi ?_
              let Y9 : MS := (msetL (msetA Y7 25 (upd (Y7.2.1 25) (Y7.1 2).toNatClampNeg d)) 26 (vf_upd ((msetA Y7 25 (upd (Y7.2.1 25) (Y7.1 2).toNatClampNeg d)).2.2 26) ((msetA Y7 25 (upd (Y7.2.1 25) (Y7.1 2).toNatClampNeg d)).1 2).toNatClampNeg r8))
              replace hb := hb Y9 rfl
              exact hb
            · rw [if_pos h] at hb
              exact hb
          · rw [if_pos h] at hb
            exact hb
      · rw [if_neg h] at hb
        refine Exists.intro (msetI c 0 (0 : Int32)) (Exists.intro u (Exists.intro M ((And.intro rfl (mnX4_isNode ?_ hb)))))
        intro r10 X10 _ hb
        refine And.intro (fun (h : r10 = 0) => ?_) (fun (h : ¬ r10 = 0) => ?_)
        · rw [if_pos h] at hb
          exact hb
        · rw [if_neg h] at hb
          refine And.intro trivial (mnX4_isTwo ?_ hb)
          intro r11 _ hb
          refine And.intro (fun (h : r11 = 0) => ?_) (fun (h : ¬ r11 = 0) => ?_)
          · rw [if_pos h] at hb
            refine And.intro (fun (h : ¬ (X10.1 2) = (32 : Int32)) => ?_) (fun hq => have h : (X10.1 2) = (32 : Int32) := Classical.not_not.mp hq; ?_)
            · rw [if_neg h] at hb
              obtain ⟨hi, hb⟩ := hb
              refine And.intro hi ?_
              obtain ⟨hi, hb⟩ := hb
              refine And.intro hi ?_
              let Y12 : MS := (msetA (msetA X10 23 (upd (X10.2.1 23) (X10.1 2).toNatClampNeg a)) 24 (upd ((msetA X10 23 (upd (X10.2.1 23) (X10.1 2).toNatClampNeg a)).2.1 24) ((msetA X10 23 (upd (X10.2.1 23) (X10.1 2).toNatClampNeg a)).1 2).toNatClampNeg b))
              replace hb := hb Y12 rfl
              obtain ⟨hi, hb⟩ := hb
              refine And.intro hi ?_
              refine And.intro trivial (mnX4_of ?_ hb)
              intro r13 hb
              obtain ⟨hi, hb⟩ := hb
              refine And.intro hi ?_
              let Y14 : MS := (msetL (msetA Y12 25 (upd (Y12.2.1 25) (Y12.1 2).toNatClampNeg d)) 26 (vf_upd ((msetA Y12 25 (upd (Y12.2.1 25) (Y12.1 2).toNatClampNeg d)).2.2 26) ((msetA Y12 25 (upd (Y12.2.1 25) (Y12.1 2).toNatClampNeg d)).1 2).toNatClampNeg r13))
              replace hb := hb Y14 rfl
              exact hb
            · rw [if_pos h] at hb
              exact hb
          · rw [if_neg h] at hb
            refine Exists.intro X10 (Exists.intro u (Exists.intro M ((And.intro rfl (mnX4_isNode ?_ hb)))))
            intro r15 X15 _ hb
            refine And.intro (fun (h : ¬ r15 = 0) => ?_) (fun hq => have h : r15 = 0 := Classical.not_not.mp hq; ?_)
            · rw [if_neg h] at hb
              refine And.intro (fun (h : ¬ (X15.1 2) = (32 : Int32)) => ?_) (fun hq => have h : (X15.1 2) = (32 : Int32) := Classical.not_not.mp hq; ?_)
              · rw [if_neg h] at hb
                obtain ⟨hi, hb⟩ := hb
                refine And.intro hi ?_
                obtain ⟨hi, hb⟩ := hb
                refine And.intro hi ?_
                let Y16 : MS := (msetA (msetA X15 23 (upd (X15.2.1 23) (X15.1 2).toNatClampNeg a)) 24 (upd ((msetA X15 23 (upd (X15.2.1 23) (X15.1 2).toNatClampNeg a)).2.1 24) ((msetA X15 23 (upd (X15.2.1 23) (X15.1 2).toNatClampNeg a)).1 2).toNatClampNeg b))
                replace hb := hb Y16 rfl
                obtain ⟨hi, hb⟩ := hb
                refine And.intro hi ?_
                refine And.intro trivial (mnX4_of ?_ hb)
                intro r17 hb
                obtain ⟨hi, hb⟩ := hb
                refine And.intro hi ?_
                let Y18 : MS := (msetL (msetA Y16 25 (upd (Y16.2.1 25) (Y16.1 2).toNatClampNeg d)) 26 (vf_upd ((msetA Y16 25 (upd (Y16.2.1 25) (Y16.1 2).toNatClampNeg d)).2.2 26) ((msetA Y16 25 (upd (Y16.2.1 25) (Y16.1 2).toNatClampNeg d)).1 2).toNatClampNeg r17))
                replace hb := hb Y18 rfl
                exact hb
              · rw [if_pos h] at hb
                exact hb
            · rw [if_pos h] at hb
              exact hb
    · rw [if_pos h] at hb
      refine And.intro trivial (mnX4_in ?_ hb)
      intro r19 _ hb
      refine And.intro (fun (h : r19 = 0) => ?_) (fun (h : ¬ r19 = 0) => ?_)
      · rw [if_pos h] at hb
        exact hb
      · rw [if_neg h] at hb
        refine And.intro (fun (h : a ≤ (1 : Int32)) => ?_) (fun (h : ¬ a ≤ (1 : Int32)) => ?_)
        · rw [if_pos h] at hb
          refine And.intro trivial (mnX4_isTwo ?_ hb)
          intro r20 _ hb
          refine And.intro (fun (h : r20 = 0) => ?_) (fun (h : ¬ r20 = 0) => ?_)
          · rw [if_pos h] at hb
            refine And.intro (fun (h : ¬ ((msetI c 0 (0 : Int32)).1 2) = (32 : Int32)) => ?_) (fun hq => have h : ((msetI c 0 (0 : Int32)).1 2) = (32 : Int32) := Classical.not_not.mp hq; ?_)
            · rw [if_neg h] at hb
              obtain ⟨hi, hb⟩ := hb
              refine And.intro hi ?_
              obtain ⟨hi, hb⟩ := hb
              refine And.intro hi ?_
              let Y21 : MS := (msetA (msetA (msetI c 0 (0 : Int32)) 23 (upd ((msetI c 0 (0 : Int32)).2.1 23) ((msetI c 0 (0 : Int32)).1 2).toNatClampNeg a)) 24 (upd ((msetA (msetI c 0 (0 : Int32)) 23 (upd ((msetI c 0 (0 : Int32)).2.1 23) ((msetI c 0 (0 : Int32)).1 2).toNatClampNeg a)).2.1 24) ((msetA (msetI c 0 (0 : Int32)) 23 (upd ((msetI c 0 (0 : Int32)).2.1 23) ((msetI c 0 (0 : Int32)).1 2).toNatClampNeg a)).1 2).toNatClampNeg b))
              replace hb := hb Y21 rfl
              obtain ⟨hi, hb⟩ := hb
              refine And.intro hi ?_
              refine And.intro trivial (mnX4_of ?_ hb)
              intro r22 hb
              obtain ⟨hi, hb⟩ := hb
              refine And.intro hi ?_
              let Y23 : MS := (msetL (msetA Y21 25 (upd (Y21.2.1 25) (Y21.1 2).toNatClampNeg d)) 26 (vf_upd ((msetA Y21 25 (upd (Y21.2.1 25) (Y21.1 2).toNatClampNeg d)).2.2 26) ((msetA Y21 25 (upd (Y21.2.1 25) (Y21.1 2).toNatClampNeg d)).1 2).toNatClampNeg r22))
              replace hb := hb Y23 rfl
              exact hb
            · rw [if_pos h] at hb
              exact hb
          · rw [if_neg h] at hb
            refine Exists.intro (msetI c 0 (0 : Int32)) (Exists.intro u (Exists.intro M ((And.intro rfl (mnX4_isNode ?_ hb)))))
            intro r24 X24 _ hb
            refine And.intro (fun (h : ¬ r24 = 0) => ?_) (fun hq => have h : r24 = 0 := Classical.not_not.mp hq; ?_)
            · rw [if_neg h] at hb
              refine And.intro (fun (h : ¬ (X24.1 2) = (32 : Int32)) => ?_) (fun hq => have h : (X24.1 2) = (32 : Int32) := Classical.not_not.mp hq; ?_)
              · rw [if_neg h] at hb
                obtain ⟨hi, hb⟩ := hb
                refine And.intro hi ?_
                obtain ⟨hi, hb⟩ := hb
                refine And.intro hi ?_
                let Y25 : MS := (msetA (msetA X24 23 (upd (X24.2.1 23) (X24.1 2).toNatClampNeg a)) 24 (upd ((msetA X24 23 (upd (X24.2.1 23) (X24.1 2).toNatClampNeg a)).2.1 24) ((msetA X24 23 (upd (X24.2.1 23) (X24.1 2).toNatClampNeg a)).1 2).toNatClampNeg b))
                replace hb := hb Y25 rfl
                obtain ⟨hi, hb⟩ := hb
                refine And.intro hi ?_
                refine And.intro trivial (mnX4_of ?_ hb)
                intro r26 hb
                obtain ⟨hi, hb⟩ := hb
                refine And.intro hi ?_
                let Y27 : MS := (msetL (msetA Y25 25 (upd (Y25.2.1 25) (Y25.1 2).toNatClampNeg d)) 26 (vf_upd ((msetA Y25 25 (upd (Y25.2.1 25) (Y25.1 2).toNatClampNeg d)).2.2 26) ((msetA Y25 25 (upd (Y25.2.1 25) (Y25.1 2).toNatClampNeg d)).1 2).toNatClampNeg r26))
                replace hb := hb Y27 rfl
                exact hb
              · rw [if_pos h] at hb
                exact hb
            · rw [if_pos h] at hb
              exact hb
        · rw [if_neg h] at hb
          refine Exists.intro (msetI c 0 (0 : Int32)) (Exists.intro u (Exists.intro M ((And.intro rfl (mnX4_isNode ?_ hb)))))
          intro r28 X28 _ hb
          refine And.intro (fun (h : r28 = 0) => ?_) (fun (h : ¬ r28 = 0) => ?_)
          · rw [if_pos h] at hb
            exact hb
          · rw [if_neg h] at hb
            refine And.intro trivial (mnX4_isTwo ?_ hb)
            intro r29 _ hb
            refine And.intro (fun (h : r29 = 0) => ?_) (fun (h : ¬ r29 = 0) => ?_)
            · rw [if_pos h] at hb
              refine And.intro (fun (h : ¬ (X28.1 2) = (32 : Int32)) => ?_) (fun hq => have h : (X28.1 2) = (32 : Int32) := Classical.not_not.mp hq; ?_)
              · rw [if_neg h] at hb
                obtain ⟨hi, hb⟩ := hb
                refine And.intro hi ?_
                obtain ⟨hi, hb⟩ := hb
                refine And.intro hi ?_
                let Y30 : MS := (msetA (msetA X28 23 (upd (X28.2.1 23) (X28.1 2).toNatClampNeg a)) 24 (upd ((msetA X28 23 (upd (X28.2.1 23) (X28.1 2).toNatClampNeg a)).2.1 24) ((msetA X28 23 (upd (X28.2.1 23) (X28.1 2).toNatClampNeg a)).1 2).toNatClampNeg b))
                replace hb := hb Y30 rfl
                obtain ⟨hi, hb⟩ := hb
                refine And.intro hi ?_
                refine And.intro trivial (mnX4_of ?_ hb)
                intro r31 hb
                obtain ⟨hi, hb⟩ := hb
                refine And.intro hi ?_
                let Y32 : MS := (msetL (msetA Y30 25 (upd (Y30.2.1 25) (Y30.1 2).toNatClampNeg d)) 26 (vf_upd ((msetA Y30 25 (upd (Y30.2.1 25) (Y30.1 2).toNatClampNeg d)).2.2 26) ((msetA Y30 25 (upd (Y30.2.1 25) (Y30.1 2).toNatClampNeg d)).1 2).toNatClampNeg r31))
                replace hb := hb Y32 rfl
                exact hb
              · rw [if_pos h] at hb
                exact hb
            · rw [if_neg h] at hb
              refine Exists.intro X28 (Exists.intro u (Exists.intro M ((And.intro rfl (mnX4_isNode ?_ hb)))))
              intro r33 X33 _ hb
              refine And.intro (fun (h : ¬ r33 = 0) => ?_) (fun hq => have h : r33 = 0 := Classical.not_not.mp hq; ?_)
              · rw [if_neg h] at hb
                refine And.intro (fun (h : ¬ (X33.1 2) = (32 : Int32)) => ?_) (fun hq => have h : (X33.1 2) = (32 : Int32) := Classical.not_not.mp hq; ?_)
                · rw [if_neg h] at hb
                  obtain ⟨hi, hb⟩ := hb
                  refine And.intro hi ?_
                  obtain ⟨hi, hb⟩ := hb
                  refine And.intro hi ?_
                  let Y34 : MS := (msetA (msetA X33 23 (upd (X33.2.1 23) (X33.1 2).toNatClampNeg a)) 24 (upd ((msetA X33 23 (upd (X33.2.1 23) (X33.1 2).toNatClampNeg a)).2.1 24) ((msetA X33 23 (upd (X33.2.1 23) (X33.1 2).toNatClampNeg a)).1 2).toNatClampNeg b))
                  replace hb := hb Y34 rfl
                  obtain ⟨hi, hb⟩ := hb
                  refine And.intro hi ?_
                  refine And.intro trivial (mnX4_of ?_ hb)
                  intro r35 hb
                  obtain ⟨hi, hb⟩ := hb
                  refine And.intro hi ?_
                  let Y36 : MS := (msetL (msetA Y34 25 (upd (Y34.2.1 25) (Y34.1 2).toNatClampNeg d)) 26 (vf_upd ((msetA Y34 25 (upd (Y34.2.1 25) (Y34.1 2).toNatClampNeg d)).2.2 26) ((msetA Y34 25 (upd (Y34.2.1 25) (Y34.1 2).toNatClampNeg d)).1 2).toNatClampNeg r35))
                  replace hb := hb Y36 rfl
                  exact hb
                · rw [if_pos h] at hb
                  exact hb
              · rw [if_pos h] at hb
                exact hb
  · rw [if_pos h] at hb
    exact hb
theorem rcX4_node : ∀ as σ kk, tX4_node as σ kk → ∃ a r fs, as = .ref a :: r ∧ σ[a]? = some (.inr (3, fs)) := by
  intro as σ kk h
  unfold tX4_node at h; split at h
  · obtain ⟨c, u, M, rfl, -⟩ := h
    exact ⟨_, _, _, rfl, rfl⟩
  · exact h.elim
set_option maxRecDepth 20000 in
theorem okX4_node (l : Launch) : OK l yX4_node cX4_node 6 (some .int) 2 tX4_node := by
  intro D τ ρ A as σ post h
  unfold tX4_node at h; split at h
  · rename_i a b d e; obtain ⟨c, u, M, rfl, hw⟩ := h
    refine met_of (P := pgX4_node) (CE := ceX4_node) (cut := cutX4_node) (by decide) kkX4_node (coX4_node l) (Nat.le_of_ble_eq_true rfl) ?_
    intro G hG
    unfold wX4_node at hw
    refine lbX4_node_0 hG c u M a b d e (mbX4_node_0 ?_  hw)
    · exact fun _ _ h => ⟨trivial, h⟩
  · exact h.elim
def bX4_role_0 (c : MS) (a : Int32) (b : Int32) (kr : Int32 → MS → Prop)  : Prop :=
  (wX4_in a (0 : Int32) ((1 : Int32) + ((msetI c 0 (0 : Int32)).1 1)) (fun r1 => (if r1 = 0 then
    kr (-2 : Int32) (msetI c 0 (0 : Int32))
  else
    (if b = (-5 : Int32) then
      (vp_in a 5 ∧ (vp_in a 5 ∧ (wX4_ends (msetA (msetI c 0 (0 : Int32)) 27 (upd ((msetI c 0 (0 : Int32)).2.1 27) a.toNatClampNeg b))  (fun  X2 => kr ((msetI c 0 (0 : Int32)).2.1 27 a.toNatClampNeg) X2))))
    else
      (wX4_isNode (msetI c 0 (0 : Int32)) b (fun r3 X3 => (if r3 = 0 then
        kr (-1 : Int32) X3
      else
        (vp_in a 5 ∧ (vp_in a 5 ∧ (wX4_ends (msetA X3 27 (upd (X3.2.1 27) a.toNatClampNeg b))  (fun  X4 => kr (X3.2.1 27 a.toNatClampNeg) X4)))))))))))
set_option maxRecDepth 20000 in
theorem mbX4_role_0 {c : MS} {a : Int32} {b : Int32} {kr kq : Int32 → MS → Prop}  (hr : ∀ x X, kr x X → kq x X)  (h : bX4_role_0 c a b kr ) : bX4_role_0 c a b kq  := by
  unfold bX4_role_0 at h ⊢
  refine mnX4_in ?_ h
  intro r1 _ h
  by_cases hc : r1 = 0
  · rw [if_pos hc] at h ⊢
    exact hr _ _ h
  · rw [if_neg hc] at h ⊢
    by_cases hc : b = (-5 : Int32)
    · rw [if_pos hc] at h ⊢
      obtain ⟨hi, h⟩ := h
      refine And.intro hi ?_
      obtain ⟨hi, h⟩ := h
      refine And.intro hi ?_
      refine mnX4_ends ?_ h
      intro  X2 h
      exact hr _ _ h
    · rw [if_neg hc] at h ⊢
      refine mnX4_isNode ?_ h
      intro r3 X3 _ h
      by_cases hc : r3 = 0
      · rw [if_pos hc] at h ⊢
        exact hr _ _ h
      · rw [if_neg hc] at h ⊢
        obtain ⟨hi, h⟩ := h
        refine And.intro hi ?_
        obtain ⟨hi, h⟩ := h
        refine And.intro hi ?_
        refine mnX4_ends ?_ h
        intro  X4 h
        exact hr _ _ h
def wX4_role (c : MS) (a : Int32) (b : Int32) (kr : Int32 → MS → Prop) : Prop := bX4_role_0 c a b kr 
theorem mnX4_role {c : MS} {a : Int32} {b : Int32} {kr kq : Int32 → MS → Prop} (hr : ∀ x X, kr x X → kq x X) (h : wX4_role c a b kr) : wX4_role c a b kq := mbX4_role_0 hr  h
def tX4_role : Tr := fun as σ k => match as with
  | [.ref 20, .int a, .int b] => ∃ (c : MS) (u : Nat → aE) (M : aS), σ = pre20 u ++ (wM c ++ M) ∧ wX4_role c a b (fun x X => k (some (.int x)) (pre20 u ++ (wM X ++ M)))
  | _ => False
def ceX4_role : List (Nat × Nat × Tr) := (2 * 129, 3, tX4_in) :: (2 * 123 + 1, 0 + 1, tX4_ends) :: (2 * 133 + 1, 1 + 1, tX4_isNode) :: []
theorem coX4_role (l : Launch) : CEok l yX4_role.cls 2 ceX4_role := ce_S (okX4_in l) (mw 726 (by decide +kernel) rfl) (mw 727 (by decide +kernel) rfl) (mw 4 (by decide +kernel) rfl) (mw 728 (by decide +kernel) rfl) (by decide) ⟨by decide, by decide⟩ (ce_V (ci := 3) (n := 0) rfl (okX4_ends l) rcX4_ends (mw 718 (by decide +kernel) rfl) (mw 720 (by decide +kernel) rfl) (ms 16 (by decide +kernel) rfl) (mw 4 (by decide +kernel) rfl) (mw 721 (by decide +kernel) rfl) rfl (by decide) ⟨by decide, by decide⟩ (ce_V (ci := 3) (n := 1) rfl (okX4_isNode l) rcX4_isNode (mw 729 (by decide +kernel) rfl) (mw 731 (by decide +kernel) rfl) (ms 17 (by decide +kernel) rfl) (mw 4 (by decide +kernel) rfl) (mw 732 (by decide +kernel) rfl) rfl (by decide) ⟨by decide, by decide⟩ (ce_0)))
abbrev cutX4_role : List (Nat × List Nat) := []
set_option maxRecDepth 20000 in
set_option maxHeartbeats 4000000 in
theorem lbX4_role_0 {G : Nat → LV → List Value → aS → Prop} {post : Option Value → aS → Prop} (hG : ∀ n b pc lv st σ, seg (0, fun _ => 0) pgX4_role ceX4_role cutX4_role G (fun v σ => rFit (some .int) v ∧ post v σ) n b pc lv st σ → G pc lv st σ) (c : MS) (u : Nat → aE) (M : aS) (a : Int32) (b : Int32) (hb : bX4_role_0 c a b (fun x X => rFit (some .int) (some (.int x)) ∧ post (some (.int x)) (pre20 u ++ (wM X ++ M))) ) : G 0 [(0, .ref 20), (1, .int a), (2, .int b)] [] (pre20 u ++ (wM c ++ M)) := by
  unfold bX4_role_0 at hb
  refine hG 400 false 0 _ _ _ ?_
  refine And.intro trivial (mnX4_in ?_ hb)
  intro r1 _ hb
  refine And.intro (fun (h : ¬ r1 = 0) => ?_) (fun hq => have h : r1 = 0 := Classical.not_not.mp hq; ?_)
  · rw [if_neg h] at hb
    refine And.intro (fun (h : b = (-5 : Int32)) => ?_) (fun (h : ¬ b = (-5 : Int32)) => ?_)
    · rw [if_pos h] at hb
      obtain ⟨hi, hb⟩ := hb
      refine And.intro hi ?_
      obtain ⟨hi, hb⟩ := hb
      refine And.intro hi ?_
      refine Exists.intro (msetA (msetI c 0 (0 : Int32)) 27 (upd ((msetI c 0 (0 : Int32)).2.1 27) a.toNatClampNeg b)) (Exists.intro u (Exists.intro M ((And.intro rfl (mnX4_ends ?_ hb)))))
      intro  X2 hb
      exact hb
    · rw [if_neg h] at hb
      refine Exists.intro (msetI c 0 (0 : Int32)) (Exists.intro u (Exists.intro M ((And.intro rfl (mnX4_isNode ?_ hb)))))
      intro r3 X3 _ hb
      refine And.intro (fun (h : ¬ r3 = 0) => ?_) (fun hq => have h : r3 = 0 := Classical.not_not.mp hq; ?_)
      · rw [if_neg h] at hb
        obtain ⟨hi, hb⟩ := hb
        refine And.intro hi ?_
        obtain ⟨hi, hb⟩ := hb
        refine And.intro hi ?_
        refine Exists.intro (msetA X3 27 (upd (X3.2.1 27) a.toNatClampNeg b)) (Exists.intro u (Exists.intro M ((And.intro rfl (mnX4_ends ?_ hb)))))
        intro  X4 hb
        exact hb
      · rw [if_pos h] at hb
        exact hb
  · rw [if_pos h] at hb
    exact hb
theorem rcX4_role : ∀ as σ kk, tX4_role as σ kk → ∃ a r fs, as = .ref a :: r ∧ σ[a]? = some (.inr (3, fs)) := by
  intro as σ kk h
  unfold tX4_role at h; split at h
  · obtain ⟨c, u, M, rfl, -⟩ := h
    exact ⟨_, _, _, rfl, rfl⟩
  · exact h.elim
set_option maxRecDepth 20000 in
theorem okX4_role (l : Launch) : OK l yX4_role cX4_role 4 (some .int) 2 tX4_role := by
  intro D τ ρ A as σ post h
  unfold tX4_role at h; split at h
  · rename_i a b; obtain ⟨c, u, M, rfl, hw⟩ := h
    refine met_of (P := pgX4_role) (CE := ceX4_role) (cut := cutX4_role) (by decide) kkX4_role (coX4_role l) (Nat.le_of_ble_eq_true rfl) ?_
    intro G hG
    unfold wX4_role at hw
    refine lbX4_role_0 hG c u M a b (mbX4_role_0 ?_  hw)
    · exact fun _ _ h => ⟨trivial, h⟩
  · exact h.elim
def bX4_valueAt_0 (c : MS) (a : Int32) (b : UInt64) (d : UInt64) (e : UInt64) (kr : UInt64 → MS → Prop) (kc3 : Int32 → UInt64 → UInt64 → UInt64 → Int32 → MS → Prop) : Prop :=
  kc3 a b d e (0 : Int32) c
def bX4_valueAt_3 (c : MS) (a : Int32) (b : UInt64) (d : UInt64) (e : UInt64) (l8 : Int32) (kr : UInt64 → MS → Prop) (kc3 : Int32 → UInt64 → UInt64 → UInt64 → Int32 → MS → Prop) : Prop :=
  (if a < l8 then
    (vp_in a 32 ∧ kr (c.2.2 33 a.toNatClampNeg) c)
  else
    (vp_in l8 32 ∧ (if (c.2.1 23 l8.toNatClampNeg) = 0 then
      (vp_in l8 32 ∧ (if (c.2.1 24 l8.toNatClampNeg) = 0 then
        (vp_in l8 32 ∧ kc3 a b d e (l8 + (1 : Int32)) (msetL c 33 (vf_upd (c.2.2 33) l8.toNatClampNeg b)))
      else
        (vp_in l8 32 ∧ (if (c.2.1 24 l8.toNatClampNeg) = (1 : Int32) then
          (vp_in l8 32 ∧ kc3 a b d e (l8 + (1 : Int32)) (msetL c 33 (vf_upd (c.2.2 33) l8.toNatClampNeg d)))
        else
          (vp_in l8 32 ∧ kc3 a b d e (l8 + (1 : Int32)) (msetL c 33 (vf_upd (c.2.2 33) l8.toNatClampNeg e)))))))
    else
      (vp_in l8 32 ∧ (if (c.2.1 23 l8.toNatClampNeg) = (1 : Int32) then
        (vp_in l8 32 ∧ (vp_in l8 32 ∧ kc3 a b d e (l8 + (1 : Int32)) (msetL c 33 (vf_upd (c.2.2 33) l8.toNatClampNeg (c.2.2 26 l8.toNatClampNeg)))))
      else
        (vp_in l8 32 ∧ (vp_in l8 32 ∧ (vp_in (c.2.1 24 l8.toNatClampNeg) 32 ∧ (vp_in l8 32 ∧ (wX4_isTwo (c.2.1 23 l8.toNatClampNeg) (fun r1 => (if r1 = 0 then
          (wX4_made (c.2.1 23 l8.toNatClampNeg) (c.2.2 33 (c.2.1 24 l8.toNatClampNeg).toNatClampNeg) (FP.dconst0 : UInt64) (fun r2 => (vp_in l8 32 ∧ kc3 a b d e (l8 + (1 : Int32)) (msetL c 33 (vf_upd (c.2.2 33) l8.toNatClampNeg r2)))))
        else
          (vp_in l8 32 ∧ (vp_in (c.2.1 25 l8.toNatClampNeg) 32 ∧ (wX4_made (c.2.1 23 l8.toNatClampNeg) (c.2.2 33 (c.2.1 24 l8.toNatClampNeg).toNatClampNeg) (c.2.2 33 (c.2.1 25 l8.toNatClampNeg).toNatClampNeg) (fun r3 => (vp_in l8 32 ∧ kc3 a b d e (l8 + (1 : Int32)) (msetL c 33 (vf_upd (c.2.2 33) l8.toNatClampNeg r3)))))))))))))))))))
set_option maxRecDepth 20000 in
theorem mbX4_valueAt_0 {c : MS} {a : Int32} {b : UInt64} {d : UInt64} {e : UInt64} {kr kq : UInt64 → MS → Prop} {kc3 kd3 : Int32 → UInt64 → UInt64 → UInt64 → Int32 → MS → Prop} (hr : ∀ x X, kr x X → kq x X) (hc3 : ∀ z1 z2 z4 z6 z8 X, kc3 z1 z2 z4 z6 z8 X → kd3 z1 z2 z4 z6 z8 X) (h : bX4_valueAt_0 c a b d e kr kc3) : bX4_valueAt_0 c a b d e kq kd3 := by
  unfold bX4_valueAt_0 at h ⊢
  exact hc3 _ _ _ _ _ _ h
set_option maxRecDepth 20000 in
theorem mbX4_valueAt_3 {c : MS} {a : Int32} {b : UInt64} {d : UInt64} {e : UInt64} {l8 : Int32} {kr kq : UInt64 → MS → Prop} {kc3 kd3 : Int32 → UInt64 → UInt64 → UInt64 → Int32 → MS → Prop} (hr : ∀ x X, kr x X → kq x X) (hc3 : ∀ z1 z2 z4 z6 z8 X, kc3 z1 z2 z4 z6 z8 X → kd3 z1 z2 z4 z6 z8 X) (h : bX4_valueAt_3 c a b d e l8 kr kc3) : bX4_valueAt_3 c a b d e l8 kq kd3 := by
  unfold bX4_valueAt_3 at h ⊢
  by_cases hc : a < l8
  · rw [if_pos hc] at h ⊢
    obtain ⟨hi, h⟩ := h
    refine And.intro hi ?_
    exact hr _ _ h
  · rw [if_neg hc] at h ⊢
    obtain ⟨hi, h⟩ := h
    refine And.intro hi ?_
    by_cases hc : (c.2.1 23 l8.toNatClampNeg) = 0
    · rw [if_pos hc] at h ⊢
      obtain ⟨hi, h⟩ := h
      refine And.intro hi ?_
      by_cases hc : (c.2.1 24 l8.toNatClampNeg) = 0
      · rw [if_pos hc] at h ⊢
        obtain ⟨hi, h⟩ := h
        refine And.intro hi ?_
        exact hc3 _ _ _ _ _ _ h
      · rw [if_neg hc] at h ⊢
        obtain ⟨hi, h⟩ := h
        refine And.intro hi ?_
        by_cases hc : (c.2.1 24 l8.toNatClampNeg) = (1 : Int32)
        · rw [if_pos hc] at h ⊢
          obtain ⟨hi, h⟩ := h
          refine And.intro hi ?_
          exact hc3 _ _ _ _ _ _ h
        · rw [if_neg hc] at h ⊢
          obtain ⟨hi, h⟩ := h
          refine And.intro hi ?_
          exact hc3 _ _ _ _ _ _ h
    · rw [if_neg hc] at h ⊢
      obtain ⟨hi, h⟩ := h
      refine And.intro hi ?_
      by_cases hc : (c.2.1 23 l8.toNatClampNeg) = (1 : Int32)
      · rw [if_pos hc] at h ⊢
        obtain ⟨hi, h⟩ := h
        refine And.intro hi ?_
        obtain ⟨hi, h⟩ := h
        refine And.intro hi ?_
        exact hc3 _ _ _ _ _ _ h
      · rw [if_neg hc] at h ⊢
        obtain ⟨hi, h⟩ := h
        refine And.intro hi ?_
        obtain ⟨hi, h⟩ := h
        refine And.intro hi ?_
        obtain ⟨hi, h⟩ := h
        refine And.intro hi ?_
        obtain ⟨hi, h⟩ := h
        refine And.intro hi ?_
        refine mnX4_isTwo ?_ h
        intro r1 _ h
        by_cases hc : r1 = 0
        · rw [if_pos hc] at h ⊢
          refine mnX4_made ?_ h
          intro r2 h
          obtain ⟨hi, h⟩ := h
          refine And.intro hi ?_
          exact hc3 _ _ _ _ _ _ h
        · rw [if_neg hc] at h ⊢
          obtain ⟨hi, h⟩ := h
          refine And.intro hi ?_
          obtain ⟨hi, h⟩ := h
          refine And.intro hi ?_
          refine mnX4_made ?_ h
          intro r3 h
          obtain ⟨hi, h⟩ := h
          refine And.intro hi ?_
          exact hc3 _ _ _ _ _ _ h
def itX4_valueAt_3 (kr : UInt64 → MS → Prop) : Nat → Int32 → UInt64 → UInt64 → UInt64 → Int32 → MS → Prop
  | 0, _, _, _, _, _, _ => False
  | n + 1, a, b, d, e, l8, c => bX4_valueAt_3 c a b d e l8 kr (fun z1 z2 z4 z6 z8 X => itX4_valueAt_3 kr n z1 z2 z4 z6 z8 X)
theorem miX4_valueAt_3 {kr kq : UInt64 → MS → Prop} (hr : ∀ x X, kr x X → kq x X) : ∀ (n : Nat) (z1 : Int32) (z2 : UInt64) (z4 : UInt64) (z6 : UInt64) (z8 : Int32) (X : MS), itX4_valueAt_3 kr n z1 z2 z4 z6 z8 X → itX4_valueAt_3 kq n z1 z2 z4 z6 z8 X
  | 0, _, _, _, _, _, _, h => h
  | n + 1, _, _, _, _, _, _, h => mbX4_valueAt_3 hr (fun _ _ _ _ _ _ h => miX4_valueAt_3 hr n _ _ _ _ _ _ h) h
def wX4_valueAt (c : MS) (a : Int32) (b : UInt64) (d : UInt64) (e : UInt64) (kr : UInt64 → MS → Prop) : Prop := bX4_valueAt_0 c a b d e kr (fun z1 z2 z4 z6 z8 X => ∃ N, itX4_valueAt_3 kr N z1 z2 z4 z6 z8 X)
theorem mnX4_valueAt {c : MS} {a : Int32} {b : UInt64} {d : UInt64} {e : UInt64} {kr kq : UInt64 → MS → Prop} (hr : ∀ x X, kr x X → kq x X) (h : wX4_valueAt c a b d e kr) : wX4_valueAt c a b d e kq := mbX4_valueAt_0 hr (fun _ _ _ _ _ _ h => h.elim fun N h => ⟨N, miX4_valueAt_3 hr N _ _ _ _ _ _ h⟩) h
def tX4_valueAt : Tr := fun as σ k => match as with
  | [.ref 20, .int a, .double b, .double d, .double e] => ∃ (c : MS) (u : Nat → aE) (M : aS), σ = pre20 u ++ (wM c ++ M) ∧ wX4_valueAt c a b d e (fun x X => k (some (.double x)) (pre20 u ++ (wM X ++ M)))
  | _ => False
def ceX4_valueAt : List (Nat × Nat × Tr) := (2 * 137, 1, tX4_isTwo) :: (2 * 167, 3, tX4_made) :: []
theorem coX4_valueAt (l : Launch) : CEok l yX4_valueAt.cls 7 ceX4_valueAt := ce_S (okX4_isTwo l) (mw 733 (by decide +kernel) rfl) (mw 734 (by decide +kernel) rfl) (mw 4 (by decide +kernel) rfl) (mw 735 (by decide +kernel) rfl) (by decide) ⟨by decide, by decide⟩ (ce_S (okX4_made l) (mw 748 (by decide +kernel) rfl) (mw 749 (by decide +kernel) rfl) (mw 4 (by decide +kernel) rfl) (mw 750 (by decide +kernel) rfl) (by decide) ⟨by decide, by decide⟩ (ce_0))
abbrev cutX4_valueAt : List (Nat × List Nat) := [(3, [0, 1, 2, 4, 6, 8])]
set_option maxRecDepth 20000 in
set_option maxHeartbeats 4000000 in
theorem lbX4_valueAt_0 {G : Nat → LV → List Value → aS → Prop} {post : Option Value → aS → Prop} (hG : ∀ n b pc lv st σ, seg (0, fun _ => 0) pgX4_valueAt ceX4_valueAt cutX4_valueAt G (fun v σ => rFit (some .double) v ∧ post v σ) n b pc lv st σ → G pc lv st σ) (c : MS) (u : Nat → aE) (M : aS) (a : Int32) (b : UInt64) (d : UInt64) (e : UInt64) (hb : bX4_valueAt_0 c a b d e (fun x X => rFit (some .double) (some (.double x)) ∧ post (some (.double x)) (pre20 u ++ (wM X ++ M))) (fun z1 z2 z4 z6 z8 X => G 3 [(0, .ref 20), (1, .int z1), (2, .double z2), (4, .double z4), (6, .double z6), (8, .int z8)] [] (pre20 u ++ (wM X ++ M)))) : G 0 [(0, .ref 20), (1, .int a), (2, .double b), (4, .double d), (6, .double e)] [] (pre20 u ++ (wM c ++ M)) := by
  unfold bX4_valueAt_0 at hb
  refine hG 400 false 0 _ _ _ ?_
  exact hb
set_option maxRecDepth 20000 in
set_option maxHeartbeats 4000000 in
theorem lbX4_valueAt_3 {G : Nat → LV → List Value → aS → Prop} {post : Option Value → aS → Prop} (hG : ∀ n b pc lv st σ, seg (0, fun _ => 0) pgX4_valueAt ceX4_valueAt cutX4_valueAt G (fun v σ => rFit (some .double) v ∧ post v σ) n b pc lv st σ → G pc lv st σ) (c : MS) (u : Nat → aE) (M : aS) (a : Int32) (b : UInt64) (d : UInt64) (e : UInt64) (l8 : Int32) (hb : bX4_valueAt_3 c a b d e l8 (fun x X => rFit (some .double) (some (.double x)) ∧ post (some (.double x)) (pre20 u ++ (wM X ++ M))) (fun z1 z2 z4 z6 z8 X => G 3 [(0, .ref 20), (1, .int z1), (2, .double z2), (4, .double z4), (6, .double z6), (8, .int z8)] [] (pre20 u ++ (wM X ++ M)))) : G 3 [(0, .ref 20), (1, .int a), (2, .double b), (4, .double d), (6, .double e), (8, .int l8)] [] (pre20 u ++ (wM c ++ M)) := by
  unfold bX4_valueAt_3 at hb
  refine hG 400 false 3 _ _ _ ?_
  refine And.intro (fun (h : a < l8) => ?_) (fun (h : ¬ a < l8) => ?_)
  · rw [if_pos h] at hb
    obtain ⟨hi, hb⟩ := hb
    refine And.intro hi ?_
    exact hb
  · rw [if_neg h] at hb
    obtain ⟨hi, hb⟩ := hb
    refine And.intro hi ?_
    refine And.intro (fun (h : ¬ (c.2.1 23 l8.toNatClampNeg) = 0) => ?_) (fun hq => have h : (c.2.1 23 l8.toNatClampNeg) = 0 := Classical.not_not.mp hq; ?_)
    · rw [if_neg h] at hb
      obtain ⟨hi, hb⟩ := hb
      refine And.intro hi ?_
      refine And.intro (fun (h : ¬ (c.2.1 23 l8.toNatClampNeg) = (1 : Int32)) => ?_) (fun hq => have h : (c.2.1 23 l8.toNatClampNeg) = (1 : Int32) := Classical.not_not.mp hq; ?_)
      · rw [if_neg h] at hb
        obtain ⟨hi, hb⟩ := hb
        refine And.intro hi ?_
        obtain ⟨hi, hb⟩ := hb
        refine And.intro hi ?_
        obtain ⟨hi, hb⟩ := hb
        refine And.intro hi ?_
        obtain ⟨hi, hb⟩ := hb
        refine And.intro hi ?_
        refine And.intro trivial (mnX4_isTwo ?_ hb)
        intro r1 _ hb
        refine And.intro (fun (h : r1 = 0) => ?_) (fun (h : ¬ r1 = 0) => ?_)
        · rw [if_pos h] at hb
          refine And.intro trivial (mnX4_made ?_ hb)
          intro r2 hb
          obtain ⟨hi, hb⟩ := hb
          refine And.intro hi ?_
          exact hb
        · rw [if_neg h] at hb
          obtain ⟨hi, hb⟩ := hb
          refine And.intro hi ?_
          obtain ⟨hi, hb⟩ := hb
          refine And.intro hi ?_
          refine And.intro trivial (mnX4_made ?_ hb)
          intro r3 hb
          obtain ⟨hi, hb⟩ := hb
          refine And.intro hi ?_
          exact hb
      · rw [if_pos h] at hb
        obtain ⟨hi, hb⟩ := hb
        refine And.intro hi ?_
        obtain ⟨hi, hb⟩ := hb
        refine And.intro hi ?_
        exact hb
    · rw [if_pos h] at hb
      obtain ⟨hi, hb⟩ := hb
      refine And.intro hi ?_
      refine And.intro (fun (h : ¬ (c.2.1 24 l8.toNatClampNeg) = 0) => ?_) (fun hq => have h : (c.2.1 24 l8.toNatClampNeg) = 0 := Classical.not_not.mp hq; ?_)
      · rw [if_neg h] at hb
        obtain ⟨hi, hb⟩ := hb
        refine And.intro hi ?_
        refine And.intro (fun (h : ¬ (c.2.1 24 l8.toNatClampNeg) = (1 : Int32)) => ?_) (fun hq => have h : (c.2.1 24 l8.toNatClampNeg) = (1 : Int32) := Classical.not_not.mp hq; ?_)
        · rw [if_neg h] at hb
          obtain ⟨hi, hb⟩ := hb
          refine And.intro hi ?_
          exact hb
        · rw [if_pos h] at hb
          obtain ⟨hi, hb⟩ := hb
          refine And.intro hi ?_
          exact hb
      · rw [if_pos h] at hb
        obtain ⟨hi, hb⟩ := hb
        refine And.intro hi ?_
        exact hb
theorem giX4_valueAt_3 {G : Nat → LV → List Value → aS → Prop} {post : Option Value → aS → Prop} (hG : ∀ n b pc lv st σ, seg (0, fun _ => 0) pgX4_valueAt ceX4_valueAt cutX4_valueAt G (fun v σ => rFit (some .double) v ∧ post v σ) n b pc lv st σ → G pc lv st σ) (u : Nat → aE) (M : aS) : ∀ (n : Nat) (z1 : Int32) (z2 : UInt64) (z4 : UInt64) (z6 : UInt64) (z8 : Int32) (X : MS), itX4_valueAt_3 (fun x X => rFit (some .double) (some (.double x)) ∧ post (some (.double x)) (pre20 u ++ (wM X ++ M))) n z1 z2 z4 z6 z8 X → G 3 [(0, .ref 20), (1, .int z1), (2, .double z2), (4, .double z4), (6, .double z6), (8, .int z8)] [] (pre20 u ++ (wM X ++ M))
  | 0, _, _, _, _, _, _, h => h.elim
  | n + 1, _, _, _, _, _, _, h => lbX4_valueAt_3 hG _ u M _ _ _ _ _ (mbX4_valueAt_3 (fun _ _ h => h) (fun _ _ _ _ _ _ h => giX4_valueAt_3 hG u M n _ _ _ _ _ _ h) h)
theorem rcX4_valueAt : ∀ as σ kk, tX4_valueAt as σ kk → ∃ a r fs, as = .ref a :: r ∧ σ[a]? = some (.inr (3, fs)) := by
  intro as σ kk h
  unfold tX4_valueAt at h; split at h
  · obtain ⟨c, u, M, rfl, -⟩ := h
    exact ⟨_, _, _, rfl, rfl⟩
  · exact h.elim
set_option maxRecDepth 20000 in
theorem okX4_valueAt (l : Launch) : OK l yX4_valueAt cX4_valueAt 9 (some .double) 7 tX4_valueAt := by
  intro D τ ρ A as σ post h
  unfold tX4_valueAt at h; split at h
  · rename_i a b d e; obtain ⟨c, u, M, rfl, hw⟩ := h
    refine met_of (P := pgX4_valueAt) (CE := ceX4_valueAt) (cut := cutX4_valueAt) (by decide) kkX4_valueAt (coX4_valueAt l) (Nat.le_of_ble_eq_true rfl) ?_
    intro G hG
    unfold wX4_valueAt at hw
    refine lbX4_valueAt_0 hG c u M a b d e (mbX4_valueAt_0 ?_ ?_ hw)
    · exact fun _ _ h => ⟨trivial, h⟩
    · intro _ _ _ _ _ _ ⟨N, h⟩; exact giX4_valueAt_3 hG u M N _ _ _ _ _ _ (miX4_valueAt_3 (fun _ _ h => ⟨trivial, h⟩) N _ _ _ _ _ _ h)
  · exact h.elim
def bX4_value_0 (c : MS) (a : Int32) (b : Int64) (d : Int64) (e : Int64) (kr : Int64 → MS → Prop)  : Prop :=
  (wX4_isNode (msetI c 0 (0 : Int32)) a (fun r1 X1 => (if r1 = 0 then
    kr (0 : Int64) X1
  else
    (wX4_of b (fun r2 => (wX4_of d (fun r3 => (wX4_of e (fun r4 => (wX4_valueAt X1 a r2 r3 r4 (fun r5 X5 => (wX4_bits r5 (fun r6 => kr r6 X5)))))))))))))
set_option maxRecDepth 20000 in
theorem mbX4_value_0 {c : MS} {a : Int32} {b : Int64} {d : Int64} {e : Int64} {kr kq : Int64 → MS → Prop}  (hr : ∀ x X, kr x X → kq x X)  (h : bX4_value_0 c a b d e kr ) : bX4_value_0 c a b d e kq  := by
  unfold bX4_value_0 at h ⊢
  refine mnX4_isNode ?_ h
  intro r1 X1 _ h
  by_cases hc : r1 = 0
  · rw [if_pos hc] at h ⊢
    exact hr _ _ h
  · rw [if_neg hc] at h ⊢
    refine mnX4_of ?_ h
    intro r2 h
    refine mnX4_of ?_ h
    intro r3 h
    refine mnX4_of ?_ h
    intro r4 h
    refine mnX4_valueAt ?_ h
    intro r5 X5 h
    refine mnX4_bits ?_ h
    intro r6 h
    exact hr _ _ h
def wX4_value (c : MS) (a : Int32) (b : Int64) (d : Int64) (e : Int64) (kr : Int64 → MS → Prop) : Prop := bX4_value_0 c a b d e kr 
theorem mnX4_value {c : MS} {a : Int32} {b : Int64} {d : Int64} {e : Int64} {kr kq : Int64 → MS → Prop} (hr : ∀ x X, kr x X → kq x X) (h : wX4_value c a b d e kr) : wX4_value c a b d e kq := mbX4_value_0 hr  h
def tX4_value : Tr := fun as σ k => match as with
  | [.ref 20, .int a, .long b, .long d, .long e] => ∃ (c : MS) (u : Nat → aE) (M : aS), σ = pre20 u ++ (wM c ++ M) ∧ wX4_value c a b d e (fun x X => k (some (.long x)) (pre20 u ++ (wM X ++ M)))
  | _ => False
def ceX4_value : List (Nat × Nat × Tr) := (2 * 133 + 1, 1 + 1, tX4_isNode) :: (2 * 78, 1, tX4_of) :: (2 * 171 + 1, 4 + 1, tX4_valueAt) :: (2 * 81, 1, tX4_bits) :: []
theorem coX4_value (l : Launch) : CEok l yX4_value.cls 8 ceX4_value := ce_V (ci := 3) (n := 1) rfl (okX4_isNode l) rcX4_isNode (mw 729 (by decide +kernel) rfl) (mw 731 (by decide +kernel) rfl) (ms 17 (by decide +kernel) rfl) (mw 4 (by decide +kernel) rfl) (mw 732 (by decide +kernel) rfl) rfl (by decide) ⟨by decide, by decide⟩ (ce_S (okX4_of l) (mw 707 (by decide +kernel) rfl) (mw 708 (by decide +kernel) rfl) (mw 4 (by decide +kernel) rfl) (mw 709 (by decide +kernel) rfl) (by decide) ⟨by decide, by decide⟩ (ce_V (ci := 3) (n := 4) rfl (okX4_valueAt l) rcX4_valueAt (mw 744 (by decide +kernel) rfl) (mw 746 (by decide +kernel) rfl) (ms 18 (by decide +kernel) rfl) (mw 4 (by decide +kernel) rfl) (mw 747 (by decide +kernel) rfl) rfl (by decide) ⟨by decide, by decide⟩ (ce_S (okX4_bits l) (mw 772 (by decide +kernel) rfl) (mw 773 (by decide +kernel) rfl) (mw 4 (by decide +kernel) rfl) (mw 774 (by decide +kernel) rfl) (by decide) ⟨by decide, by decide⟩ (ce_0))))
abbrev cutX4_value : List (Nat × List Nat) := []
set_option maxRecDepth 20000 in
set_option maxHeartbeats 4000000 in
theorem lbX4_value_0 {G : Nat → LV → List Value → aS → Prop} {post : Option Value → aS → Prop} (hG : ∀ n b pc lv st σ, seg (0, fun _ => 0) pgX4_value ceX4_value cutX4_value G (fun v σ => rFit (some .long) v ∧ post v σ) n b pc lv st σ → G pc lv st σ) (c : MS) (u : Nat → aE) (M : aS) (a : Int32) (b : Int64) (d : Int64) (e : Int64) (hb : bX4_value_0 c a b d e (fun x X => rFit (some .long) (some (.long x)) ∧ post (some (.long x)) (pre20 u ++ (wM X ++ M))) ) : G 0 [(0, .ref 20), (1, .int a), (2, .long b), (4, .long d), (6, .long e)] [] (pre20 u ++ (wM c ++ M)) := by
  unfold bX4_value_0 at hb
  refine hG 400 false 0 _ _ _ ?_
  refine Exists.intro (msetI c 0 (0 : Int32)) (Exists.intro u (Exists.intro M ((And.intro rfl (mnX4_isNode ?_ hb)))))
  intro r1 X1 _ hb
  refine And.intro (fun (h : r1 = 0) => ?_) (fun (h : ¬ r1 = 0) => ?_)
  · rw [if_pos h] at hb
    exact hb
  · rw [if_neg h] at hb
    refine And.intro trivial (mnX4_of ?_ hb)
    intro r2 hb
    refine And.intro trivial (mnX4_of ?_ hb)
    intro r3 hb
    refine And.intro trivial (mnX4_of ?_ hb)
    intro r4 hb
    refine Exists.intro X1 (Exists.intro u (Exists.intro M ((And.intro rfl (mnX4_valueAt ?_ hb)))))
    intro r5 X5 hb
    refine And.intro trivial (mnX4_bits ?_ hb)
    intro r6 hb
    exact hb
theorem rcX4_value : ∀ as σ kk, tX4_value as σ kk → ∃ a r fs, as = .ref a :: r ∧ σ[a]? = some (.inr (3, fs)) := by
  intro as σ kk h
  unfold tX4_value at h; split at h
  · obtain ⟨c, u, M, rfl, -⟩ := h
    exact ⟨_, _, _, rfl, rfl⟩
  · exact h.elim
set_option maxRecDepth 20000 in
theorem okX4_value (l : Launch) : OK l yX4_value cX4_value 8 (some .long) 8 tX4_value := by
  intro D τ ρ A as σ post h
  unfold tX4_value at h; split at h
  · rename_i a b d e; obtain ⟨c, u, M, rfl, hw⟩ := h
    refine met_of (P := pgX4_value) (CE := ceX4_value) (cut := cutX4_value) (by decide) kkX4_value (coX4_value l) (Nat.le_of_ble_eq_true rfl) ?_
    intro G hG
    unfold wX4_value at hw
    refine lbX4_value_0 hG c u M a b d e (mbX4_value_0 ?_  hw)
    · exact fun _ _ h => ⟨trivial, h⟩
  · exact h.elim
def bX4_put_0 (c : MS) (a : Int32) (b : UInt64) (d : UInt64) (kr : MS → Prop)  : Prop :=
  (if (Op.cmpValue (FP.dcmp b b) .l) = 0 then
    (if (Op.cmpValue (FP.dcmp d d) .l) = 0 then
      (vp_in a 32 ∧ (vp_in a 32 ∧ (∀ Y2 : MS, Y2 = (msetL (msetL c 34 (vf_upd (c.2.2 34) a.toNatClampNeg b)) 35 (vf_upd ((msetL c 34 (vf_upd (c.2.2 34) a.toNatClampNeg b)).2.2 35) a.toNatClampNeg d)) → kr Y2)))
    else
      (vp_in a 32 ∧ (vp_in a 32 ∧ (∀ Y3 : MS, Y3 = (msetL (msetL c 34 (vf_upd (c.2.2 34) a.toNatClampNeg (18442240474082181120 : UInt64))) 35 (vf_upd ((msetL c 34 (vf_upd (c.2.2 34) a.toNatClampNeg (18442240474082181120 : UInt64))).2.2 35) a.toNatClampNeg (9218868437227405312 : UInt64))) → kr Y3))))
  else
    (vp_in a 32 ∧ (vp_in a 32 ∧ (∀ Y1 : MS, Y1 = (msetL (msetL c 34 (vf_upd (c.2.2 34) a.toNatClampNeg (18442240474082181120 : UInt64))) 35 (vf_upd ((msetL c 34 (vf_upd (c.2.2 34) a.toNatClampNeg (18442240474082181120 : UInt64))).2.2 35) a.toNatClampNeg (9218868437227405312 : UInt64))) → kr Y1))))
set_option maxRecDepth 20000 in
theorem mbX4_put_0 {c : MS} {a : Int32} {b : UInt64} {d : UInt64} {kr kq : MS → Prop}  (hr : ∀ X, kr X → kq X)  (h : bX4_put_0 c a b d kr ) : bX4_put_0 c a b d kq  := by
  unfold bX4_put_0 at h ⊢
  by_cases hc : (Op.cmpValue (FP.dcmp b b) .l) = 0
  · rw [if_pos hc] at h ⊢
    by_cases hc : (Op.cmpValue (FP.dcmp d d) .l) = 0
    · rw [if_pos hc] at h ⊢
      obtain ⟨hi, h⟩ := h
      refine And.intro hi ?_
      obtain ⟨hi, h⟩ := h
      refine And.intro hi ?_
      intro Y2 eY2
      replace h := h _ eY2
      exact hr _ h
    · rw [if_neg hc] at h ⊢
      obtain ⟨hi, h⟩ := h
      refine And.intro hi ?_
      obtain ⟨hi, h⟩ := h
      refine And.intro hi ?_
      intro Y3 eY3
      replace h := h _ eY3
      exact hr _ h
  · rw [if_neg hc] at h ⊢
    obtain ⟨hi, h⟩ := h
    refine And.intro hi ?_
    obtain ⟨hi, h⟩ := h
    refine And.intro hi ?_
    intro Y1 eY1
    replace h := h _ eY1
    exact hr _ h
def wX4_put (c : MS) (a : Int32) (b : UInt64) (d : UInt64) (kr : MS → Prop) : Prop := bX4_put_0 c a b d kr 
theorem mnX4_put {c : MS} {a : Int32} {b : UInt64} {d : UInt64} {kr kq : MS → Prop} (hr : ∀ X, kr X → kq X) (h : wX4_put c a b d kr) : wX4_put c a b d kq := mbX4_put_0 hr  h
def tX4_put : Tr := fun as σ k => match as with
  | [.ref 20, .int a, .double b, .double d] => ∃ (c : MS) (u : Nat → aE) (M : aS), σ = pre20 u ++ (wM c ++ M) ∧ wX4_put c a b d (fun X => k none (pre20 u ++ (wM X ++ M)))
  | _ => False
def ceX4_put : List (Nat × Nat × Tr) := []
theorem coX4_put (l : Launch) : CEok l yX4_put.cls 0 ceX4_put := ce_0
abbrev cutX4_put : List (Nat × List Nat) := []
set_option maxRecDepth 20000 in
set_option maxHeartbeats 4000000 in
theorem lbX4_put_0 {G : Nat → LV → List Value → aS → Prop} {post : Option Value → aS → Prop} (hG : ∀ n b pc lv st σ, seg (0, fun _ => 0) pgX4_put ceX4_put cutX4_put G (fun v σ => rFit none v ∧ post v σ) n b pc lv st σ → G pc lv st σ) (c : MS) (u : Nat → aE) (M : aS) (a : Int32) (b : UInt64) (d : UInt64) (hb : bX4_put_0 c a b d (fun X => rFit none none ∧ post none (pre20 u ++ (wM X ++ M))) ) : G 0 [(0, .ref 20), (1, .int a), (2, .double b), (4, .double d)] [] (pre20 u ++ (wM c ++ M)) := by
  unfold bX4_put_0 at hb
  refine hG 400 false 0 _ _ _ ?_
  refine And.intro (fun (h : ¬ (Op.cmpValue (FP.dcmp b b) .l) = 0) => ?_) (fun hq => have h : (Op.cmpValue (FP.dcmp b b) .l) = 0 := Classical.not_not.mp hq; ?_)
  · rw [if_neg h] at hb
    refine And.intro (fun h => absurd (show (1 : Int32) = (0 : Int32) from h) (by decide)) (fun _ => ?_)
    obtain ⟨hi, hb⟩ := hb
    refine And.intro hi ?_
    refine And.intro (fun h => absurd (show (1 : Int32) = (0 : Int32) from h) (by decide)) (fun _ => ?_)
    obtain ⟨hi, hb⟩ := hb
    refine And.intro hi ?_
    let Y1 : MS := (msetL (msetL c 34 (vf_upd (c.2.2 34) a.toNatClampNeg (18442240474082181120 : UInt64))) 35 (vf_upd ((msetL c 34 (vf_upd (c.2.2 34) a.toNatClampNeg (18442240474082181120 : UInt64))).2.2 35) a.toNatClampNeg (9218868437227405312 : UInt64)))
    replace hb := hb Y1 rfl
    exact hb
  · rw [if_pos h] at hb
    refine And.intro (fun (h : (Op.cmpValue (FP.dcmp d d) .l) = 0) => ?_) (fun (h : ¬ (Op.cmpValue (FP.dcmp d d) .l) = 0) => ?_)
    · rw [if_pos h] at hb
      refine And.intro (fun _ => ?_) (fun h => absurd (show (0 : Int32) = (0 : Int32) by decide) h)
      obtain ⟨hi, hb⟩ := hb
      refine And.intro hi ?_
      refine And.intro (fun _ => ?_) (fun h => absurd (show (0 : Int32) = (0 : Int32) by decide) h)
      obtain ⟨hi, hb⟩ := hb
      refine And.intro hi ?_
      let Y2 : MS := (msetL (msetL c 34 (vf_upd (c.2.2 34) a.toNatClampNeg b)) 35 (vf_upd ((msetL c 34 (vf_upd (c.2.2 34) a.toNatClampNeg b)).2.2 35) a.toNatClampNeg d))
      replace hb := hb Y2 rfl
      exact hb
    · rw [if_neg h] at hb
      refine And.intro (fun h => absurd (show (1 : Int32) = (0 : Int32) from h) (by decide)) (fun _ => ?_)
      obtain ⟨hi, hb⟩ := hb
      refine And.intro hi ?_
      refine And.intro (fun h => absurd (show (1 : Int32) = (0 : Int32) from h) (by decide)) (fun _ => ?_)
      obtain ⟨hi, hb⟩ := hb
      refine And.intro hi ?_
      let Y3 : MS := (msetL (msetL c 34 (vf_upd (c.2.2 34) a.toNatClampNeg (18442240474082181120 : UInt64))) 35 (vf_upd ((msetL c 34 (vf_upd (c.2.2 34) a.toNatClampNeg (18442240474082181120 : UInt64))).2.2 35) a.toNatClampNeg (9218868437227405312 : UInt64)))
      replace hb := hb Y3 rfl
      exact hb
theorem rcX4_put : ∀ as σ kk, tX4_put as σ kk → ∃ a r fs, as = .ref a :: r ∧ σ[a]? = some (.inr (3, fs)) := by
  intro as σ kk h
  unfold tX4_put at h; split at h
  · obtain ⟨c, u, M, rfl, -⟩ := h
    exact ⟨_, _, _, rfl, rfl⟩
  · exact h.elim
set_option maxRecDepth 20000 in
theorem okX4_put (l : Launch) : OK l yX4_put cX4_put 7 none 0 tX4_put := by
  intro D τ ρ A as σ post h
  unfold tX4_put at h; split at h
  · rename_i a b d; obtain ⟨c, u, M, rfl, hw⟩ := h
    refine met_of (P := pgX4_put) (CE := ceX4_put) (cut := cutX4_put) (by decide) kkX4_put (coX4_put l) (Nat.le_of_ble_eq_true rfl) ?_
    intro G hG
    unfold wX4_put at hw
    refine lbX4_put_0 hG c u M a b d (mbX4_put_0 ?_  hw)
    · exact fun _ h => ⟨trivial, h⟩
  · exact h.elim
def bX4_putUp_0 (c : MS) (a : Int32) (b : UInt64) (d : UInt64) (kr : MS → Prop)  : Prop :=
  (if 0 ≤ (Op.cmpValue (FP.dcmp b (FP.dconst0 : UInt64)) .g) then
    (wX4_put c a b d (fun  X1 => kr X1))
  else
    (wX4_put c a (FP.dconst0 : UInt64) d (fun  X2 => kr X2)))
set_option maxRecDepth 20000 in
theorem mbX4_putUp_0 {c : MS} {a : Int32} {b : UInt64} {d : UInt64} {kr kq : MS → Prop}  (hr : ∀ X, kr X → kq X)  (h : bX4_putUp_0 c a b d kr ) : bX4_putUp_0 c a b d kq  := by
  unfold bX4_putUp_0 at h ⊢
  by_cases hc : 0 ≤ (Op.cmpValue (FP.dcmp b (FP.dconst0 : UInt64)) .g)
  · rw [if_pos hc] at h ⊢
    refine mnX4_put ?_ h
    intro  X1 h
    exact hr _ h
  · rw [if_neg hc] at h ⊢
    refine mnX4_put ?_ h
    intro  X2 h
    exact hr _ h
def wX4_putUp (c : MS) (a : Int32) (b : UInt64) (d : UInt64) (kr : MS → Prop) : Prop := bX4_putUp_0 c a b d kr 
theorem mnX4_putUp {c : MS} {a : Int32} {b : UInt64} {d : UInt64} {kr kq : MS → Prop} (hr : ∀ X, kr X → kq X) (h : wX4_putUp c a b d kr) : wX4_putUp c a b d kq := mbX4_putUp_0 hr  h
def tX4_putUp : Tr := fun as σ k => match as with
  | [.ref 20, .int a, .double b, .double d] => ∃ (c : MS) (u : Nat → aE) (M : aS), σ = pre20 u ++ (wM c ++ M) ∧ wX4_putUp c a b d (fun X => k none (pre20 u ++ (wM X ++ M)))
  | _ => False
def ceX4_putUp : List (Nat × Nat × Tr) := (2 * 175 + 1, 3 + 1, tX4_put) :: []
theorem coX4_putUp (l : Launch) : CEok l yX4_putUp.cls 1 ceX4_putUp := ce_V (ci := 3) (n := 3) rfl (okX4_put l) rcX4_put (mw 823 (by decide +kernel) rfl) (mw 825 (by decide +kernel) rfl) (ms 23 (by decide +kernel) rfl) (mw 4 (by decide +kernel) rfl) (mw 826 (by decide +kernel) rfl) rfl (by decide) ⟨by decide, by decide⟩ (ce_0)
abbrev cutX4_putUp : List (Nat × List Nat) := []
set_option maxRecDepth 20000 in
set_option maxHeartbeats 4000000 in
theorem lbX4_putUp_0 {G : Nat → LV → List Value → aS → Prop} {post : Option Value → aS → Prop} (hG : ∀ n b pc lv st σ, seg (0, fun _ => 0) pgX4_putUp ceX4_putUp cutX4_putUp G (fun v σ => rFit none v ∧ post v σ) n b pc lv st σ → G pc lv st σ) (c : MS) (u : Nat → aE) (M : aS) (a : Int32) (b : UInt64) (d : UInt64) (hb : bX4_putUp_0 c a b d (fun X => rFit none none ∧ post none (pre20 u ++ (wM X ++ M))) ) : G 0 [(0, .ref 20), (1, .int a), (2, .double b), (4, .double d)] [] (pre20 u ++ (wM c ++ M)) := by
  unfold bX4_putUp_0 at hb
  refine hG 400 false 0 _ _ _ ?_
  refine And.intro (fun (h : 0 ≤ (Op.cmpValue (FP.dcmp b (FP.dconst0 : UInt64)) .g)) => ?_) (fun (h : ¬ 0 ≤ (Op.cmpValue (FP.dcmp b (FP.dconst0 : UInt64)) .g)) => ?_)
  · rw [if_pos h] at hb
    refine Exists.intro c (Exists.intro u (Exists.intro M ((And.intro rfl (mnX4_put ?_ hb)))))
    intro  X1 hb
    exact hb
  · rw [if_neg h] at hb
    refine Exists.intro c (Exists.intro u (Exists.intro M ((And.intro rfl (mnX4_put ?_ hb)))))
    intro  X2 hb
    exact hb
theorem rcX4_putUp : ∀ as σ kk, tX4_putUp as σ kk → ∃ a r fs, as = .ref a :: r ∧ σ[a]? = some (.inr (3, fs)) := by
  intro as σ kk h
  unfold tX4_putUp at h; split at h
  · obtain ⟨c, u, M, rfl, -⟩ := h
    exact ⟨_, _, _, rfl, rfl⟩
  · exact h.elim
set_option maxRecDepth 20000 in
theorem okX4_putUp (l : Launch) : OK l yX4_putUp cX4_putUp 6 none 1 tX4_putUp := by
  intro D τ ρ A as σ post h
  unfold tX4_putUp at h; split at h
  · rename_i a b d; obtain ⟨c, u, M, rfl, hw⟩ := h
    refine met_of (P := pgX4_putUp) (CE := ceX4_putUp) (cut := cutX4_putUp) (by decide) kkX4_putUp (coX4_putUp l) (Nat.le_of_ble_eq_true rfl) ?_
    intro G hG
    unfold wX4_putUp at hw
    refine lbX4_putUp_0 hG c u M a b d (mbX4_putUp_0 ?_  hw)
    · exact fun _ h => ⟨trivial, h⟩
  · exact h.elim
def bX4_putFour_0 (c : MS) (a : Int32) (b : UInt64) (d : UInt64) (e : UInt64) (f : UInt64) (kr : MS → Prop)  : Prop :=
  (wX4_least b d (fun r1 => (wX4_least e f (fun r2 => (wX4_least r1 r2 (fun r3 => (wX4_down r3 (fun r4 => (wX4_greatest b d (fun r5 => (wX4_greatest e f (fun r6 => (wX4_greatest r5 r6 (fun r7 => (wX4_up r7 (fun r8 => (wX4_put c a r4 r8 (fun  X9 => kr X9))))))))))))))))))
set_option maxRecDepth 20000 in
theorem mbX4_putFour_0 {c : MS} {a : Int32} {b : UInt64} {d : UInt64} {e : UInt64} {f : UInt64} {kr kq : MS → Prop}  (hr : ∀ X, kr X → kq X)  (h : bX4_putFour_0 c a b d e f kr ) : bX4_putFour_0 c a b d e f kq  := by
  unfold bX4_putFour_0 at h ⊢
  refine mnX4_least ?_ h
  intro r1 h
  refine mnX4_least ?_ h
  intro r2 h
  refine mnX4_least ?_ h
  intro r3 h
  refine mnX4_down ?_ h
  intro r4 h
  refine mnX4_greatest ?_ h
  intro r5 h
  refine mnX4_greatest ?_ h
  intro r6 h
  refine mnX4_greatest ?_ h
  intro r7 h
  refine mnX4_up ?_ h
  intro r8 h
  refine mnX4_put ?_ h
  intro  X9 h
  exact hr _ h
def wX4_putFour (c : MS) (a : Int32) (b : UInt64) (d : UInt64) (e : UInt64) (f : UInt64) (kr : MS → Prop) : Prop := bX4_putFour_0 c a b d e f kr 
theorem mnX4_putFour {c : MS} {a : Int32} {b : UInt64} {d : UInt64} {e : UInt64} {f : UInt64} {kr kq : MS → Prop} (hr : ∀ X, kr X → kq X) (h : wX4_putFour c a b d e f kr) : wX4_putFour c a b d e f kq := mbX4_putFour_0 hr  h
def tX4_putFour : Tr := fun as σ k => match as with
  | [.ref 20, .int a, .double b, .double d, .double e, .double f] => ∃ (c : MS) (u : Nat → aE) (M : aS), σ = pre20 u ++ (wM c ++ M) ∧ wX4_putFour c a b d e f (fun X => k none (pre20 u ++ (wM X ++ M)))
  | _ => False
def ceX4_putFour : List (Nat × Nat × Tr) := (2 * 153, 2, tX4_least) :: (2 * 179, 1, tX4_down) :: (2 * 156, 2, tX4_greatest) :: (2 * 84, 1, tX4_up) :: (2 * 175 + 1, 3 + 1, tX4_put) :: []
theorem coX4_putFour (l : Launch) : CEok l yX4_putFour.cls 5 ceX4_putFour := ce_S (okX4_least l) (mw 766 (by decide +kernel) rfl) (mw 767 (by decide +kernel) rfl) (mw 4 (by decide +kernel) rfl) (mw 768 (by decide +kernel) rfl) (by decide) ⟨by decide, by decide⟩ (ce_S (okX4_down l) (mw 827 (by decide +kernel) rfl) (mw 828 (by decide +kernel) rfl) (mw 4 (by decide +kernel) rfl) (mw 829 (by decide +kernel) rfl) (by decide) ⟨by decide, by decide⟩ (ce_S (okX4_greatest l) (mw 785 (by decide +kernel) rfl) (mw 786 (by decide +kernel) rfl) (mw 4 (by decide +kernel) rfl) (mw 787 (by decide +kernel) rfl) (by decide) ⟨by decide, by decide⟩ (ce_S (okX4_up l) (mw 830 (by decide +kernel) rfl) (mw 831 (by decide +kernel) rfl) (mw 4 (by decide +kernel) rfl) (mw 832 (by decide +kernel) rfl) (by decide) ⟨by decide, by decide⟩ (ce_V (ci := 3) (n := 3) rfl (okX4_put l) rcX4_put (mw 823 (by decide +kernel) rfl) (mw 825 (by decide +kernel) rfl) (ms 23 (by decide +kernel) rfl) (mw 4 (by decide +kernel) rfl) (mw 826 (by decide +kernel) rfl) rfl (by decide) ⟨by decide, by decide⟩ (ce_0)))))
abbrev cutX4_putFour : List (Nat × List Nat) := []
set_option maxRecDepth 20000 in
set_option maxHeartbeats 4000000 in
theorem lbX4_putFour_0 {G : Nat → LV → List Value → aS → Prop} {post : Option Value → aS → Prop} (hG : ∀ n b pc lv st σ, seg (0, fun _ => 0) pgX4_putFour ceX4_putFour cutX4_putFour G (fun v σ => rFit none v ∧ post v σ) n b pc lv st σ → G pc lv st σ) (c : MS) (u : Nat → aE) (M : aS) (a : Int32) (b : UInt64) (d : UInt64) (e : UInt64) (f : UInt64) (hb : bX4_putFour_0 c a b d e f (fun X => rFit none none ∧ post none (pre20 u ++ (wM X ++ M))) ) : G 0 [(0, .ref 20), (1, .int a), (2, .double b), (4, .double d), (6, .double e), (8, .double f)] [] (pre20 u ++ (wM c ++ M)) := by
  unfold bX4_putFour_0 at hb
  refine hG 400 false 0 _ _ _ ?_
  refine And.intro trivial (mnX4_least ?_ hb)
  intro r1 hb
  refine And.intro trivial (mnX4_least ?_ hb)
  intro r2 hb
  refine And.intro trivial (mnX4_least ?_ hb)
  intro r3 hb
  refine And.intro trivial (mnX4_down ?_ hb)
  intro r4 hb
  refine And.intro trivial (mnX4_greatest ?_ hb)
  intro r5 hb
  refine And.intro trivial (mnX4_greatest ?_ hb)
  intro r6 hb
  refine And.intro trivial (mnX4_greatest ?_ hb)
  intro r7 hb
  refine And.intro trivial (mnX4_up ?_ hb)
  intro r8 hb
  refine Exists.intro c (Exists.intro u (Exists.intro M ((And.intro rfl (mnX4_put ?_ hb)))))
  intro  X9 hb
  exact hb
theorem rcX4_putFour : ∀ as σ kk, tX4_putFour as σ kk → ∃ a r fs, as = .ref a :: r ∧ σ[a]? = some (.inr (3, fs)) := by
  intro as σ kk h
  unfold tX4_putFour at h; split at h
  · obtain ⟨c, u, M, rfl, -⟩ := h
    exact ⟨_, _, _, rfl, rfl⟩
  · exact h.elim
set_option maxRecDepth 20000 in
theorem okX4_putFour (l : Launch) : OK l yX4_putFour cX4_putFour 10 none 5 tX4_putFour := by
  intro D τ ρ A as σ post h
  unfold tX4_putFour at h; split at h
  · rename_i a b d e f; obtain ⟨c, u, M, rfl, hw⟩ := h
    refine met_of (P := pgX4_putFour) (CE := ceX4_putFour) (cut := cutX4_putFour) (by decide) kkX4_putFour (coX4_putFour l) (Nat.le_of_ble_eq_true rfl) ?_
    intro G hG
    unfold wX4_putFour at hw
    refine lbX4_putFour_0 hG c u M a b d e f (mbX4_putFour_0 ?_  hw)
    · exact fun _ h => ⟨trivial, h⟩
  · exact h.elim
