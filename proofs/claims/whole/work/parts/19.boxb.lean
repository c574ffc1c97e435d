def bX3_run_0 (c : CS) (a : Int32) (kr : Int32 → CS → Prop) (kc51 : Int32 → Int32 → Int32 → CS → Prop) : Prop :=
  (if a < 0 then
    kr (-2 : Int32) c
  else
    (if a ≤ (99 : Int32) then
      (if (c.1 3) = 0 then
        kr (-3 : Int32) c
      else
        (if (c.1 3) < (100 : Int32) then
          kc51 a (c.1 3) (0 : Int32) c
        else
          kr (-4 : Int32) c))
    else
      kr (-2 : Int32) c))
def bX3_run_51 (c : CS) (a : Int32) (l2 : Int32) (l3 : Int32) (kr : Int32 → CS → Prop) (kc51 : Int32 → Int32 → Int32 → CS → Prop) : Prop :=
  (if a ≤ l3 then
    kr ((c.1 3) - l2) c
  else
    (if (100 : Int32) ≤ (c.1 3) then
      kr ((c.1 3) - l2) c
    else
      (wX2_heaviest c  (fun r1 X1 => (if r1 = (-5 : Int32) then
        kr ((X1.1 3) - l2) X1
      else
        (wX2_split X1 r1 (fun r2 X2 => (wX3_settle X2 r1 (fun  X3 => (wX3_settle X3 r2 (fun  X4 => kc51 a l2 (l3 + (1 : Int32)) X4)))))))))))
set_option maxRecDepth 20000 in
theorem mbX3_run_0 {c : CS} {a : Int32} {kr kq : Int32 → CS → Prop} {kc51 kd51 : Int32 → Int32 → Int32 → CS → Prop} (hr : ∀ x X, kr x X → kq x X) (hc51 : ∀ z1 z2 z3 X, kc51 z1 z2 z3 X → kd51 z1 z2 z3 X) (h : bX3_run_0 c a kr kc51) : bX3_run_0 c a kq kd51 := by
  unfold bX3_run_0 at h ⊢
  by_cases hc : a < 0
  · rw [if_pos hc] at h ⊢
    exact hr _ _ h
  · rw [if_neg hc] at h ⊢
    by_cases hc : a ≤ (99 : Int32)
    · rw [if_pos hc] at h ⊢
      by_cases hc : (c.1 3) = 0
      · rw [if_pos hc] at h ⊢
        exact hr _ _ h
      · rw [if_neg hc] at h ⊢
        by_cases hc : (c.1 3) < (100 : Int32)
        · rw [if_pos hc] at h ⊢
          exact hc51 _ _ _ _ h
        · rw [if_neg hc] at h ⊢
          exact hr _ _ h
    · rw [if_neg hc] at h ⊢
      exact hr _ _ h
set_option maxRecDepth 20000 in
theorem mbX3_run_51 {c : CS} {a : Int32} {l2 : Int32} {l3 : Int32} {kr kq : Int32 → CS → Prop} {kc51 kd51 : Int32 → Int32 → Int32 → CS → Prop} (hr : ∀ x X, kr x X → kq x X) (hc51 : ∀ z1 z2 z3 X, kc51 z1 z2 z3 X → kd51 z1 z2 z3 X) (h : bX3_run_51 c a l2 l3 kr kc51) : bX3_run_51 c a l2 l3 kq kd51 := by
  unfold bX3_run_51 at h ⊢
  by_cases hc : a ≤ l3
  · rw [if_pos hc] at h ⊢
    exact hr _ _ h
  · rw [if_neg hc] at h ⊢
    by_cases hc : (100 : Int32) ≤ (c.1 3)
    · rw [if_pos hc] at h ⊢
      exact hr _ _ h
    · rw [if_neg hc] at h ⊢
      refine mnX2_heaviest ?_ h
      intro r1 X1 h
      by_cases hc : r1 = (-5 : Int32)
      · rw [if_pos hc] at h ⊢
        exact hr _ _ h
      · rw [if_neg hc] at h ⊢
        refine mnX2_split ?_ h
        intro r2 X2 h
        refine mnX3_settle ?_ h
        intro  X3 h
        refine mnX3_settle ?_ h
        intro  X4 h
        exact hc51 _ _ _ _ h
def itX3_run_51 (kr : Int32 → CS → Prop) : Nat → Int32 → Int32 → Int32 → CS → Prop
  | 0, _, _, _, _ => False
  | n + 1, a, l2, l3, c => bX3_run_51 c a l2 l3 kr (fun z1 z2 z3 X => itX3_run_51 kr n z1 z2 z3 X)
theorem miX3_run_51 {kr kq : Int32 → CS → Prop} (hr : ∀ x X, kr x X → kq x X) : ∀ (n : Nat) (z1 : Int32) (z2 : Int32) (z3 : Int32) (X : CS), itX3_run_51 kr n z1 z2 z3 X → itX3_run_51 kq n z1 z2 z3 X
  | 0, _, _, _, _, h => h
  | n + 1, _, _, _, _, h => mbX3_run_51 hr (fun _ _ _ _ h => miX3_run_51 hr n _ _ _ _ h) h
def wX3_run (c : CS) (a : Int32) (kr : Int32 → CS → Prop) : Prop := bX3_run_0 c a kr (fun z1 z2 z3 X => ∃ N, itX3_run_51 kr N z1 z2 z3 X)
theorem mnX3_run {c : CS} {a : Int32} {kr kq : Int32 → CS → Prop} (hr : ∀ x X, kr x X → kq x X) (h : wX3_run c a kr) : wX3_run c a kq := mbX3_run_0 hr (fun _ _ _ _ h => h.elim fun N h => ⟨N, miX3_run_51 hr N _ _ _ _ h⟩) h
def tX3_run : Tr := fun as σ k => match as with
  | [.ref 0, .int a] => ∃ (c : CS) (M : aS), σ = wC c ++ M ∧ wX3_run c a (fun x X => k (some (.int x)) (wC X ++ M))
  | _ => False
def ceX3_run : List (Nat × Nat × Tr) := (2 * 85 + 1, 0 + 1, tX2_heaviest) :: (2 * 89 + 1, 1 + 1, tX2_split) :: (2 * 80 + 1, 1 + 1, tX3_settle) :: []
theorem coX3_run (l : Launch) : CEok l yX3_run.cls 8 ceX3_run := ce_V (ci := 1) (n := 0) rfl (okX2_heaviest l) rcX2_heaviest (mw 393 (by decide +kernel) rfl) (mw 394 (by decide +kernel) rfl) (mw 395 (by decide +kernel) rfl) (mw 3 (by decide +kernel) rfl) (mw 396 (by decide +kernel) rfl) rfl (by decide) ⟨by decide, by decide⟩ (ce_V (ci := 1) (n := 1) rfl (okX2_split l) rcX2_split (mw 397 (by decide +kernel) rfl) (mw 398 (by decide +kernel) rfl) (mw 399 (by decide +kernel) rfl) (mw 3 (by decide +kernel) rfl) (mw 400 (by decide +kernel) rfl) rfl (by decide) ⟨by decide, by decide⟩ (ce_V (ci := 2) (n := 1) rfl (okX3_settle l) rcX3_settle (mw 197 (by decide +kernel) rfl) (mw 199 (by decide +kernel) rfl) (ms 1 (by decide +kernel) rfl) (mw 1 (by decide +kernel) rfl) (mw 200 (by decide +kernel) rfl) rfl (by decide) ⟨by decide, by decide⟩ (ce_0)))
abbrev cutX3_run : List (Nat × List Nat) := [(51, [0, 1, 2, 3])]
set_option maxRecDepth 20000 in
set_option maxHeartbeats 4000000 in
theorem lbX3_run_0 {G : Nat → LV → List Value → aS → Prop} {post : Option Value → aS → Prop} (hG : ∀ n b pc lv st σ, seg (0, fun _ => 0) pgX3_run ceX3_run cutX3_run G (fun v σ => rFit (some .int) v ∧ post v σ) n b pc lv st σ → G pc lv st σ) (c : CS) (M : aS) (a : Int32) (hb : bX3_run_0 c a (fun x X => rFit (some .int) (some (.int x)) ∧ post (some (.int x)) (wC X ++ M)) (fun z1 z2 z3 X => G 51 [(0, .ref 0), (1, .int z1), (2, .int z2), (3, .int z3)] [] (wC X ++ M))) : G 0 [(0, .ref 0), (1, .int a)] [] (wC c ++ M) := by
  unfold bX3_run_0 at hb
  refine hG 400 false 0 _ _ _ ?_
  refine And.intro (fun (h : a < 0) => ?_) (fun (h : ¬ a < 0) => ?_)
  · rw [if_pos h] at hb
    exact hb
  · rw [if_neg h] at hb
    refine And.intro (fun (h : a ≤ (99 : Int32)) => ?_) (fun (h : ¬ a ≤ (99 : Int32)) => ?_)
    · rw [if_pos h] at hb
      refine And.intro (fun (h : ¬ (c.1 3) = 0) => ?_) (fun hq => have h : (c.1 3) = 0 := Classical.not_not.mp hq; ?_)
      · rw [if_neg h] at hb
        refine And.intro (fun (h : (c.1 3) < (100 : Int32)) => ?_) (fun (h : ¬ (c.1 3) < (100 : Int32)) => ?_)
        · rw [if_pos h] at hb
          exact hb
        · rw [if_neg h] at hb
          exact hb
      · rw [if_pos h] at hb
        exact hb
    · rw [if_neg h] at hb
      exact hb
set_option maxRecDepth 20000 in
set_option maxHeartbeats 4000000 in
theorem lbX3_run_51 {G : Nat → LV → List Value → aS → Prop} {post : Option Value → aS → Prop} (hG : ∀ n b pc lv st σ, seg (0, fun _ => 0) pgX3_run ceX3_run cutX3_run G (fun v σ => rFit (some .int) v ∧ post v σ) n b pc lv st σ → G pc lv st σ) (c : CS) (M : aS) (a : Int32) (l2 : Int32) (l3 : Int32) (hb : bX3_run_51 c a l2 l3 (fun x X => rFit (some .int) (some (.int x)) ∧ post (some (.int x)) (wC X ++ M)) (fun z1 z2 z3 X => G 51 [(0, .ref 0), (1, .int z1), (2, .int z2), (3, .int z3)] [] (wC X ++ M))) : G 51 [(0, .ref 0), (1, .int a), (2, .int l2), (3, .int l3)] [] (wC c ++ M) := by
  unfold bX3_run_51 at hb
  refine hG 400 false 51 _ _ _ ?_
  refine And.intro (fun (h : a ≤ l3) => ?_) (fun (h : ¬ a ≤ l3) => ?_)
  · rw [if_pos h] at hb
    exact hb
  · rw [if_neg h] at hb
    refine And.intro (fun (h : (100 : Int32) ≤ (c.1 3)) => ?_) (fun (h : ¬ (100 : Int32) ≤ (c.1 3)) => ?_)
    · rw [if_pos h] at hb
      exact hb
    · rw [if_neg h] at hb
      refine Exists.intro c (Exists.intro M ((And.intro rfl (mnX2_heaviest ?_ hb))))
      intro r1 X1 hb
      refine And.intro (fun (h : ¬ r1 = (-5 : Int32)) => ?_) (fun hq => have h : r1 = (-5 : Int32) := Classical.not_not.mp hq; ?_)
      · rw [if_neg h] at hb
        refine Exists.intro X1 (Exists.intro M ((And.intro rfl (mnX2_split ?_ hb))))
        intro r2 X2 hb
        refine Exists.intro X2 (Exists.intro M ((And.intro rfl (mnX3_settle ?_ hb))))
        intro  X3 hb
        refine Exists.intro X3 (Exists.intro M ((And.intro rfl (mnX3_settle ?_ hb))))
        intro  X4 hb
        exact hb
      · rw [if_pos h] at hb
        exact hb
theorem giX3_run_51 {G : Nat → LV → List Value → aS → Prop} {post : Option Value → aS → Prop} (hG : ∀ n b pc lv st σ, seg (0, fun _ => 0) pgX3_run ceX3_run cutX3_run G (fun v σ => rFit (some .int) v ∧ post v σ) n b pc lv st σ → G pc lv st σ) (M : aS) : ∀ (n : Nat) (z1 : Int32) (z2 : Int32) (z3 : Int32) (X : CS), itX3_run_51 (fun x X => rFit (some .int) (some (.int x)) ∧ post (some (.int x)) (wC X ++ M)) n z1 z2 z3 X → G 51 [(0, .ref 0), (1, .int z1), (2, .int z2), (3, .int z3)] [] (wC X ++ M)
  | 0, _, _, _, _, h => h.elim
  | n + 1, _, _, _, _, h => lbX3_run_51 hG _ M _ _ _ (mbX3_run_51 (fun _ _ h => h) (fun _ _ _ _ h => giX3_run_51 hG M n _ _ _ _ h) h)
theorem rcX3_run : ∀ as σ kk, tX3_run as σ kk → ∃ a r fs, as = .ref a :: r ∧ σ[a]? = some (.inr (2, fs)) := by
  intro as σ kk h
  unfold tX3_run at h; split at h
  · obtain ⟨c, M, rfl, -⟩ := h
    exact ⟨_, _, _, rfl, rfl⟩
  · exact h.elim
set_option maxRecDepth 20000 in
theorem okX3_run (l : Launch) : OK l yX3_run cX3_run 6 (some .int) 8 tX3_run := by
  intro D τ ρ A as σ post h
  unfold tX3_run at h; split at h
  · rename_i a; obtain ⟨c, M, rfl, hw⟩ := h
    refine met_of (P := pgX3_run) (CE := ceX3_run) (cut := cutX3_run) (by decide) kkX3_run (coX3_run l) (Nat.le_of_ble_eq_true rfl) ?_
    intro G hG
    unfold wX3_run at hw
    refine lbX3_run_0 hG c M a (mbX3_run_0 ?_ ?_ hw)
    · exact fun _ _ h => ⟨trivial, h⟩
    · intro _ _ _ _ ⟨N, h⟩; exact giX3_run_51 hG M N _ _ _ _ (miX3_run_51 (fun _ _ h => ⟨trivial, h⟩) N _ _ _ _ h)
  · exact h.elim
def bX3_boxes_0 (c : CS)  (kr : Int32 → CS → Prop)  : Prop :=
  kr (c.1 3) c
set_option maxRecDepth 20000 in
theorem mbX3_boxes_0 {c : CS}  {kr kq : Int32 → CS → Prop}  (hr : ∀ x X, kr x X → kq x X)  (h : bX3_boxes_0 c  kr ) : bX3_boxes_0 c  kq  := by
  unfold bX3_boxes_0 at h ⊢
  exact hr _ _ h
def wX3_boxes (c : CS)  (kr : Int32 → CS → Prop) : Prop := bX3_boxes_0 c  kr 
theorem mnX3_boxes {c : CS}  {kr kq : Int32 → CS → Prop} (hr : ∀ x X, kr x X → kq x X) (h : wX3_boxes c  kr) : wX3_boxes c  kq := mbX3_boxes_0 hr  h
def tX3_boxes : Tr := fun as σ k => match as with
  | [.ref 0] => ∃ (c : CS) (M : aS), σ = wC c ++ M ∧ wX3_boxes c  (fun x X => k (some (.int x)) (wC X ++ M))
  | _ => False
def ceX3_boxes : List (Nat × Nat × Tr) := []
theorem coX3_boxes (l : Launch) : CEok l yX3_boxes.cls 0 ceX3_boxes := ce_0
abbrev cutX3_boxes : List (Nat × List Nat) := []
set_option maxRecDepth 20000 in
set_option maxHeartbeats 4000000 in
theorem lbX3_boxes_0 {G : Nat → LV → List Value → aS → Prop} {post : Option Value → aS → Prop} (hG : ∀ n b pc lv st σ, seg (0, fun _ => 0) pgX3_boxes ceX3_boxes cutX3_boxes G (fun v σ => rFit (some .int) v ∧ post v σ) n b pc lv st σ → G pc lv st σ) (c : CS) (M : aS)  (hb : bX3_boxes_0 c  (fun x X => rFit (some .int) (some (.int x)) ∧ post (some (.int x)) (wC X ++ M)) ) : G 0 [(0, .ref 0)] [] (wC c ++ M) := by
  unfold bX3_boxes_0 at hb
  refine hG 400 false 0 _ _ _ ?_
  exact hb
theorem rcX3_boxes : ∀ as σ kk, tX3_boxes as σ kk → ∃ a r fs, as = .ref a :: r ∧ σ[a]? = some (.inr (2, fs)) := by
  intro as σ kk h
  unfold tX3_boxes at h; split at h
  · obtain ⟨c, M, rfl, -⟩ := h
    exact ⟨_, _, _, rfl, rfl⟩
  · exact h.elim
set_option maxRecDepth 20000 in
theorem okX3_boxes (l : Launch) : OK l yX3_boxes cX3_boxes 1 (some .int) 0 tX3_boxes := by
  intro D τ ρ A as σ post h
  unfold tX3_boxes at h; split at h
  · obtain ⟨c, M, rfl, hw⟩ := h
    refine met_of (P := pgX3_boxes) (CE := ceX3_boxes) (cut := cutX3_boxes) (by decide) kkX3_boxes (coX3_boxes l) (Nat.le_of_ble_eq_true rfl) ?_
    intro G hG
    unfold wX3_boxes at hw
    refine lbX3_boxes_0 hG c M  (mbX3_boxes_0 ?_  hw)
    · exact fun _ _ h => ⟨trivial, h⟩
  · exact h.elim
def bX3_kind_0 (c : CS) (a : Int32) (kr : Int32 → CS → Prop)  : Prop :=
  (if (vX2_has c a) = 0 then
    kr (-1 : Int32) c
  else
    (vp_in a 100 ∧ kr (c.2.1 15 a.toNatClampNeg) c))
set_option maxRecDepth 20000 in
theorem mbX3_kind_0 {c : CS} {a : Int32} {kr kq : Int32 → CS → Prop}  (hr : ∀ x X, kr x X → kq x X)  (h : bX3_kind_0 c a kr ) : bX3_kind_0 c a kq  := by
  unfold bX3_kind_0 at h ⊢
  by_cases hc : (vX2_has c a) = 0
  · rw [if_pos hc] at h ⊢
    exact hr _ _ h
  · rw [if_neg hc] at h ⊢
    obtain ⟨hi, h⟩ := h
    refine And.intro hi ?_
    exact hr _ _ h
def wX3_kind (c : CS) (a : Int32) (kr : Int32 → CS → Prop) : Prop := bX3_kind_0 c a kr 
theorem mnX3_kind {c : CS} {a : Int32} {kr kq : Int32 → CS → Prop} (hr : ∀ x X, kr x X → kq x X) (h : wX3_kind c a kr) : wX3_kind c a kq := mbX3_kind_0 hr  h
def tX3_kind : Tr := fun as σ k => match as with
  | [.ref 0, .int a] => ∃ (c : CS) (M : aS), σ = wC c ++ M ∧ wX3_kind c a (fun x X => k (some (.int x)) (wC X ++ M))
  | _ => False
def ceX3_kind : List (Nat × Nat × Tr) := (2 * 92 + 1, 1 + 1, tX2_has) :: []
theorem coX3_kind (l : Launch) : CEok l yX3_kind.cls 1 ceX3_kind := ce_V (ci := 1) (n := 1) rfl (okX2_has l) rcX2_has (mw 409 (by decide +kernel) rfl) (mw 410 (by decide +kernel) rfl) (mw 411 (by decide +kernel) rfl) (mw 3 (by decide +kernel) rfl) (mw 412 (by decide +kernel) rfl) rfl (by decide) ⟨by decide, by decide⟩ (ce_0)
abbrev cutX3_kind : List (Nat × List Nat) := []
set_option maxRecDepth 20000 in
set_option maxHeartbeats 4000000 in
theorem lbX3_kind_0 {G : Nat → LV → List Value → aS → Prop} {post : Option Value → aS → Prop} (hG : ∀ n b pc lv st σ, seg (0, fun _ => 0) pgX3_kind ceX3_kind cutX3_kind G (fun v σ => rFit (some .int) v ∧ post v σ) n b pc lv st σ → G pc lv st σ) (c : CS) (M : aS) (a : Int32) (hb : bX3_kind_0 c a (fun x X => rFit (some .int) (some (.int x)) ∧ post (some (.int x)) (wC X ++ M)) ) : G 0 [(0, .ref 0), (1, .int a)] [] (wC c ++ M) := by
  unfold bX3_kind_0 at hb
  refine hG 400 false 0 _ _ _ ?_
  refine Exists.intro c (Exists.intro M ((And.intro rfl (?_))))
  refine And.intro (fun (h : (vX2_has c a) = 0) => ?_) (fun (h : ¬ (vX2_has c a) = 0) => ?_)
  · rw [if_pos h] at hb
    exact hb
  · rw [if_neg h] at hb
    obtain ⟨hi, hb⟩ := hb
    refine And.intro hi ?_
    exact hb
theorem rcX3_kind : ∀ as σ kk, tX3_kind as σ kk → ∃ a r fs, as = .ref a :: r ∧ σ[a]? = some (.inr (2, fs)) := by
  intro as σ kk h
  unfold tX3_kind at h; split at h
  · obtain ⟨c, M, rfl, -⟩ := h
    exact ⟨_, _, _, rfl, rfl⟩
  · exact h.elim
set_option maxRecDepth 20000 in
theorem okX3_kind (l : Launch) : OK l yX3_kind cX3_kind 2 (some .int) 1 tX3_kind := by
  intro D τ ρ A as σ post h
  unfold tX3_kind at h; split at h
  · rename_i a; obtain ⟨c, M, rfl, hw⟩ := h
    refine met_of (P := pgX3_kind) (CE := ceX3_kind) (cut := cutX3_kind) (by decide) kkX3_kind (coX3_kind l) (Nat.le_of_ble_eq_true rfl) ?_
    intro G hG
    unfold wX3_kind at hw
    refine lbX3_kind_0 hG c M a (mbX3_kind_0 ?_  hw)
    · exact fun _ _ h => ⟨trivial, h⟩
  · exact h.elim
def bX3_weight_0 (c : CS) (a : Int32) (b : Int32) (kr : Int64 → CS → Prop)  : Prop :=
  (if (vX2_has c a) = 0 then
    kr (0 : Int64) c
  else
    (if (fX3_isEnd b) = 0 then
      kr (0 : Int64) c
    else
      (if b = 0 then
        (vp_in a 100 ∧ kr (c.2.2 13 a.toNatClampNeg) c)
      else
        (vp_in a 100 ∧ kr (c.2.2 14 a.toNatClampNeg) c))))
set_option maxRecDepth 20000 in
theorem mbX3_weight_0 {c : CS} {a : Int32} {b : Int32} {kr kq : Int64 → CS → Prop}  (hr : ∀ x X, kr x X → kq x X)  (h : bX3_weight_0 c a b kr ) : bX3_weight_0 c a b kq  := by
  unfold bX3_weight_0 at h ⊢
  by_cases hc : (vX2_has c a) = 0
  · rw [if_pos hc] at h ⊢
    exact hr _ _ h
  · rw [if_neg hc] at h ⊢
    by_cases hc : (fX3_isEnd b) = 0
    · rw [if_pos hc] at h ⊢
      exact hr _ _ h
    · rw [if_neg hc] at h ⊢
      by_cases hc : b = 0
      · rw [if_pos hc] at h ⊢
        obtain ⟨hi, h⟩ := h
        refine And.intro hi ?_
        exact hr _ _ h
      · rw [if_neg hc] at h ⊢
        obtain ⟨hi, h⟩ := h
        refine And.intro hi ?_
        exact hr _ _ h
def wX3_weight (c : CS) (a : Int32) (b : Int32) (kr : Int64 → CS → Prop) : Prop := bX3_weight_0 c a b kr 
theorem mnX3_weight {c : CS} {a : Int32} {b : Int32} {kr kq : Int64 → CS → Prop} (hr : ∀ x X, kr x X → kq x X) (h : wX3_weight c a b kr) : wX3_weight c a b kq := mbX3_weight_0 hr  h
def tX3_weight : Tr := fun as σ k => match as with
  | [.ref 0, .int a, .int b] => ∃ (c : CS) (M : aS), σ = wC c ++ M ∧ wX3_weight c a b (fun x X => k (some (.long x)) (wC X ++ M))
  | _ => False
def ceX3_weight : List (Nat × Nat × Tr) := (2 * 92 + 1, 1 + 1, tX2_has) :: (2 * 96, 1, tX3_isEnd) :: []
theorem coX3_weight (l : Launch) : CEok l yX3_weight.cls 1 ceX3_weight := ce_V (ci := 1) (n := 1) rfl (okX2_has l) rcX2_has (mw 409 (by decide +kernel) rfl) (mw 410 (by decide +kernel) rfl) (mw 411 (by decide +kernel) rfl) (mw 3 (by decide +kernel) rfl) (mw 412 (by decide +kernel) rfl) rfl (by decide) ⟨by decide, by decide⟩ (ce_S (okX3_isEnd l) (mw 417 (by decide +kernel) rfl) (mw 418 (by decide +kernel) rfl) (mw 1 (by decide +kernel) rfl) (mw 419 (by decide +kernel) rfl) (by decide) ⟨by decide, by decide⟩ (ce_0))
abbrev cutX3_weight : List (Nat × List Nat) := []
set_option maxRecDepth 20000 in
set_option maxHeartbeats 4000000 in
theorem lbX3_weight_0 {G : Nat → LV → List Value → aS → Prop} {post : Option Value → aS → Prop} (hG : ∀ n b pc lv st σ, seg (0, fun _ => 0) pgX3_weight ceX3_weight cutX3_weight G (fun v σ => rFit (some .long) v ∧ post v σ) n b pc lv st σ → G pc lv st σ) (c : CS) (M : aS) (a : Int32) (b : Int32) (hb : bX3_weight_0 c a b (fun x X => rFit (some .long) (some (.long x)) ∧ post (some (.long x)) (wC X ++ M)) ) : G 0 [(0, .ref 0), (1, .int a), (2, .int b)] [] (wC c ++ M) := by
  unfold bX3_weight_0 at hb
  refine hG 400 false 0 _ _ _ ?_
  refine Exists.intro c (Exists.intro M ((And.intro rfl (?_))))
  refine And.intro (fun (h : (vX2_has c a) = 0) => ?_) (fun (h : ¬ (vX2_has c a) = 0) => ?_)
  · rw [if_pos h] at hb
    exact hb
  · rw [if_neg h] at hb
    refine And.intro (fun (h : ¬ (fX3_isEnd b) = 0) => ?_) (fun hq => have h : (fX3_isEnd b) = 0 := Classical.not_not.mp hq; ?_)
    · rw [if_neg h] at hb
      refine And.intro (fun (h : ¬ b = 0) => ?_) (fun hq => have h : b = 0 := Classical.not_not.mp hq; ?_)
      · rw [if_neg h] at hb
        obtain ⟨hi, hb⟩ := hb
        refine And.intro hi ?_
        exact hb
      · rw [if_pos h] at hb
        obtain ⟨hi, hb⟩ := hb
        refine And.intro hi ?_
        exact hb
    · rw [if_pos h] at hb
      exact hb
theorem rcX3_weight : ∀ as σ kk, tX3_weight as σ kk → ∃ a r fs, as = .ref a :: r ∧ σ[a]? = some (.inr (2, fs)) := by
  intro as σ kk h
  unfold tX3_weight at h; split at h
  · obtain ⟨c, M, rfl, -⟩ := h
    exact ⟨_, _, _, rfl, rfl⟩
  · exact h.elim
set_option maxRecDepth 20000 in
theorem okX3_weight (l : Launch) : OK l yX3_weight cX3_weight 3 (some .long) 1 tX3_weight := by
  intro D τ ρ A as σ post h
  unfold tX3_weight at h; split at h
  · rename_i a b; obtain ⟨c, M, rfl, hw⟩ := h
    refine met_of (P := pgX3_weight) (CE := ceX3_weight) (cut := cutX3_weight) (by decide) kkX3_weight (coX3_weight l) (Nat.le_of_ble_eq_true rfl) ?_
    intro G hG
    unfold wX3_weight at hw
    refine lbX3_weight_0 hG c M a b (mbX3_weight_0 ?_  hw)
    · exact fun _ _ h => ⟨trivial, h⟩
  · exact h.elim
def bX3_enclosed_0 (c : CS) (a : Int32) (b : Int32) (d : Int32) (kr : Int64 → CS → Prop)  : Prop :=
  (if (vX2_has c a) = 0 then
    kr (0 : Int64) c
  else
    (if (vX0_has c b) = 0 then
      kr (0 : Int64) c
    else
      (if (fX3_isEnd d) = 0 then
        kr (0 : Int64) c
      else
        (wX0_withParts c ((1 : Int32) <<< (b &&& 31)) (fun r1 X1 => (wX0_enclose X1 r1 (fX2_place a (0 : Int32)) (fun  X2 => (if d = 0 then
          (vp_in b 32 ∧ kr (X2.2.2 4 b.toNatClampNeg) X2)
        else
          (vp_in b 32 ∧ kr (X2.2.2 5 b.toNatClampNeg) X2)))))))))
set_option maxRecDepth 20000 in
theorem mbX3_enclosed_0 {c : CS} {a : Int32} {b : Int32} {d : Int32} {kr kq : Int64 → CS → Prop}  (hr : ∀ x X, kr x X → kq x X)  (h : bX3_enclosed_0 c a b d kr ) : bX3_enclosed_0 c a b d kq  := by
  unfold bX3_enclosed_0 at h ⊢
  by_cases hc : (vX2_has c a) = 0
  · rw [if_pos hc] at h ⊢
    exact hr _ _ h
  · rw [if_neg hc] at h ⊢
    by_cases hc : (vX0_has c b) = 0
    · rw [if_pos hc] at h ⊢
      exact hr _ _ h
    · rw [if_neg hc] at h ⊢
      by_cases hc : (fX3_isEnd d) = 0
      · rw [if_pos hc] at h ⊢
        exact hr _ _ h
      · rw [if_neg hc] at h ⊢
        refine mnX0_withParts ?_ h
        intro r1 X1 h
        refine mnX0_enclose ?_ h
        intro  X2 h
        by_cases hc : d = 0
        · rw [if_pos hc] at h ⊢
          obtain ⟨hi, h⟩ := h
          refine And.intro hi ?_
          exact hr _ _ h
        · rw [if_neg hc] at h ⊢
          obtain ⟨hi, h⟩ := h
          refine And.intro hi ?_
          exact hr _ _ h
def wX3_enclosed (c : CS) (a : Int32) (b : Int32) (d : Int32) (kr : Int64 → CS → Prop) : Prop := bX3_enclosed_0 c a b d kr 
theorem mnX3_enclosed {c : CS} {a : Int32} {b : Int32} {d : Int32} {kr kq : Int64 → CS → Prop} (hr : ∀ x X, kr x X → kq x X) (h : wX3_enclosed c a b d kr) : wX3_enclosed c a b d kq := mbX3_enclosed_0 hr  h
def tX3_enclosed : Tr := fun as σ k => match as with
  | [.ref 0, .int a, .int b, .int d] => ∃ (c : CS) (M : aS), σ = wC c ++ M ∧ wX3_enclosed c a b d (fun x X => k (some (.long x)) (wC X ++ M))
  | _ => False
def ceX3_enclosed : List (Nat × Nat × Tr) := (2 * 92 + 1, 1 + 1, tX2_has) :: (2 * 69 + 1, 1 + 1, tX0_has) :: (2 * 96, 1, tX3_isEnd) :: (2 * 72 + 1, 1 + 1, tX0_withParts) :: (2 * 105, 2, tX2_place) :: (2 * 115 + 1, 3 + 1, tX0_enclose) :: []
theorem coX3_enclosed (l : Launch) : CEok l yX3_enclosed.cls 7 ceX3_enclosed := ce_V (ci := 1) (n := 1) rfl (okX2_has l) rcX2_has (mw 409 (by decide +kernel) rfl) (mw 410 (by decide +kernel) rfl) (mw 411 (by decide +kernel) rfl) (mw 3 (by decide +kernel) rfl) (mw 412 (by decide +kernel) rfl) rfl (by decide) ⟨by decide, by decide⟩ (ce_V (ci := 0) (n := 1) rfl (okX0_has l) rcX0_has (mw 184 (by decide +kernel) rfl) (mw 166 (by decide +kernel) rfl) (mw 167 (by decide +kernel) rfl) (mw 2 (by decide +kernel) rfl) (mw 168 (by decide +kernel) rfl) rfl (by decide) ⟨by decide, by decide⟩ (ce_S (okX3_isEnd l) (mw 417 (by decide +kernel) rfl) (mw 418 (by decide +kernel) rfl) (mw 1 (by decide +kernel) rfl) (mw 419 (by decide +kernel) rfl) (by decide) ⟨by decide, by decide⟩ (ce_V (ci := 0) (n := 1) rfl (okX0_withParts l) rcX0_withParts (mw 189 (by decide +kernel) rfl) (mw 190 (by decide +kernel) rfl) (mw 191 (by decide +kernel) rfl) (mw 2 (by decide +kernel) rfl) (mw 192 (by decide +kernel) rfl) rfl (by decide) ⟨by decide, by decide⟩ (ce_S (okX2_place l) (mw 201 (by decide +kernel) rfl) (mw 202 (by decide +kernel) rfl) (mw 3 (by decide +kernel) rfl) (mw 203 (by decide +kernel) rfl) (by decide) ⟨by decide, by decide⟩ (ce_V (ci := 0) (n := 3) rfl (okX0_enclose l) rcX0_enclose (mw 204 (by decide +kernel) rfl) (mw 205 (by decide +kernel) rfl) (mw 206 (by decide +kernel) rfl) (mw 2 (by decide +kernel) rfl) (mw 207 (by decide +kernel) rfl) rfl (by decide) ⟨by decide, by decide⟩ (ce_0))))))
abbrev cutX3_enclosed : List (Nat × List Nat) := []
set_option maxRecDepth 20000 in
set_option maxHeartbeats 4000000 in
theorem lbX3_enclosed_0 {G : Nat → LV → List Value → aS → Prop} {post : Option Value → aS → Prop} (hG : ∀ n b pc lv st σ, seg (0, fun _ => 0) pgX3_enclosed ceX3_enclosed cutX3_enclosed G (fun v σ => rFit (some .long) v ∧ post v σ) n b pc lv st σ → G pc lv st σ) (c : CS) (M : aS) (a : Int32) (b : Int32) (d : Int32) (hb : bX3_enclosed_0 c a b d (fun x X => rFit (some .long) (some (.long x)) ∧ post (some (.long x)) (wC X ++ M)) ) : G 0 [(0, .ref 0), (1, .int a), (2, .int b), (3, .int d)] [] (wC c ++ M) := by
  unfold bX3_enclosed_0 at hb
  refine hG 400 false 0 _ _ _ ?_
  refine Exists.intro c (Exists.intro M ((And.intro rfl (?_))))
  refine And.intro (fun (h : (vX2_has c a) = 0) => ?_) (fun (h : ¬ (vX2_has c a) = 0) => ?_)
  · rw [if_pos h] at hb
    exact hb
  · rw [if_neg h] at hb
    refine Exists.intro c (Exists.intro M ((And.intro rfl (?_))))
    refine And.intro (fun (h : (vX0_has c b) = 0) => ?_) (fun (h : ¬ (vX0_has c b) = 0) => ?_)
    · rw [if_pos h] at hb
      exact hb
    · rw [if_neg h] at hb
      refine And.intro (fun (h : ¬ (fX3_isEnd d) = 0) => ?_) (fun hq => have h : (fX3_isEnd d) = 0 := Classical.not_not.mp hq; ?_)
      · rw [if_neg h] at hb
        refine Exists.intro c (Exists.intro M ((And.intro rfl (mnX0_withParts ?_ hb))))
        intro r1 X1 hb
        refine Exists.intro X1 (Exists.intro M ((And.intro rfl (mnX0_enclose ?_ hb))))
        intro  X2 hb
        refine And.intro (fun (h : ¬ d = 0) => ?_) (fun hq => have h : d = 0 := Classical.not_not.mp hq; ?_)
        · rw [if_neg h] at hb
          obtain ⟨hi, hb⟩ := hb
          refine And.intro hi ?_
          exact hb
        · rw [if_pos h] at hb
          obtain ⟨hi, hb⟩ := hb
          refine And.intro hi ?_
          exact hb
      · rw [if_pos h] at hb
        exact hb
theorem rcX3_enclosed : ∀ as σ kk, tX3_enclosed as σ kk → ∃ a r fs, as = .ref a :: r ∧ σ[a]? = some (.inr (2, fs)) := by
  intro as σ kk h
  unfold tX3_enclosed at h; split at h
  · obtain ⟨c, M, rfl, -⟩ := h
    exact ⟨_, _, _, rfl, rfl⟩
  · exact h.elim
set_option maxRecDepth 20000 in
theorem okX3_enclosed (l : Launch) : OK l yX3_enclosed cX3_enclosed 4 (some .long) 7 tX3_enclosed := by
  intro D τ ρ A as σ post h
  unfold tX3_enclosed at h; split at h
  · rename_i a b d; obtain ⟨c, M, rfl, hw⟩ := h
    refine met_of (P := pgX3_enclosed) (CE := ceX3_enclosed) (cut := cutX3_enclosed) (by decide) kkX3_enclosed (coX3_enclosed l) (Nat.le_of_ble_eq_true rfl) ?_
    intro G hG
    unfold wX3_enclosed at hw
    refine lbX3_enclosed_0 hG c M a b d (mbX3_enclosed_0 ?_  hw)
    · exact fun _ _ h => ⟨trivial, h⟩
  · exact h.elim
def bX3_value_0 (c : CS) (a : Int32) (b : Int64) (d : Int64) (e : Int64) (kr : Int64 → CS → Prop)  : Prop :=
  (if (vX0_has c a) = 0 then
    kr (0 : Int64) c
  else
    (wX0_valueAt c a b d e (fun r1 X1 => kr r1 X1)))
set_option maxRecDepth 20000 in
theorem mbX3_value_0 {c : CS} {a : Int32} {b : Int64} {d : Int64} {e : Int64} {kr kq : Int64 → CS → Prop}  (hr : ∀ x X, kr x X → kq x X)  (h : bX3_value_0 c a b d e kr ) : bX3_value_0 c a b d e kq  := by
  unfold bX3_value_0 at h ⊢
  by_cases hc : (vX0_has c a) = 0
  · rw [if_pos hc] at h ⊢
    exact hr _ _ h
  · rw [if_neg hc] at h ⊢
    refine mnX0_valueAt ?_ h
    intro r1 X1 h
    exact hr _ _ h
def wX3_value (c : CS) (a : Int32) (b : Int64) (d : Int64) (e : Int64) (kr : Int64 → CS → Prop) : Prop := bX3_value_0 c a b d e kr 
theorem mnX3_value {c : CS} {a : Int32} {b : Int64} {d : Int64} {e : Int64} {kr kq : Int64 → CS → Prop} (hr : ∀ x X, kr x X → kq x X) (h : wX3_value c a b d e kr) : wX3_value c a b d e kq := mbX3_value_0 hr  h
def tX3_value : Tr := fun as σ k => match as with
  | [.ref 0, .int a, .long b, .long d, .long e] => ∃ (c : CS) (M : aS), σ = wC c ++ M ∧ wX3_value c a b d e (fun x X => k (some (.long x)) (wC X ++ M))
  | _ => False
def ceX3_value : List (Nat × Nat × Tr) := (2 * 69 + 1, 1 + 1, tX0_has) :: (2 * 121 + 1, 4 + 1, tX0_valueAt) :: []
theorem coX3_value (l : Launch) : CEok l yX3_value.cls 6 ceX3_value := ce_V (ci := 0) (n := 1) rfl (okX0_has l) rcX0_has (mw 184 (by decide +kernel) rfl) (mw 166 (by decide +kernel) rfl) (mw 167 (by decide +kernel) rfl) (mw 2 (by decide +kernel) rfl) (mw 168 (by decide +kernel) rfl) rfl (by decide) ⟨by decide, by decide⟩ (ce_V (ci := 0) (n := 4) rfl (okX0_valueAt l) rcX0_valueAt (mw 428 (by decide +kernel) rfl) (mw 429 (by decide +kernel) rfl) (mw 430 (by decide +kernel) rfl) (mw 2 (by decide +kernel) rfl) (mw 431 (by decide +kernel) rfl) rfl (by decide) ⟨by decide, by decide⟩ (ce_0))
abbrev cutX3_value : List (Nat × List Nat) := []
set_option maxRecDepth 20000 in
set_option maxHeartbeats 4000000 in
theorem lbX3_value_0 {G : Nat → LV → List Value → aS → Prop} {post : Option Value → aS → Prop} (hG : ∀ n b pc lv st σ, seg (0, fun _ => 0) pgX3_value ceX3_value cutX3_value G (fun v σ => rFit (some .long) v ∧ post v σ) n b pc lv st σ → G pc lv st σ) (c : CS) (M : aS) (a : Int32) (b : Int64) (d : Int64) (e : Int64) (hb : bX3_value_0 c a b d e (fun x X => rFit (some .long) (some (.long x)) ∧ post (some (.long x)) (wC X ++ M)) ) : G 0 [(0, .ref 0), (1, .int a), (2, .long b), (4, .long d), (6, .long e)] [] (wC c ++ M) := by
  unfold bX3_value_0 at hb
  refine hG 400 false 0 _ _ _ ?_
  refine Exists.intro c (Exists.intro M ((And.intro rfl (?_))))
  refine And.intro (fun (h : (vX0_has c a) = 0) => ?_) (fun (h : ¬ (vX0_has c a) = 0) => ?_)
  · rw [if_pos h] at hb
    exact hb
  · rw [if_neg h] at hb
    refine Exists.intro c (Exists.intro M ((And.intro rfl (mnX0_valueAt ?_ hb))))
    intro r1 X1 hb
    exact hb
theorem rcX3_value : ∀ as σ kk, tX3_value as σ kk → ∃ a r fs, as = .ref a :: r ∧ σ[a]? = some (.inr (2, fs)) := by
  intro as σ kk h
  unfold tX3_value at h; split at h
  · obtain ⟨c, M, rfl, -⟩ := h
    exact ⟨_, _, _, rfl, rfl⟩
  · exact h.elim
set_option maxRecDepth 20000 in
theorem okX3_value (l : Launch) : OK l yX3_value cX3_value 8 (some .long) 6 tX3_value := by
  intro D τ ρ A as σ post h
  unfold tX3_value at h; split at h
  · rename_i a b d e; obtain ⟨c, M, rfl, hw⟩ := h
    refine met_of (P := pgX3_value) (CE := ceX3_value) (cut := cutX3_value) (by decide) kkX3_value (coX3_value l) (Nat.le_of_ble_eq_true rfl) ?_
    intro G hG
    unfold wX3_value at hw
    refine lbX3_value_0 hG c M a b d e (mbX3_value_0 ?_  hw)
    · exact fun _ _ h => ⟨trivial, h⟩
  · exact h.elim
def bX3_within_0 (c : CS) (a : Int32) (b : Int32) (d : Int64) (e : Int64) (f : Int64) (kr : Int32 → CS → Prop)  : Prop :=
  (if (vX2_has c a) = 0 then
    kr (-1 : Int32) c
  else
    (if (vX0_has c b) = 0 then
      kr (-1 : Int32) c
    else
      (wX2_holds c a d e f (fun r1 X1 => (if r1 = 0 then
        kr (0 : Int32) X1
      else
        (wX0_valueAt X1 b d e f (fun r2 X2 => (if (fX1_isNone r2) = 0 then
          (wX0_withParts X2 ((1 : Int32) <<< (b &&& 31)) (fun r3 X3 => (wX0_enclose X3 r3 (fX2_place a (0 : Int32)) (fun  X4 => (vp_in b 32 ∧ (vp_in b 32 ∧ (if (fX1_isFromTo r2 (X4.2.2 4 b.toNatClampNeg) (X4.2.2 5 b.toNatClampNeg)) = 0 then
            kr (1 : Int32) X4
          else
            kr (2 : Int32) X4)))))))
        else
          kr (2 : Int32) X2))))))))
set_option maxRecDepth 20000 in
theorem mbX3_within_0 {c : CS} {a : Int32} {b : Int32} {d : Int64} {e : Int64} {f : Int64} {kr kq : Int32 → CS → Prop}  (hr : ∀ x X, kr x X → kq x X)  (h : bX3_within_0 c a b d e f kr ) : bX3_within_0 c a b d e f kq  := by
  unfold bX3_within_0 at h ⊢
  by_cases hc : (vX2_has c a) = 0
  · rw [if_pos hc] at h ⊢
    exact hr _ _ h
  · rw [if_neg hc] at h ⊢
    by_cases hc : (vX0_has c b) = 0
    · rw [if_pos hc] at h ⊢
      exact hr _ _ h
    · rw [if_neg hc] at h ⊢
      refine mnX2_holds ?_ h
      intro r1 X1 _ h
      by_cases hc : r1 = 0
      · rw [if_pos hc] at h ⊢
        exact hr _ _ h
      · rw [if_neg hc] at h ⊢
        refine mnX0_valueAt ?_ h
        intro r2 X2 h
        by_cases hc : (fX1_isNone r2) = 0
        · rw [if_pos hc] at h ⊢
          refine mnX0_withParts ?_ h
          intro r3 X3 h
          refine mnX0_enclose ?_ h
          intro  X4 h
          obtain ⟨hi, h⟩ := h
          refine And.intro hi ?_
          obtain ⟨hi, h⟩ := h
          refine And.intro hi ?_
          by_cases hc : (fX1_isFromTo r2 (X4.2.2 4 b.toNatClampNeg) (X4.2.2 5 b.toNatClampNeg)) = 0
          · rw [if_pos hc] at h ⊢
            exact hr _ _ h
          · rw [if_neg hc] at h ⊢
            exact hr _ _ h
        · rw [if_neg hc] at h ⊢
          exact hr _ _ h
def wX3_within (c : CS) (a : Int32) (b : Int32) (d : Int64) (e : Int64) (f : Int64) (kr : Int32 → CS → Prop) : Prop := bX3_within_0 c a b d e f kr 
theorem mnX3_within {c : CS} {a : Int32} {b : Int32} {d : Int64} {e : Int64} {f : Int64} {kr kq : Int32 → CS → Prop} (hr : ∀ x X, kr x X → kq x X) (h : wX3_within c a b d e f kr) : wX3_within c a b d e f kq := mbX3_within_0 hr  h
def tX3_within : Tr := fun as σ k => match as with
  | [.ref 0, .int a, .int b, .long d, .long e, .long f] => ∃ (c : CS) (M : aS), σ = wC c ++ M ∧ wX3_within c a b d e f (fun x X => k (some (.int x)) (wC X ++ M))
  | _ => False
def ceX3_within : List (Nat × Nat × Tr) := (2 * 92 + 1, 1 + 1, tX2_has) :: (2 * 69 + 1, 1 + 1, tX0_has) :: (2 * 125 + 1, 4 + 1, tX2_holds) :: (2 * 121 + 1, 4 + 1, tX0_valueAt) :: (2 * 129, 1, tX1_isNone) :: (2 * 72 + 1, 1 + 1, tX0_withParts) :: (2 * 105, 2, tX2_place) :: (2 * 115 + 1, 3 + 1, tX0_enclose) :: (2 * 132, 3, tX1_isFromTo) :: []
theorem coX3_within (l : Launch) : CEok l yX3_within.cls 7 ceX3_within := ce_V (ci := 1) (n := 1) rfl (okX2_has l) rcX2_has (mw 409 (by decide +kernel) rfl) (mw 410 (by decide +kernel) rfl) (mw 411 (by decide +kernel) rfl) (mw 3 (by decide +kernel) rfl) (mw 412 (by decide +kernel) rfl) rfl (by decide) ⟨by decide, by decide⟩ (ce_V (ci := 0) (n := 1) rfl (okX0_has l) rcX0_has (mw 184 (by decide +kernel) rfl) (mw 166 (by decide +kernel) rfl) (mw 167 (by decide +kernel) rfl) (mw 2 (by decide +kernel) rfl) (mw 168 (by decide +kernel) rfl) rfl (by decide) ⟨by decide, by decide⟩ (ce_V (ci := 1) (n := 4) rfl (okX2_holds l) rcX2_holds (mw 440 (by decide +kernel) rfl) (mw 441 (by decide +kernel) rfl) (mw 442 (by decide +kernel) rfl) (mw 3 (by decide +kernel) rfl) (mw 443 (by decide +kernel) rfl) rfl (by decide) ⟨by decide, by decide⟩ (ce_V (ci := 0) (n := 4) rfl (okX0_valueAt l) rcX0_valueAt (mw 428 (by decide +kernel) rfl) (mw 429 (by decide +kernel) rfl) (mw 430 (by decide +kernel) rfl) (mw 2 (by decide +kernel) rfl) (mw 431 (by decide +kernel) rfl) rfl (by decide) ⟨by decide, by decide⟩ (ce_S (okX1_isNone l) (mw 448 (by decide +kernel) rfl) (mw 137 (by decide +kernel) rfl) (mw 5 (by decide +kernel) rfl) (mw 138 (by decide +kernel) rfl) (by decide) ⟨by decide, by decide⟩ (ce_V (ci := 0) (n := 1) rfl (okX0_withParts l) rcX0_withParts (mw 189 (by decide +kernel) rfl) (mw 190 (by decide +kernel) rfl) (mw 191 (by decide +kernel) rfl) (mw 2 (by decide +kernel) rfl) (mw 192 (by decide +kernel) rfl) rfl (by decide) ⟨by decide, by decide⟩ (ce_S (okX2_place l) (mw 201 (by decide +kernel) rfl) (mw 202 (by decide +kernel) rfl) (mw 3 (by decide +kernel) rfl) (mw 203 (by decide +kernel) rfl) (by decide) ⟨by decide, by decide⟩ (ce_V (ci := 0) (n := 3) rfl (okX0_enclose l) rcX0_enclose (mw 204 (by decide +kernel) rfl) (mw 205 (by decide +kernel) rfl) (mw 206 (by decide +kernel) rfl) (mw 2 (by decide +kernel) rfl) (mw 207 (by decide +kernel) rfl) rfl (by decide) ⟨by decide, by decide⟩ (ce_S (okX1_isFromTo l) (mw 449 (by decide +kernel) rfl) (mw 446 (by decide +kernel) rfl) (mw 5 (by decide +kernel) rfl) (mw 447 (by decide +kernel) rfl) (by decide) ⟨by decide, by decide⟩ (ce_0)))))))))
abbrev cutX3_within : List (Nat × List Nat) := []
set_option maxRecDepth 20000 in
set_option maxHeartbeats 4000000 in
theorem lbX3_within_0 {G : Nat → LV → List Value → aS → Prop} {post : Option Value → aS → Prop} (hG : ∀ n b pc lv st σ, seg (0, fun _ => 0) pgX3_within ceX3_within cutX3_within G (fun v σ => rFit (some .int) v ∧ post v σ) n b pc lv st σ → G pc lv st σ) (c : CS) (M : aS) (a : Int32) (b : Int32) (d : Int64) (e : Int64) (f : Int64) (hb : bX3_within_0 c a b d e f (fun x X => rFit (some .int) (some (.int x)) ∧ post (some (.int x)) (wC X ++ M)) ) : G 0 [(0, .ref 0), (1, .int a), (2, .int b), (3, .long d), (5, .long e), (7, .long f)] [] (wC c ++ M) := by
  unfold bX3_within_0 at hb
  refine hG 400 false 0 _ _ _ ?_
  refine Exists.intro c (Exists.intro M ((And.intro rfl (?_))))
  refine And.intro (fun (h : (vX2_has c a) = 0) => ?_) (fun (h : ¬ (vX2_has c a) = 0) => ?_)
  · rw [if_pos h] at hb
    exact hb
  · rw [if_neg h] at hb
    refine Exists.intro c (Exists.intro M ((And.intro rfl (?_))))
    refine And.intro (fun (h : ¬ (vX0_has c b) = 0) => ?_) (fun hq => have h : (vX0_has c b) = 0 := Classical.not_not.mp hq; ?_)
    · rw [if_neg h] at hb
      refine Exists.intro c (Exists.intro M ((And.intro rfl (mnX2_holds ?_ hb))))
      intro r1 X1 _ hb
      refine And.intro (fun (h : ¬ r1 = 0) => ?_) (fun hq => have h : r1 = 0 := Classical.not_not.mp hq; ?_)
      · rw [if_neg h] at hb
        refine Exists.intro X1 (Exists.intro M ((And.intro rfl (mnX0_valueAt ?_ hb))))
        intro r2 X2 hb
        refine And.intro (fun (h : (fX1_isNone r2) = 0) => ?_) (fun (h : ¬ (fX1_isNone r2) = 0) => ?_)
        · rw [if_pos h] at hb
          refine Exists.intro X2 (Exists.intro M ((And.intro rfl (mnX0_withParts ?_ hb))))
          intro r3 X3 hb
          refine Exists.intro X3 (Exists.intro M ((And.intro rfl (mnX0_enclose ?_ hb))))
          intro  X4 hb
          obtain ⟨hi, hb⟩ := hb
          refine And.intro hi ?_
          obtain ⟨hi, hb⟩ := hb
          refine And.intro hi ?_
          refine And.intro (fun (h : (fX1_isFromTo r2 (X4.2.2 4 b.toNatClampNeg) (X4.2.2 5 b.toNatClampNeg)) = 0) => ?_) (fun (h : ¬ (fX1_isFromTo r2 (X4.2.2 4 b.toNatClampNeg) (X4.2.2 5 b.toNatClampNeg)) = 0) => ?_)
          · rw [if_pos h] at hb
            exact hb
          · rw [if_neg h] at hb
            exact hb
        · rw [if_neg h] at hb
          exact hb
      · rw [if_pos h] at hb
        exact hb
    · rw [if_pos h] at hb
      exact hb
theorem rcX3_within : ∀ as σ kk, tX3_within as σ kk → ∃ a r fs, as = .ref a :: r ∧ σ[a]? = some (.inr (2, fs)) := by
  intro as σ kk h
  unfold tX3_within at h; split at h
  · obtain ⟨c, M, rfl, -⟩ := h
    exact ⟨_, _, _, rfl, rfl⟩
  · exact h.elim
set_option maxRecDepth 20000 in
theorem okX3_within (l : Launch) : OK l yX3_within cX3_within 11 (some .int) 7 tX3_within := by
  intro D τ ρ A as σ post h
  unfold tX3_within at h; split at h
  · rename_i a b d e f; obtain ⟨c, M, rfl, hw⟩ := h
    refine met_of (P := pgX3_within) (CE := ceX3_within) (cut := cutX3_within) (by decide) kkX3_within (coX3_within l) (Nat.le_of_ble_eq_true rfl) ?_
    intro G hG
    unfold wX3_within at hw
    refine lbX3_within_0 hG c M a b d e f (mbX3_within_0 ?_  hw)
    · exact fun _ _ h => ⟨trivial, h⟩
  · exact h.elim
def bX3_where_0 (c : CS) (a : Int64) (b : Int64) (d : Int64) (kr : Int32 → CS → Prop) (kc3 : Int64 → Int64 → Int64 → Int32 → CS → Prop) : Prop :=
  kc3 a b d (0 : Int32) c
def bX3_where_3 (c : CS) (a : Int64) (b : Int64) (d : Int64) (l7 : Int32) (kr : Int32 → CS → Prop) (kc3 : Int64 → Int64 → Int64 → Int32 → CS → Prop) : Prop :=
  (if (c.1 3) ≤ l7 then
    kr (-5 : Int32) c
  else
    (wX2_holds c l7 a b d (fun r1 X1 => (if r1 = 0 then
      kc3 a b d (l7 + (1 : Int32)) X1
    else
      kr l7 X1))))
set_option maxRecDepth 20000 in
theorem mbX3_where_0 {c : CS} {a : Int64} {b : Int64} {d : Int64} {kr kq : Int32 → CS → Prop} {kc3 kd3 : Int64 → Int64 → Int64 → Int32 → CS → Prop} (hr : ∀ x X, kr x X → kq x X) (hc3 : ∀ z1 z3 z5 z7 X, kc3 z1 z3 z5 z7 X → kd3 z1 z3 z5 z7 X) (h : bX3_where_0 c a b d kr kc3) : bX3_where_0 c a b d kq kd3 := by
  unfold bX3_where_0 at h ⊢
  exact hc3 _ _ _ _ _ h
set_option maxRecDepth 20000 in
theorem mbX3_where_3 {c : CS} {a : Int64} {b : Int64} {d : Int64} {l7 : Int32} {kr kq : Int32 → CS → Prop} {kc3 kd3 : Int64 → Int64 → Int64 → Int32 → CS → Prop} (hr : ∀ x X, kr x X → kq x X) (hc3 : ∀ z1 z3 z5 z7 X, kc3 z1 z3 z5 z7 X → kd3 z1 z3 z5 z7 X) (h : bX3_where_3 c a b d l7 kr kc3) : bX3_where_3 c a b d l7 kq kd3 := by
  unfold bX3_where_3 at h ⊢
  by_cases hc : (c.1 3) ≤ l7
  · rw [if_pos hc] at h ⊢
    exact hr _ _ h
  · rw [if_neg hc] at h ⊢
    refine mnX2_holds ?_ h
    intro r1 X1 _ h
    by_cases hc : r1 = 0
    · rw [if_pos hc] at h ⊢
      exact hc3 _ _ _ _ _ h
    · rw [if_neg hc] at h ⊢
      exact hr _ _ h
def itX3_where_3 (kr : Int32 → CS → Prop) : Nat → Int64 → Int64 → Int64 → Int32 → CS → Prop
  | 0, _, _, _, _, _ => False
  | n + 1, a, b, d, l7, c => bX3_where_3 c a b d l7 kr (fun z1 z3 z5 z7 X => itX3_where_3 kr n z1 z3 z5 z7 X)
theorem miX3_where_3 {kr kq : Int32 → CS → Prop} (hr : ∀ x X, kr x X → kq x X) : ∀ (n : Nat) (z1 : Int64) (z3 : Int64) (z5 : Int64) (z7 : Int32) (X : CS), itX3_where_3 kr n z1 z3 z5 z7 X → itX3_where_3 kq n z1 z3 z5 z7 X
  | 0, _, _, _, _, _, h => h
  | n + 1, _, _, _, _, _, h => mbX3_where_3 hr (fun _ _ _ _ _ h => miX3_where_3 hr n _ _ _ _ _ h) h
def wX3_where (c : CS) (a : Int64) (b : Int64) (d : Int64) (kr : Int32 → CS → Prop) : Prop := bX3_where_0 c a b d kr (fun z1 z3 z5 z7 X => ∃ N, itX3_where_3 kr N z1 z3 z5 z7 X)
theorem mnX3_where {c : CS} {a : Int64} {b : Int64} {d : Int64} {kr kq : Int32 → CS → Prop} (hr : ∀ x X, kr x X → kq x X) (h : wX3_where c a b d kr) : wX3_where c a b d kq := mbX3_where_0 hr (fun _ _ _ _ _ h => h.elim fun N h => ⟨N, miX3_where_3 hr N _ _ _ _ _ h⟩) h
def tX3_where : Tr := fun as σ k => match as with
  | [.ref 0, .long a, .long b, .long d] => ∃ (c : CS) (M : aS), σ = wC c ++ M ∧ wX3_where c a b d (fun x X => k (some (.int x)) (wC X ++ M))
  | _ => False
def ceX3_where : List (Nat × Nat × Tr) := (2 * 125 + 1, 4 + 1, tX2_holds) :: []
theorem coX3_where (l : Launch) : CEok l yX3_where.cls 3 ceX3_where := ce_V (ci := 1) (n := 4) rfl (okX2_holds l) rcX2_holds (mw 440 (by decide +kernel) rfl) (mw 441 (by decide +kernel) rfl) (mw 442 (by decide +kernel) rfl) (mw 3 (by decide +kernel) rfl) (mw 443 (by decide +kernel) rfl) rfl (by decide) ⟨by decide, by decide⟩ (ce_0)
abbrev cutX3_where : List (Nat × List Nat) := [(3, [0, 1, 3, 5, 7])]
set_option maxRecDepth 20000 in
set_option maxHeartbeats 4000000 in
theorem lbX3_where_0 {G : Nat → LV → List Value → aS → Prop} {post : Option Value → aS → Prop} (hG : ∀ n b pc lv st σ, seg (0, fun _ => 0) pgX3_where ceX3_where cutX3_where G (fun v σ => rFit (some .int) v ∧ post v σ) n b pc lv st σ → G pc lv st σ) (c : CS) (M : aS) (a : Int64) (b : Int64) (d : Int64) (hb : bX3_where_0 c a b d (fun x X => rFit (some .int) (some (.int x)) ∧ post (some (.int x)) (wC X ++ M)) (fun z1 z3 z5 z7 X => G 3 [(0, .ref 0), (1, .long z1), (3, .long z3), (5, .long z5), (7, .int z7)] [] (wC X ++ M))) : G 0 [(0, .ref 0), (1, .long a), (3, .long b), (5, .long d)] [] (wC c ++ M) := by
  unfold bX3_where_0 at hb
  refine hG 400 false 0 _ _ _ ?_
  exact hb
set_option maxRecDepth 20000 in
set_option maxHeartbeats 4000000 in
theorem lbX3_where_3 {G : Nat → LV → List Value → aS → Prop} {post : Option Value → aS → Prop} (hG : ∀ n b pc lv st σ, seg (0, fun _ => 0) pgX3_where ceX3_where cutX3_where G (fun v σ => rFit (some .int) v ∧ post v σ) n b pc lv st σ → G pc lv st σ) (c : CS) (M : aS) (a : Int64) (b : Int64) (d : Int64) (l7 : Int32) (hb : bX3_where_3 c a b d l7 (fun x X => rFit (some .int) (some (.int x)) ∧ post (some (.int x)) (wC X ++ M)) (fun z1 z3 z5 z7 X => G 3 [(0, .ref 0), (1, .long z1), (3, .long z3), (5, .long z5), (7, .int z7)] [] (wC X ++ M))) : G 3 [(0, .ref 0), (1, .long a), (3, .long b), (5, .long d), (7, .int l7)] [] (wC c ++ M) := by
  unfold bX3_where_3 at hb
  refine hG 400 false 3 _ _ _ ?_
  refine And.intro (fun (h : (c.1 3) ≤ l7) => ?_) (fun (h : ¬ (c.1 3) ≤ l7) => ?_)
  · rw [if_pos h] at hb
    exact hb
  · rw [if_neg h] at hb
    refine Exists.intro c (Exists.intro M ((And.intro rfl (mnX2_holds ?_ hb))))
    intro r1 X1 _ hb
    refine And.intro (fun (h : r1 = 0) => ?_) (fun (h : ¬ r1 = 0) => ?_)
    · rw [if_pos h] at hb
      exact hb
    · rw [if_neg h] at hb
      exact hb
theorem giX3_where_3 {G : Nat → LV → List Value → aS → Prop} {post : Option Value → aS → Prop} (hG : ∀ n b pc lv st σ, seg (0, fun _ => 0) pgX3_where ceX3_where cutX3_where G (fun v σ => rFit (some .int) v ∧ post v σ) n b pc lv st σ → G pc lv st σ) (M : aS) : ∀ (n : Nat) (z1 : Int64) (z3 : Int64) (z5 : Int64) (z7 : Int32) (X : CS), itX3_where_3 (fun x X => rFit (some .int) (some (.int x)) ∧ post (some (.int x)) (wC X ++ M)) n z1 z3 z5 z7 X → G 3 [(0, .ref 0), (1, .long z1), (3, .long z3), (5, .long z5), (7, .int z7)] [] (wC X ++ M)
  | 0, _, _, _, _, _, h => h.elim
  | n + 1, _, _, _, _, _, h => lbX3_where_3 hG _ M _ _ _ _ (mbX3_where_3 (fun _ _ h => h) (fun _ _ _ _ _ h => giX3_where_3 hG M n _ _ _ _ _ h) h)
theorem rcX3_where : ∀ as σ kk, tX3_where as σ kk → ∃ a r fs, as = .ref a :: r ∧ σ[a]? = some (.inr (2, fs)) := by
  intro as σ kk h
  unfold tX3_where at h; split at h
  · obtain ⟨c, M, rfl, -⟩ := h
    exact ⟨_, _, _, rfl, rfl⟩
  · exact h.elim
set_option maxRecDepth 20000 in
theorem okX3_where (l : Launch) : OK l yX3_where cX3_where 8 (some .int) 3 tX3_where := by
  intro D τ ρ A as σ post h
  unfold tX3_where at h; split at h
  · rename_i a b d; obtain ⟨c, M, rfl, hw⟩ := h
    refine met_of (P := pgX3_where) (CE := ceX3_where) (cut := cutX3_where) (by decide) kkX3_where (coX3_where l) (Nat.le_of_ble_eq_true rfl) ?_
    intro G hG
    unfold wX3_where at hw
    refine lbX3_where_0 hG c M a b d (mbX3_where_0 ?_ ?_ hw)
    · exact fun _ _ h => ⟨trivial, h⟩
    · intro _ _ _ _ _ ⟨N, h⟩; exact giX3_where_3 hG M N _ _ _ _ _ (miX3_where_3 (fun _ _ h => ⟨trivial, h⟩) N _ _ _ _ _ h)
  · exact h.elim
def bX3_mass_0 (c : CS) (a : Int32) (b : Int32) (kr : Int64 → CS → Prop)  : Prop :=
  (if (fX3_isBoxKind a) = 0 then
    kr (0 : Int64) c
  else
    (if (fX3_isEnd b) = 0 then
      kr (0 : Int64) c
    else
      (if (c.1 3) = 0 then
        kr (0 : Int64) c
      else
        (if b = 0 then
          (wX2_lowMass c a (fun r2 X2 => kr r2 X2))
        else
          (wX2_highMass c a (fun r1 X1 => kr r1 X1))))))
set_option maxRecDepth 20000 in
theorem mbX3_mass_0 {c : CS} {a : Int32} {b : Int32} {kr kq : Int64 → CS → Prop}  (hr : ∀ x X, kr x X → kq x X)  (h : bX3_mass_0 c a b kr ) : bX3_mass_0 c a b kq  := by
  unfold bX3_mass_0 at h ⊢
  by_cases hc : (fX3_isBoxKind a) = 0
  · rw [if_pos hc] at h ⊢
    exact hr _ _ h
  · rw [if_neg hc] at h ⊢
    by_cases hc : (fX3_isEnd b) = 0
    · rw [if_pos hc] at h ⊢
      exact hr _ _ h
    · rw [if_neg hc] at h ⊢
      by_cases hc : (c.1 3) = 0
      · rw [if_pos hc] at h ⊢
        exact hr _ _ h
      · rw [if_neg hc] at h ⊢
        by_cases hc : b = 0
        · rw [if_pos hc] at h ⊢
          refine mnX2_lowMass ?_ h
          intro r2 X2 h
          exact hr _ _ h
        · rw [if_neg hc] at h ⊢
          refine mnX2_highMass ?_ h
          intro r1 X1 h
          exact hr _ _ h
def wX3_mass (c : CS) (a : Int32) (b : Int32) (kr : Int64 → CS → Prop) : Prop := bX3_mass_0 c a b kr 
theorem mnX3_mass {c : CS} {a : Int32} {b : Int32} {kr kq : Int64 → CS → Prop} (hr : ∀ x X, kr x X → kq x X) (h : wX3_mass c a b kr) : wX3_mass c a b kq := mbX3_mass_0 hr  h
def tX3_mass : Tr := fun as σ k => match as with
  | [.ref 0, .int a, .int b] => ∃ (c : CS) (M : aS), σ = wC c ++ M ∧ wX3_mass c a b (fun x X => k (some (.long x)) (wC X ++ M))
  | _ => False
def ceX3_mass : List (Nat × Nat × Tr) := (2 * 136, 1, tX3_isBoxKind) :: (2 * 96, 1, tX3_isEnd) :: (2 * 143 + 1, 1 + 1, tX2_highMass) :: (2 * 139 + 1, 1 + 1, tX2_lowMass) :: []
theorem coX3_mass (l : Launch) : CEok l yX3_mass.cls 5 ceX3_mass := ce_S (okX3_isBoxKind l) (mw 458 (by decide +kernel) rfl) (mw 459 (by decide +kernel) rfl) (mw 1 (by decide +kernel) rfl) (mw 460 (by decide +kernel) rfl) (by decide) ⟨by decide, by decide⟩ (ce_S (okX3_isEnd l) (mw 417 (by decide +kernel) rfl) (mw 418 (by decide +kernel) rfl) (mw 1 (by decide +kernel) rfl) (mw 419 (by decide +kernel) rfl) (by decide) ⟨by decide, by decide⟩ (ce_V (ci := 1) (n := 1) rfl (okX2_highMass l) rcX2_highMass (mw 467 (by decide +kernel) rfl) (mw 468 (by decide +kernel) rfl) (mw 469 (by decide +kernel) rfl) (mw 3 (by decide +kernel) rfl) (mw 470 (by decide +kernel) rfl) rfl (by decide) ⟨by decide, by decide⟩ (ce_V (ci := 1) (n := 1) rfl (okX2_lowMass l) rcX2_lowMass (mw 461 (by decide +kernel) rfl) (mw 462 (by decide +kernel) rfl) (mw 463 (by decide +kernel) rfl) (mw 3 (by decide +kernel) rfl) (mw 464 (by decide +kernel) rfl) rfl (by decide) ⟨by decide, by decide⟩ (ce_0))))
abbrev cutX3_mass : List (Nat × List Nat) := []
set_option maxRecDepth 20000 in
set_option maxHeartbeats 4000000 in
theorem lbX3_mass_0 {G : Nat → LV → List Value → aS → Prop} {post : Option Value → aS → Prop} (hG : ∀ n b pc lv st σ, seg (0, fun _ => 0) pgX3_mass ceX3_mass cutX3_mass G (fun v σ => rFit (some .long) v ∧ post v σ) n b pc lv st σ → G pc lv st σ) (c : CS) (M : aS) (a : Int32) (b : Int32) (hb : bX3_mass_0 c a b (fun x X => rFit (some .long) (some (.long x)) ∧ post (some (.long x)) (wC X ++ M)) ) : G 0 [(0, .ref 0), (1, .int a), (2, .int b)] [] (wC c ++ M) := by
  unfold bX3_mass_0 at hb
  refine hG 400 false 0 _ _ _ ?_
  refine And.intro (fun (h : (fX3_isBoxKind a) = 0) => ?_) (fun (h : ¬ (fX3_isBoxKind a) = 0) => ?_)
  · rw [if_pos h] at hb
    exact hb
  · rw [if_neg h] at hb
    refine And.intro (fun (h : (fX3_isEnd b) = 0) => ?_) (fun (h : ¬ (fX3_isEnd b) = 0) => ?_)
    · rw [if_pos h] at hb
      exact hb
    · rw [if_neg h] at hb
      refine And.intro (fun (h : ¬ (c.1 3) = 0) => ?_) (fun hq => have h : (c.1 3) = 0 := Classical.not_not.mp hq; ?_)
      · rw [if_neg h] at hb
        refine And.intro (fun (h : ¬ b = 0) => ?_) (fun hq => have h : b = 0 := Classical.not_not.mp hq; ?_)
        · rw [if_neg h] at hb
          refine Exists.intro c (Exists.intro M ((And.intro rfl (mnX2_highMass ?_ hb))))
          intro r1 X1 hb
          exact hb
        · rw [if_pos h] at hb
          refine Exists.intro c (Exists.intro M ((And.intro rfl (mnX2_lowMass ?_ hb))))
          intro r2 X2 hb
          exact hb
      · rw [if_pos h] at hb
        exact hb
theorem rcX3_mass : ∀ as σ kk, tX3_mass as σ kk → ∃ a r fs, as = .ref a :: r ∧ σ[a]? = some (.inr (2, fs)) := by
  intro as σ kk h
  unfold tX3_mass at h; split at h
  · obtain ⟨c, M, rfl, -⟩ := h
    exact ⟨_, _, _, rfl, rfl⟩
  · exact h.elim
set_option maxRecDepth 20000 in
theorem okX3_mass (l : Launch) : OK l yX3_mass cX3_mass 3 (some .long) 5 tX3_mass := by
  intro D τ ρ A as σ post h
  unfold tX3_mass at h; split at h
  · rename_i a b; obtain ⟨c, M, rfl, hw⟩ := h
    refine met_of (P := pgX3_mass) (CE := ceX3_mass) (cut := cutX3_mass) (by decide) kkX3_mass (coX3_mass l) (Nat.le_of_ble_eq_true rfl) ?_
    intro G hG
    unfold wX3_mass at hw
    refine lbX3_mass_0 hG c M a b (mbX3_mass_0 ?_  hw)
    · exact fun _ _ h => ⟨trivial, h⟩
  · exact h.elim
def bX3_odds_0 (c : CS) (a : Int32) (kr : Int64 → CS → Prop)  : Prop :=
  (if (fX3_isEnd a) = 0 then
    kr (0 : Int64) c
  else
    (if (c.1 3) = 0 then
      kr (0 : Int64) c
    else
      (if a = 0 then
        (wX3_lowOdds c  (fun r2 X2 => kr r2 X2))
      else
        (wX3_highOdds c  (fun r1 X1 => kr r1 X1)))))
set_option maxRecDepth 20000 in
theorem mbX3_odds_0 {c : CS} {a : Int32} {kr kq : Int64 → CS → Prop}  (hr : ∀ x X, kr x X → kq x X)  (h : bX3_odds_0 c a kr ) : bX3_odds_0 c a kq  := by
  unfold bX3_odds_0 at h ⊢
  by_cases hc : (fX3_isEnd a) = 0
  · rw [if_pos hc] at h ⊢
    exact hr _ _ h
  · rw [if_neg hc] at h ⊢
    by_cases hc : (c.1 3) = 0
    · rw [if_pos hc] at h ⊢
      exact hr _ _ h
    · rw [if_neg hc] at h ⊢
      by_cases hc : a = 0
      · rw [if_pos hc] at h ⊢
        refine mnX3_lowOdds ?_ h
        intro r2 X2 h
        exact hr _ _ h
      · rw [if_neg hc] at h ⊢
        refine mnX3_highOdds ?_ h
        intro r1 X1 h
        exact hr _ _ h
def wX3_odds (c : CS) (a : Int32) (kr : Int64 → CS → Prop) : Prop := bX3_odds_0 c a kr 
theorem mnX3_odds {c : CS} {a : Int32} {kr kq : Int64 → CS → Prop} (hr : ∀ x X, kr x X → kq x X) (h : wX3_odds c a kr) : wX3_odds c a kq := mbX3_odds_0 hr  h
def tX3_odds : Tr := fun as σ k => match as with
  | [.ref 0, .int a] => ∃ (c : CS) (M : aS), σ = wC c ++ M ∧ wX3_odds c a (fun x X => k (some (.long x)) (wC X ++ M))
  | _ => False
def ceX3_odds : List (Nat × Nat × Tr) := (2 * 96, 1, tX3_isEnd) :: (2 * 150 + 1, 0 + 1, tX3_highOdds) :: (2 * 146 + 1, 0 + 1, tX3_lowOdds) :: []
theorem coX3_odds (l : Launch) : CEok l yX3_odds.cls 6 ceX3_odds := ce_S (okX3_isEnd l) (mw 417 (by decide +kernel) rfl) (mw 418 (by decide +kernel) rfl) (mw 1 (by decide +kernel) rfl) (mw 419 (by decide +kernel) rfl) (by decide) ⟨by decide, by decide⟩ (ce_V (ci := 2) (n := 0) rfl (okX3_highOdds l) rcX3_highOdds (mw 483 (by decide +kernel) rfl) (mw 485 (by decide +kernel) rfl) (ms 14 (by decide +kernel) rfl) (mw 1 (by decide +kernel) rfl) (mw 486 (by decide +kernel) rfl) rfl (by decide) ⟨by decide, by decide⟩ (ce_V (ci := 2) (n := 0) rfl (okX3_lowOdds l) rcX3_lowOdds (mw 476 (by decide +kernel) rfl) (mw 478 (by decide +kernel) rfl) (ms 13 (by decide +kernel) rfl) (mw 1 (by decide +kernel) rfl) (mw 479 (by decide +kernel) rfl) rfl (by decide) ⟨by decide, by decide⟩ (ce_0)))
abbrev cutX3_odds : List (Nat × List Nat) := []
set_option maxRecDepth 20000 in
set_option maxHeartbeats 4000000 in
theorem lbX3_odds_0 {G : Nat → LV → List Value → aS → Prop} {post : Option Value → aS → Prop} (hG : ∀ n b pc lv st σ, seg (0, fun _ => 0) pgX3_odds ceX3_odds cutX3_odds G (fun v σ => rFit (some .long) v ∧ post v σ) n b pc lv st σ → G pc lv st σ) (c : CS) (M : aS) (a : Int32) (hb : bX3_odds_0 c a (fun x X => rFit (some .long) (some (.long x)) ∧ post (some (.long x)) (wC X ++ M)) ) : G 0 [(0, .ref 0), (1, .int a)] [] (wC c ++ M) := by
  unfold bX3_odds_0 at hb
  refine hG 400 false 0 _ _ _ ?_
  refine And.intro (fun (h : (fX3_isEnd a) = 0) => ?_) (fun (h : ¬ (fX3_isEnd a) = 0) => ?_)
  · rw [if_pos h] at hb
    exact hb
  · rw [if_neg h] at hb
    refine And.intro (fun (h : ¬ (c.1 3) = 0) => ?_) (fun hq => have h : (c.1 3) = 0 := Classical.not_not.mp hq; ?_)
    · rw [if_neg h] at hb
      refine And.intro (fun (h : ¬ a = 0) => ?_) (fun hq => have h : a = 0 := Classical.not_not.mp hq; ?_)
      · rw [if_neg h] at hb
        refine Exists.intro c (Exists.intro M ((And.intro rfl (mnX3_highOdds ?_ hb))))
        intro r1 X1 hb
        exact hb
      · rw [if_pos h] at hb
        refine Exists.intro c (Exists.intro M ((And.intro rfl (mnX3_lowOdds ?_ hb))))
        intro r2 X2 hb
        exact hb
    · rw [if_pos h] at hb
      exact hb
theorem rcX3_odds : ∀ as σ kk, tX3_odds as σ kk → ∃ a r fs, as = .ref a :: r ∧ σ[a]? = some (.inr (2, fs)) := by
  intro as σ kk h
  unfold tX3_odds at h; split at h
  · obtain ⟨c, M, rfl, -⟩ := h
    exact ⟨_, _, _, rfl, rfl⟩
  · exact h.elim
set_option maxRecDepth 20000 in
theorem okX3_odds (l : Launch) : OK l yX3_odds cX3_odds 2 (some .long) 6 tX3_odds := by
  intro D τ ρ A as σ post h
  unfold tX3_odds at h; split at h
  · rename_i a; obtain ⟨c, M, rfl, hw⟩ := h
    refine met_of (P := pgX3_odds) (CE := ceX3_odds) (cut := cutX3_odds) (by decide) kkX3_odds (coX3_odds l) (Nat.le_of_ble_eq_true rfl) ?_
    intro G hG
    unfold wX3_odds at hw
    refine lbX3_odds_0 hG c M a (mbX3_odds_0 ?_  hw)
    · exact fun _ _ h => ⟨trivial, h⟩
  · exact h.elim
def bX3_count_0 (c : CS) (a : Int32) (kr : Int32 → CS → Prop)  : Prop :=
  (if a.toInt < 0 ∨ 4 < a.toInt then
    kr (-2 : Int32) c
  else if a = (0 : Int32) then
    kr (c.1 0) c
  else if a = (1 : Int32) then
    kr (c.1 2) c
  else if a = (2 : Int32) then
    kr (c.1 3) c
  else if a = (3 : Int32) then
    (if (c.1 3) = 0 then
      kr (0 : Int32) c
    else
      kr ((c.1 3) - (1 : Int32)) c)
  else
    (wX2_howManyStuck c  (fun r1 X1 => kr r1 X1)))
set_option maxRecDepth 20000 in
theorem mbX3_count_0 {c : CS} {a : Int32} {kr kq : Int32 → CS → Prop}  (hr : ∀ x X, kr x X → kq x X)  (h : bX3_count_0 c a kr ) : bX3_count_0 c a kq  := by
  unfold bX3_count_0 at h ⊢
  by_cases hc : a.toInt < 0 ∨ 4 < a.toInt
  · rw [if_pos hc] at h ⊢
    exact hr _ _ h
  rw [if_neg hc] at h ⊢
  by_cases hc : a = (0 : Int32)
  · rw [if_pos hc] at h ⊢
    exact hr _ _ h
  rw [if_neg hc] at h ⊢
  by_cases hc : a = (1 : Int32)
  · rw [if_pos hc] at h ⊢
    exact hr _ _ h
  rw [if_neg hc] at h ⊢
  by_cases hc : a = (2 : Int32)
  · rw [if_pos hc] at h ⊢
    exact hr _ _ h
  rw [if_neg hc] at h ⊢
  by_cases hc : a = (3 : Int32)
  · rw [if_pos hc] at h ⊢
    by_cases hc : (c.1 3) = 0
    · rw [if_pos hc] at h ⊢
      exact hr _ _ h
    · rw [if_neg hc] at h ⊢
      exact hr _ _ h
  rw [if_neg hc] at h ⊢
  refine mnX2_howManyStuck ?_ h
  intro r1 X1 h
  exact hr _ _ h
def wX3_count (c : CS) (a : Int32) (kr : Int32 → CS → Prop) : Prop := bX3_count_0 c a kr 
theorem mnX3_count {c : CS} {a : Int32} {kr kq : Int32 → CS → Prop} (hr : ∀ x X, kr x X → kq x X) (h : wX3_count c a kr) : wX3_count c a kq := mbX3_count_0 hr  h
def tX3_count : Tr := fun as σ k => match as with
  | [.ref 0, .int a] => ∃ (c : CS) (M : aS), σ = wC c ++ M ∧ wX3_count c a (fun x X => k (some (.int x)) (wC X ++ M))
  | _ => False
def ceX3_count : List (Nat × Nat × Tr) := (2 * 159 + 1, 0 + 1, tX2_howManyStuck) :: []
theorem coX3_count (l : Launch) : CEok l yX3_count.cls 1 ceX3_count := ce_V (ci := 1) (n := 0) rfl (okX2_howManyStuck l) rcX2_howManyStuck (mw 494 (by decide +kernel) rfl) (mw 495 (by decide +kernel) rfl) (mw 496 (by decide +kernel) rfl) (mw 3 (by decide +kernel) rfl) (mw 497 (by decide +kernel) rfl) rfl (by decide) ⟨by decide, by decide⟩ (ce_0)
abbrev cutX3_count : List (Nat × List Nat) := []
set_option maxRecDepth 20000 in
set_option maxHeartbeats 4000000 in
theorem lbX3_count_0 {G : Nat → LV → List Value → aS → Prop} {post : Option Value → aS → Prop} (hG : ∀ n b pc lv st σ, seg (0, fun _ => 0) pgX3_count ceX3_count cutX3_count G (fun v σ => rFit (some .int) v ∧ post v σ) n b pc lv st σ → G pc lv st σ) (c : CS) (M : aS) (a : Int32) (hb : bX3_count_0 c a (fun x X => rFit (some .int) (some (.int x)) ∧ post (some (.int x)) (wC X ++ M)) ) : G 0 [(0, .ref 0), (1, .int a)] [] (wC c ++ M) := by
  unfold bX3_count_0 at hb
  refine hG 400 false 0 _ _ _ ?_
  refine And.intro (fun (h : a.toInt < 0 ∨ 4 < a.toInt) => ?_) ?_
  · rw [if_pos h] at hb
    exact hb
  refine And.intro (fun (hw : a = (0 : Int32)) => ?_) ?_
  · rw [if_neg (show ¬ (a.toInt < 0 ∨ 4 < a.toInt) by rw [hw]; decide), if_pos hw] at hb
    exact hb
  refine And.intro (fun (hw : a = (1 : Int32)) => ?_) ?_
  · rw [if_neg (show ¬ (a.toInt < 0 ∨ 4 < a.toInt) by rw [hw]; decide), if_neg (show ¬ (a = (0 : Int32)) by rw [hw]; decide), if_pos hw] at hb
    exact hb
  refine And.intro (fun (hw : a = (2 : Int32)) => ?_) ?_
  · rw [if_neg (show ¬ (a.toInt < 0 ∨ 4 < a.toInt) by rw [hw]; decide), if_neg (show ¬ (a = (0 : Int32)) by rw [hw]; decide), if_neg (show ¬ (a = (1 : Int32)) by rw [hw]; decide), if_pos hw] at hb
    exact hb
  refine And.intro (fun (hw : a = (3 : Int32)) => ?_) ?_
  · rw [if_neg (show ¬ (a.toInt < 0 ∨ 4 < a.toInt) by rw [hw]; decide), if_neg (show ¬ (a = (0 : Int32)) by rw [hw]; decide), if_neg (show ¬ (a = (1 : Int32)) by rw [hw]; decide), if_neg (show ¬ (a = (2 : Int32)) by rw [hw]; decide), if_pos hw] at hb
    refine And.intro (fun (h : ¬ (c.1 3) = 0) => ?_) (fun hq => have h : (c.1 3) = 0 := Classical.not_not.mp hq; ?_)
    · rw [if_neg h] at hb
      exact hb
    · rw [if_pos h] at hb
      exact hb
  refine And.intro (fun (hw : a = (4 : Int32)) => ?_) ?_
  · rw [if_neg (show ¬ (a.toInt < 0 ∨ 4 < a.toInt) by rw [hw]; decide), if_neg (show ¬ (a = (0 : Int32)) by rw [hw]; decide), if_neg (show ¬ (a = (1 : Int32)) by rw [hw]; decide), if_neg (show ¬ (a = (2 : Int32)) by rw [hw]; decide), if_neg (show ¬ (a = (3 : Int32)) by rw [hw]; decide)] at hb
    refine Exists.intro c (Exists.intro M ((And.intro rfl (mnX2_howManyStuck ?_ hb))))
    intro r1 X1 hb
    exact hb
  exact trivial
theorem rcX3_count : ∀ as σ kk, tX3_count as σ kk → ∃ a r fs, as = .ref a :: r ∧ σ[a]? = some (.inr (2, fs)) := by
  intro as σ kk h
  unfold tX3_count at h; split at h
  · obtain ⟨c, M, rfl, -⟩ := h
    exact ⟨_, _, _, rfl, rfl⟩
  · exact h.elim
set_option maxRecDepth 20000 in
theorem okX3_count (l : Launch) : OK l yX3_count cX3_count 2 (some .int) 1 tX3_count := by
  intro D τ ρ A as σ post h
  unfold tX3_count at h; split at h
  · rename_i a; obtain ⟨c, M, rfl, hw⟩ := h
    refine met_of (P := pgX3_count) (CE := ceX3_count) (cut := cutX3_count) (by decide) kkX3_count (coX3_count l) (Nat.le_of_ble_eq_true rfl) ?_
    intro G hG
    unfold wX3_count at hw
    refine lbX3_count_0 hG c M a (mbX3_count_0 ?_  hw)
    · exact fun _ _ h => ⟨trivial, h⟩
  · exact h.elim
def bX3_clear_0 (c : CS)  (kr : Int32 → CS → Prop)  : Prop :=
  (wX3_forgetRoles (setI (setI c 2 (0 : Int32)) 0 (0 : Int32))  (fun  X1 => kr (c.1 2) (gX2_end X1 )))
set_option maxRecDepth 20000 in
theorem mbX3_clear_0 {c : CS}  {kr kq : Int32 → CS → Prop}  (hr : ∀ x X, kr x X → kq x X)  (h : bX3_clear_0 c  kr ) : bX3_clear_0 c  kq  := by
  unfold bX3_clear_0 at h ⊢
  refine mnX3_forgetRoles ?_ h
  intro  X1 h
  exact hr _ _ h
def wX3_clear (c : CS)  (kr : Int32 → CS → Prop) : Prop := bX3_clear_0 c  kr 
theorem mnX3_clear {c : CS}  {kr kq : Int32 → CS → Prop} (hr : ∀ x X, kr x X → kq x X) (h : wX3_clear c  kr) : wX3_clear c  kq := mbX3_clear_0 hr  h
def tX3_clear : Tr := fun as σ k => match as with
  | [.ref 0] => ∃ (c : CS) (M : aS), σ = wC c ++ M ∧ wX3_clear c  (fun x X => k (some (.int x)) (wC X ++ M))
  | _ => False
def ceX3_clear : List (Nat × Nat × Tr) := (2 * 48 + 1, 0 + 1, tX3_forgetRoles) :: (2 * 51 + 1, 0 + 1, tX2_end) :: []
theorem coX3_clear (l : Launch) : CEok l yX3_clear.cls 1 ceX3_clear := ce_V (ci := 2) (n := 0) rfl (okX3_forgetRoles l) rcX3_forgetRoles (mw 143 (by decide +kernel) rfl) (mw 145 (by decide +kernel) rfl) (ms 0 (by decide +kernel) rfl) (mw 1 (by decide +kernel) rfl) (mw 146 (by decide +kernel) rfl) rfl (by decide) ⟨by decide, by decide⟩ (ce_V (ci := 1) (n := 0) rfl (okX2_end l) rcX2_end (mw 147 (by decide +kernel) rfl) (mw 148 (by decide +kernel) rfl) (mw 149 (by decide +kernel) rfl) (mw 3 (by decide +kernel) rfl) (mw 150 (by decide +kernel) rfl) rfl (by decide) ⟨by decide, by decide⟩ (ce_0))
abbrev cutX3_clear : List (Nat × List Nat) := []
set_option maxRecDepth 20000 in
set_option maxHeartbeats 4000000 in
theorem lbX3_clear_0 {G : Nat → LV → List Value → aS → Prop} {post : Option Value → aS → Prop} (hG : ∀ n b pc lv st σ, seg (0, fun _ => 0) pgX3_clear ceX3_clear cutX3_clear G (fun v σ => rFit (some .int) v ∧ post v σ) n b pc lv st σ → G pc lv st σ) (c : CS) (M : aS)  (hb : bX3_clear_0 c  (fun x X => rFit (some .int) (some (.int x)) ∧ post (some (.int x)) (wC X ++ M)) ) : G 0 [(0, .ref 0)] [] (wC c ++ M) := by
  unfold bX3_clear_0 at hb
  refine hG 400 false 0 _ _ _ ?_
  refine Exists.intro (setI (setI c 2 (0 : Int32)) 0 (0 : Int32)) (Exists.intro M ((And.intro rfl (mnX3_forgetRoles ?_ hb))))
  intro  X1 hb
  refine Exists.intro X1 (Exists.intro M ((And.intro rfl (?_))))
  exact hb
theorem rcX3_clear : ∀ as σ kk, tX3_clear as σ kk → ∃ a r fs, as = .ref a :: r ∧ σ[a]? = some (.inr (2, fs)) := by
  intro as σ kk h
  unfold tX3_clear at h; split at h
  · obtain ⟨c, M, rfl, -⟩ := h
    exact ⟨_, _, _, rfl, rfl⟩
  · exact h.elim
set_option maxRecDepth 20000 in
theorem okX3_clear (l : Launch) : OK l yX3_clear cX3_clear 2 (some .int) 1 tX3_clear := by
  intro D τ ρ A as σ post h
  unfold tX3_clear at h; split at h
  · obtain ⟨c, M, rfl, hw⟩ := h
    refine met_of (P := pgX3_clear) (CE := ceX3_clear) (cut := cutX3_clear) (by decide) kkX3_clear (coX3_clear l) (Nat.le_of_ble_eq_true rfl) ?_
    intro G hG
    unfold wX3_clear at hw
    refine lbX3_clear_0 hG c M  (mbX3_clear_0 ?_  hw)
    · exact fun _ _ h => ⟨trivial, h⟩
  · exact h.elim
