def bX4_boxes_0 (c : MS)  (kr : Int32 → MS → Prop)  : Prop :=
  kr ((msetI c 0 (0 : Int32)).1 4) (msetI c 0 (0 : Int32))
set_option maxRecDepth 20000 in
theorem mbX4_boxes_0 {c : MS}  {kr kq : Int32 → MS → Prop}  (hr : ∀ x X, kr x X → kq x X)  (h : bX4_boxes_0 c  kr ) : bX4_boxes_0 c  kq  := by
  unfold bX4_boxes_0 at h ⊢
  exact hr _ _ h
def wX4_boxes (c : MS)  (kr : Int32 → MS → Prop) : Prop := bX4_boxes_0 c  kr 
theorem mnX4_boxes {c : MS}  {kr kq : Int32 → MS → Prop} (hr : ∀ x X, kr x X → kq x X) (h : wX4_boxes c  kr) : wX4_boxes c  kq := mbX4_boxes_0 hr  h
def tX4_boxes : Tr := fun as σ k => match as with
  | [.ref 20] => ∃ (c : MS) (u : Nat → aE) (M : aS), σ = pre20 u ++ (wM c ++ M) ∧ wX4_boxes c  (fun x X => k (some (.int x)) (pre20 u ++ (wM X ++ M)))
  | _ => False
def ceX4_boxes : List (Nat × Nat × Tr) := []
theorem coX4_boxes (l : Launch) : CEok l yX4_boxes.cls 0 ceX4_boxes := ce_0
abbrev cutX4_boxes : List (Nat × List Nat) := []
set_option maxRecDepth 20000 in
set_option maxHeartbeats 4000000 in
theorem lbX4_boxes_0 {G : Nat → LV → List Value → aS → Prop} {post : Option Value → aS → Prop} (hG : ∀ n b pc lv st σ, seg (0, fun _ => 0) pgX4_boxes ceX4_boxes cutX4_boxes G (fun v σ => rFit (some .int) v ∧ post v σ) n b pc lv st σ → G pc lv st σ) (c : MS) (u : Nat → aE) (M : aS)  (hb : bX4_boxes_0 c  (fun x X => rFit (some .int) (some (.int x)) ∧ post (some (.int x)) (pre20 u ++ (wM X ++ M))) ) : G 0 [(0, .ref 20)] [] (pre20 u ++ (wM c ++ M)) := by
  unfold bX4_boxes_0 at hb
  refine hG 400 false 0 _ _ _ ?_
  exact hb
theorem rcX4_boxes : ∀ as σ kk, tX4_boxes as σ kk → ∃ a r fs, as = .ref a :: r ∧ σ[a]? = some (.inr (3, fs)) := by
  intro as σ kk h
  unfold tX4_boxes at h; split at h
  · obtain ⟨c, u, M, rfl, -⟩ := h
    exact ⟨_, _, _, rfl, rfl⟩
  · exact h.elim
set_option maxRecDepth 20000 in
theorem okX4_boxes (l : Launch) : OK l yX4_boxes cX4_boxes 1 (some .int) 0 tX4_boxes := by
  intro D τ ρ A as σ post h
  unfold tX4_boxes at h; split at h
  · obtain ⟨c, u, M, rfl, hw⟩ := h
    refine met_of (P := pgX4_boxes) (CE := ceX4_boxes) (cut := cutX4_boxes) (by decide) kkX4_boxes (coX4_boxes l) (Nat.le_of_ble_eq_true rfl) ?_
    intro G hG
    unfold wX4_boxes at hw
    refine lbX4_boxes_0 hG c u M  (mbX4_boxes_0 ?_  hw)
    · exact fun _ _ h => ⟨trivial, h⟩
  · exact h.elim
def bX4_isBox_0 (c : MS) (a : Int32) (kr : Int32 → MS → Prop)  : Prop :=
  (wX4_in a (0 : Int32) ((c.1 4) - (1 : Int32)) (fun r1 => ((r1 = 0 ∨ r1 = 1) ∧ kr r1 c)))
set_option maxRecDepth 20000 in
theorem mbX4_isBox_0 {c : MS} {a : Int32} {kr kq : Int32 → MS → Prop}  (hr : ∀ x X, (x = 0 ∨ x = 1) → kr x X → kq x X)  (h : bX4_isBox_0 c a kr ) : bX4_isBox_0 c a kq  := by
  unfold bX4_isBox_0 at h ⊢
  refine mnX4_in ?_ h
  intro r1 _ h
  exact ⟨h.1, hr _ _ h.1 h.2⟩
def wX4_isBox (c : MS) (a : Int32) (kr : Int32 → MS → Prop) : Prop := bX4_isBox_0 c a kr 
theorem mnX4_isBox {c : MS} {a : Int32} {kr kq : Int32 → MS → Prop} (hr : ∀ x X, (x = 0 ∨ x = 1) → kr x X → kq x X) (h : wX4_isBox c a kr) : wX4_isBox c a kq := mbX4_isBox_0 hr  h
def tX4_isBox : Tr := fun as σ k => match as with
  | [.ref 20, .int a] => ∃ (c : MS) (u : Nat → aE) (M : aS), σ = pre20 u ++ (wM c ++ M) ∧ wX4_isBox c a (fun x X => k (some (.int x)) (pre20 u ++ (wM X ++ M)))
  | _ => False
def ceX4_isBox : List (Nat × Nat × Tr) := (2 * 129, 3, tX4_in) :: []
theorem coX4_isBox (l : Launch) : CEok l yX4_isBox.cls 1 ceX4_isBox := ce_S (okX4_in l) (mw 726 (by decide +kernel) rfl) (mw 727 (by decide +kernel) rfl) (mw 4 (by decide +kernel) rfl) (mw 728 (by decide +kernel) rfl) (by decide) ⟨by decide, by decide⟩ (ce_0)
abbrev cutX4_isBox : List (Nat × List Nat) := []
set_option maxRecDepth 20000 in
set_option maxHeartbeats 4000000 in
theorem lbX4_isBox_0 {G : Nat → LV → List Value → aS → Prop} {post : Option Value → aS → Prop} (hG : ∀ n b pc lv st σ, seg (0, fun _ => 0) pgX4_isBox ceX4_isBox cutX4_isBox G (fun v σ => rFit (some .boolean) v ∧ post v σ) n b pc lv st σ → G pc lv st σ) (c : MS) (u : Nat → aE) (M : aS) (a : Int32) (hb : bX4_isBox_0 c a (fun x X => rFit (some .boolean) (some (.int x)) ∧ post (some (.int x)) (pre20 u ++ (wM X ++ M))) ) : G 0 [(0, .ref 20), (1, .int a)] [] (pre20 u ++ (wM c ++ M)) := by
  unfold bX4_isBox_0 at hb
  refine hG 400 false 0 _ _ _ ?_
  refine And.intro trivial (mnX4_in ?_ hb)
  intro r1 _ hb
  exact hb.2
theorem rcX4_isBox : ∀ as σ kk, tX4_isBox as σ kk → ∃ a r fs, as = .ref a :: r ∧ σ[a]? = some (.inr (3, fs)) := by
  intro as σ kk h
  unfold tX4_isBox at h; split at h
  · obtain ⟨c, u, M, rfl, -⟩ := h
    exact ⟨_, _, _, rfl, rfl⟩
  · exact h.elim
set_option maxRecDepth 20000 in
theorem okX4_isBox (l : Launch) : OK l yX4_isBox cX4_isBox 2 (some .boolean) 1 tX4_isBox := by
  intro D τ ρ A as σ post h
  unfold tX4_isBox at h; split at h
  · rename_i a; obtain ⟨c, u, M, rfl, hw⟩ := h
    refine met_of (P := pgX4_isBox) (CE := ceX4_isBox) (cut := cutX4_isBox) (by decide) kkX4_isBox (coX4_isBox l) (Nat.le_of_ble_eq_true rfl) ?_
    intro G hG
    unfold wX4_isBox at hw
    refine lbX4_isBox_0 hG c u M a (mbX4_isBox_0 ?_  hw)
    · exact fun _ _ hf h => ⟨hf, h⟩
  · exact h.elim
def bX4_kind_0 (c : MS) (a : Int32) (kr : Int32 → MS → Prop)  : Prop :=
  (wX4_isBox (msetI c 0 (0 : Int32)) a (fun r1 X1 => (if r1 = 0 then
    kr (-1 : Int32) X1
  else
    (vp_in a 100 ∧ kr (X1.2.1 30 a.toNatClampNeg) X1))))
set_option maxRecDepth 20000 in
theorem mbX4_kind_0 {c : MS} {a : Int32} {kr kq : Int32 → MS → Prop}  (hr : ∀ x X, kr x X → kq x X)  (h : bX4_kind_0 c a kr ) : bX4_kind_0 c a kq  := by
  unfold bX4_kind_0 at h ⊢
  refine mnX4_isBox ?_ h
  intro r1 X1 _ h
  by_cases hc : r1 = 0
  · rw [if_pos hc] at h ⊢
    exact hr _ _ h
  · rw [if_neg hc] at h ⊢
    obtain ⟨hi, h⟩ := h
    refine And.intro hi ?_
    exact hr _ _ h
def wX4_kind (c : MS) (a : Int32) (kr : Int32 → MS → Prop) : Prop := bX4_kind_0 c a kr 
theorem mnX4_kind {c : MS} {a : Int32} {kr kq : Int32 → MS → Prop} (hr : ∀ x X, kr x X → kq x X) (h : wX4_kind c a kr) : wX4_kind c a kq := mbX4_kind_0 hr  h
def tX4_kind : Tr := fun as σ k => match as with
  | [.ref 20, .int a] => ∃ (c : MS) (u : Nat → aE) (M : aS), σ = pre20 u ++ (wM c ++ M) ∧ wX4_kind c a (fun x X => k (some (.int x)) (pre20 u ++ (wM X ++ M)))
  | _ => False
def ceX4_kind : List (Nat × Nat × Tr) := (2 * 230 + 1, 1 + 1, tX4_isBox) :: []
theorem coX4_kind (l : Launch) : CEok l yX4_kind.cls 2 ceX4_kind := ce_V (ci := 3) (n := 1) rfl (okX4_isBox l) rcX4_isBox (mw 880 (by decide +kernel) rfl) (mw 882 (by decide +kernel) rfl) (ms 31 (by decide +kernel) rfl) (mw 4 (by decide +kernel) rfl) (mw 883 (by decide +kernel) rfl) rfl (by decide) ⟨by decide, by decide⟩ (ce_0)
abbrev cutX4_kind : List (Nat × List Nat) := []
set_option maxRecDepth 20000 in
set_option maxHeartbeats 4000000 in
theorem lbX4_kind_0 {G : Nat → LV → List Value → aS → Prop} {post : Option Value → aS → Prop} (hG : ∀ n b pc lv st σ, seg (0, fun _ => 0) pgX4_kind ceX4_kind cutX4_kind G (fun v σ => rFit (some .int) v ∧ post v σ) n b pc lv st σ → G pc lv st σ) (c : MS) (u : Nat → aE) (M : aS) (a : Int32) (hb : bX4_kind_0 c a (fun x X => rFit (some .int) (some (.int x)) ∧ post (some (.int x)) (pre20 u ++ (wM X ++ M))) ) : G 0 [(0, .ref 20), (1, .int a)] [] (pre20 u ++ (wM c ++ M)) := by
  unfold bX4_kind_0 at hb
  refine hG 400 false 0 _ _ _ ?_
  refine Exists.intro (msetI c 0 (0 : Int32)) (Exists.intro u (Exists.intro M ((And.intro rfl (mnX4_isBox ?_ hb)))))
  intro r1 X1 _ hb
  refine And.intro (fun (h : r1 = 0) => ?_) (fun (h : ¬ r1 = 0) => ?_)
  · rw [if_pos h] at hb
    exact hb
  · rw [if_neg h] at hb
    obtain ⟨hi, hb⟩ := hb
    refine And.intro hi ?_
    exact hb
theorem rcX4_kind : ∀ as σ kk, tX4_kind as σ kk → ∃ a r fs, as = .ref a :: r ∧ σ[a]? = some (.inr (3, fs)) := by
  intro as σ kk h
  unfold tX4_kind at h; split at h
  · obtain ⟨c, u, M, rfl, -⟩ := h
    exact ⟨_, _, _, rfl, rfl⟩
  · exact h.elim
set_option maxRecDepth 20000 in
theorem okX4_kind (l : Launch) : OK l yX4_kind cX4_kind 2 (some .int) 2 tX4_kind := by
  intro D τ ρ A as σ post h
  unfold tX4_kind at h; split at h
  · rename_i a; obtain ⟨c, u, M, rfl, hw⟩ := h
    refine met_of (P := pgX4_kind) (CE := ceX4_kind) (cut := cutX4_kind) (by decide) kkX4_kind (coX4_kind l) (Nat.le_of_ble_eq_true rfl) ?_
    intro G hG
    unfold wX4_kind at hw
    refine lbX4_kind_0 hG c u M a (mbX4_kind_0 ?_  hw)
    · exact fun _ _ h => ⟨trivial, h⟩
  · exact h.elim
def bX4_side_0 (c : MS) (a : Int32) (b : Int32) (d : Int32) (kr : Int64 → MS → Prop)  : Prop :=
  (wX4_isBox c a (fun r1 X1 => (if r1 = 0 then
    kr (0 : Int64) (msetI X1 0 (1 : Int32))
  else
    (wX4_in b (0 : Int32) ((X1.1 1) - (1 : Int32)) (fun r2 => (if r2 = 0 then
      kr (0 : Int64) (msetI X1 0 (1 : Int32))
    else
      (wX4_in d (0 : Int32) (1 : Int32) (fun r3 => (if r3 = 0 then
        kr (0 : Int64) (msetI X1 0 (1 : Int32))
      else
        (if d = 0 then
          (vp_in (((3 : Int32) * a) + b) 300 ∧ (wX4_bits ((msetI X1 0 (0 : Int32)).2.2 28 (((3 : Int32) * a) + b).toNatClampNeg) (fun r5 => kr r5 (msetI X1 0 (0 : Int32)))))
        else
          (vp_in (((3 : Int32) * a) + b) 300 ∧ (wX4_bits ((msetI X1 0 (0 : Int32)).2.2 29 (((3 : Int32) * a) + b).toNatClampNeg) (fun r4 => kr r4 (msetI X1 0 (0 : Int32)))))))))))))))
set_option maxRecDepth 20000 in
theorem mbX4_side_0 {c : MS} {a : Int32} {b : Int32} {d : Int32} {kr kq : Int64 → MS → Prop}  (hr : ∀ x X, kr x X → kq x X)  (h : bX4_side_0 c a b d kr ) : bX4_side_0 c a b d kq  := by
  unfold bX4_side_0 at h ⊢
  refine mnX4_isBox ?_ h
  intro r1 X1 _ h
  by_cases hc : r1 = 0
  · rw [if_pos hc] at h ⊢
    exact hr _ _ h
  · rw [if_neg hc] at h ⊢
    refine mnX4_in ?_ h
    intro r2 _ h
    by_cases hc : r2 = 0
    · rw [if_pos hc] at h ⊢
      exact hr _ _ h
    · rw [if_neg hc] at h ⊢
      refine mnX4_in ?_ h
      intro r3 _ h
      by_cases hc : r3 = 0
      · rw [if_pos hc] at h ⊢
        exact hr _ _ h
      · rw [if_neg hc] at h ⊢
        by_cases hc : d = 0
        · rw [if_pos hc] at h ⊢
          obtain ⟨hi, h⟩ := h
          refine And.intro hi ?_
          refine mnX4_bits ?_ h
          intro r5 h
          exact hr _ _ h
        · rw [if_neg hc] at h ⊢
          obtain ⟨hi, h⟩ := h
          refine And.intro hi ?_
          refine mnX4_bits ?_ h
          intro r4 h
          exact hr _ _ h
def wX4_side (c : MS) (a : Int32) (b : Int32) (d : Int32) (kr : Int64 → MS → Prop) : Prop := bX4_side_0 c a b d kr 
theorem mnX4_side {c : MS} {a : Int32} {b : Int32} {d : Int32} {kr kq : Int64 → MS → Prop} (hr : ∀ x X, kr x X → kq x X) (h : wX4_side c a b d kr) : wX4_side c a b d kq := mbX4_side_0 hr  h
def tX4_side : Tr := fun as σ k => match as with
  | [.ref 20, .int a, .int b, .int d] => ∃ (c : MS) (u : Nat → aE) (M : aS), σ = pre20 u ++ (wM c ++ M) ∧ wX4_side c a b d (fun x X => k (some (.long x)) (pre20 u ++ (wM X ++ M)))
  | _ => False
def ceX4_side : List (Nat × Nat × Tr) := (2 * 230 + 1, 1 + 1, tX4_isBox) :: (2 * 129, 3, tX4_in) :: (2 * 81, 1, tX4_bits) :: []
theorem coX4_side (l : Launch) : CEok l yX4_side.cls 3 ceX4_side := ce_V (ci := 3) (n := 1) rfl (okX4_isBox l) rcX4_isBox (mw 880 (by decide +kernel) rfl) (mw 882 (by decide +kernel) rfl) (ms 31 (by decide +kernel) rfl) (mw 4 (by decide +kernel) rfl) (mw 883 (by decide +kernel) rfl) rfl (by decide) ⟨by decide, by decide⟩ (ce_S (okX4_in l) (mw 726 (by decide +kernel) rfl) (mw 727 (by decide +kernel) rfl) (mw 4 (by decide +kernel) rfl) (mw 728 (by decide +kernel) rfl) (by decide) ⟨by decide, by decide⟩ (ce_S (okX4_bits l) (mw 772 (by decide +kernel) rfl) (mw 773 (by decide +kernel) rfl) (mw 4 (by decide +kernel) rfl) (mw 774 (by decide +kernel) rfl) (by decide) ⟨by decide, by decide⟩ (ce_0)))
abbrev cutX4_side : List (Nat × List Nat) := []
set_option maxRecDepth 20000 in
set_option maxHeartbeats 4000000 in
theorem lbX4_side_0 {G : Nat → LV → List Value → aS → Prop} {post : Option Value → aS → Prop} (hG : ∀ n b pc lv st σ, seg (0, fun _ => 0) pgX4_side ceX4_side cutX4_side G (fun v σ => rFit (some .long) v ∧ post v σ) n b pc lv st σ → G pc lv st σ) (c : MS) (u : Nat → aE) (M : aS) (a : Int32) (b : Int32) (d : Int32) (hb : bX4_side_0 c a b d (fun x X => rFit (some .long) (some (.long x)) ∧ post (some (.long x)) (pre20 u ++ (wM X ++ M))) ) : G 0 [(0, .ref 20), (1, .int a), (2, .int b), (3, .int d)] [] (pre20 u ++ (wM c ++ M)) := by
  unfold bX4_side_0 at hb
  refine hG 400 false 0 _ _ _ ?_
  refine Exists.intro c (Exists.intro u (Exists.intro M ((And.intro rfl (mnX4_isBox ?_ hb)))))
  intro r1 X1 _ hb
  refine And.intro (fun (h : r1 = 0) => ?_) (fun (h : ¬ r1 = 0) => ?_)
  · rw [if_pos h] at hb
    refine And.intro (fun _ => ?_) (fun h => absurd (show (0 : Int32) = (0 : Int32) by decide) h)
    refine And.intro (fun h => absurd (show ¬ (0 : Int32) = (0 : Int32) from h) (by decide)) (fun _ => ?_)
    exact hb
  · rw [if_neg h] at hb
    refine And.intro trivial (mnX4_in ?_ hb)
    intro r2 _ hb
    refine And.intro (fun (h : r2 = 0) => ?_) (fun (h : ¬ r2 = 0) => ?_)
    · rw [if_pos h] at hb
      refine And.intro (fun _ => ?_) (fun h => absurd (show (0 : Int32) = (0 : Int32) by decide) h)
      refine And.intro (fun h => absurd (show ¬ (0 : Int32) = (0 : Int32) from h) (by decide)) (fun _ => ?_)
      exact hb
    · rw [if_neg h] at hb
      refine And.intro trivial (mnX4_in ?_ hb)
      intro r3 _ hb
      refine And.intro (fun (h : r3 = 0) => ?_) (fun (h : ¬ r3 = 0) => ?_)
      · rw [if_pos h] at hb
        refine And.intro (fun _ => ?_) (fun h => absurd (show (0 : Int32) = (0 : Int32) by decide) h)
        refine And.intro (fun h => absurd (show ¬ (0 : Int32) = (0 : Int32) from h) (by decide)) (fun _ => ?_)
        exact hb
      · rw [if_neg h] at hb
        refine And.intro (fun h => absurd (show (1 : Int32) = (0 : Int32) from h) (by decide)) (fun _ => ?_)
        refine And.intro (fun _ => ?_) (fun h => absurd (show ¬ (1 : Int32) = (0 : Int32) by decide) h)
        refine And.intro (fun (h : ¬ d = 0) => ?_) (fun hq => have h : d = 0 := Classical.not_not.mp hq; ?_)
        · rw [if_neg h] at hb
          obtain ⟨hi, hb⟩ := hb
          refine And.intro hi ?_
          refine And.intro trivial (mnX4_bits ?_ hb)
          intro r4 hb
          exact hb
        · rw [if_pos h] at hb
          obtain ⟨hi, hb⟩ := hb
          refine And.intro hi ?_
          refine And.intro trivial (mnX4_bits ?_ hb)
          intro r5 hb
          exact hb
theorem rcX4_side : ∀ as σ kk, tX4_side as σ kk → ∃ a r fs, as = .ref a :: r ∧ σ[a]? = some (.inr (3, fs)) := by
  intro as σ kk h
  unfold tX4_side at h; split at h
  · obtain ⟨c, u, M, rfl, -⟩ := h
    exact ⟨_, _, _, rfl, rfl⟩
  · exact h.elim
set_option maxRecDepth 20000 in
theorem okX4_side (l : Launch) : OK l yX4_side cX4_side 5 (some .long) 3 tX4_side := by
  intro D τ ρ A as σ post h
  unfold tX4_side at h; split at h
  · rename_i a b d; obtain ⟨c, u, M, rfl, hw⟩ := h
    refine met_of (P := pgX4_side) (CE := ceX4_side) (cut := cutX4_side) (by decide) kkX4_side (coX4_side l) (Nat.le_of_ble_eq_true rfl) ?_
    intro G hG
    unfold wX4_side at hw
    refine lbX4_side_0 hG c u M a b d (mbX4_side_0 ?_  hw)
    · exact fun _ _ h => ⟨trivial, h⟩
  · exact h.elim
def bX4_weight_0 (c : MS) (a : Int32) (b : Int32) (kr : Int64 → MS → Prop)  : Prop :=
  (wX4_isBox (msetI c 0 (0 : Int32)) a (fun r1 X1 => (if r1 = 0 then
    kr (0 : Int64) X1
  else
    (wX4_in b (0 : Int32) (1 : Int32) (fun r2 => (if r2 = 0 then
      kr (0 : Int64) X1
    else
      (if b = 0 then
        (vp_in a 100 ∧ (wX4_bits (X1.2.2 31 a.toNatClampNeg) (fun r4 => kr r4 X1)))
      else
        (vp_in a 100 ∧ (wX4_bits (X1.2.2 32 a.toNatClampNeg) (fun r3 => kr r3 X1))))))))))
set_option maxRecDepth 20000 in
theorem mbX4_weight_0 {c : MS} {a : Int32} {b : Int32} {kr kq : Int64 → MS → Prop}  (hr : ∀ x X, kr x X → kq x X)  (h : bX4_weight_0 c a b kr ) : bX4_weight_0 c a b kq  := by
  unfold bX4_weight_0 at h ⊢
  refine mnX4_isBox ?_ h
  intro r1 X1 _ h
  by_cases hc : r1 = 0
  · rw [if_pos hc] at h ⊢
    exact hr _ _ h
  · rw [if_neg hc] at h ⊢
    refine mnX4_in ?_ h
    intro r2 _ h
    by_cases hc : r2 = 0
    · rw [if_pos hc] at h ⊢
      exact hr _ _ h
    · rw [if_neg hc] at h ⊢
      by_cases hc : b = 0
      · rw [if_pos hc] at h ⊢
        obtain ⟨hi, h⟩ := h
        refine And.intro hi ?_
        refine mnX4_bits ?_ h
        intro r4 h
        exact hr _ _ h
      · rw [if_neg hc] at h ⊢
        obtain ⟨hi, h⟩ := h
        refine And.intro hi ?_
        refine mnX4_bits ?_ h
        intro r3 h
        exact hr _ _ h
def wX4_weight (c : MS) (a : Int32) (b : Int32) (kr : Int64 → MS → Prop) : Prop := bX4_weight_0 c a b kr 
theorem mnX4_weight {c : MS} {a : Int32} {b : Int32} {kr kq : Int64 → MS → Prop} (hr : ∀ x X, kr x X → kq x X) (h : wX4_weight c a b kr) : wX4_weight c a b kq := mbX4_weight_0 hr  h
def tX4_weight : Tr := fun as σ k => match as with
  | [.ref 20, .int a, .int b] => ∃ (c : MS) (u : Nat → aE) (M : aS), σ = pre20 u ++ (wM c ++ M) ∧ wX4_weight c a b (fun x X => k (some (.long x)) (pre20 u ++ (wM X ++ M)))
  | _ => False
def ceX4_weight : List (Nat × Nat × Tr) := (2 * 230 + 1, 1 + 1, tX4_isBox) :: (2 * 129, 3, tX4_in) :: (2 * 81, 1, tX4_bits) :: []
theorem coX4_weight (l : Launch) : CEok l yX4_weight.cls 3 ceX4_weight := ce_V (ci := 3) (n := 1) rfl (okX4_isBox l) rcX4_isBox (mw 880 (by decide +kernel) rfl) (mw 882 (by decide +kernel) rfl) (ms 31 (by decide +kernel) rfl) (mw 4 (by decide +kernel) rfl) (mw 883 (by decide +kernel) rfl) rfl (by decide) ⟨by decide, by decide⟩ (ce_S (okX4_in l) (mw 726 (by decide +kernel) rfl) (mw 727 (by decide +kernel) rfl) (mw 4 (by decide +kernel) rfl) (mw 728 (by decide +kernel) rfl) (by decide) ⟨by decide, by decide⟩ (ce_S (okX4_bits l) (mw 772 (by decide +kernel) rfl) (mw 773 (by decide +kernel) rfl) (mw 4 (by decide +kernel) rfl) (mw 774 (by decide +kernel) rfl) (by decide) ⟨by decide, by decide⟩ (ce_0)))
abbrev cutX4_weight : List (Nat × List Nat) := []
set_option maxRecDepth 20000 in
set_option maxHeartbeats 4000000 in
theorem lbX4_weight_0 {G : Nat → LV → List Value → aS → Prop} {post : Option Value → aS → Prop} (hG : ∀ n b pc lv st σ, seg (0, fun _ => 0) pgX4_weight ceX4_weight cutX4_weight G (fun v σ => rFit (some .long) v ∧ post v σ) n b pc lv st σ → G pc lv st σ) (c : MS) (u : Nat → aE) (M : aS) (a : Int32) (b : Int32) (hb : bX4_weight_0 c a b (fun x X => rFit (some .long) (some (.long x)) ∧ post (some (.long x)) (pre20 u ++ (wM X ++ M))) ) : G 0 [(0, .ref 20), (1, .int a), (2, .int b)] [] (pre20 u ++ (wM c ++ M)) := by
  unfold bX4_weight_0 at hb
  refine hG 400 false 0 _ _ _ ?_
  refine Exists.intro (msetI c 0 (0 : Int32)) (Exists.intro u (Exists.intro M ((And.intro rfl (mnX4_isBox ?_ hb)))))
  intro r1 X1 _ hb
  refine And.intro (fun (h : r1 = 0) => ?_) (fun (h : ¬ r1 = 0) => ?_)
  · rw [if_pos h] at hb
    exact hb
  · rw [if_neg h] at hb
    refine And.intro trivial (mnX4_in ?_ hb)
    intro r2 _ hb
    refine And.intro (fun (h : r2 = 0) => ?_) (fun (h : ¬ r2 = 0) => ?_)
    · rw [if_pos h] at hb
      exact hb
    · rw [if_neg h] at hb
      refine And.intro (fun (h : ¬ b = 0) => ?_) (fun hq => have h : b = 0 := Classical.not_not.mp hq; ?_)
      · rw [if_neg h] at hb
        obtain ⟨hi, hb⟩ := hb
        refine And.intro hi ?_
        refine And.intro trivial (mnX4_bits ?_ hb)
        intro r3 hb
        exact hb
      · rw [if_pos h] at hb
        obtain ⟨hi, hb⟩ := hb
        refine And.intro hi ?_
        refine And.intro trivial (mnX4_bits ?_ hb)
        intro r4 hb
        exact hb
theorem rcX4_weight : ∀ as σ kk, tX4_weight as σ kk → ∃ a r fs, as = .ref a :: r ∧ σ[a]? = some (.inr (3, fs)) := by
  intro as σ kk h
  unfold tX4_weight at h; split at h
  · obtain ⟨c, u, M, rfl, -⟩ := h
    exact ⟨_, _, _, rfl, rfl⟩
  · exact h.elim
set_option maxRecDepth 20000 in
theorem okX4_weight (l : Launch) : OK l yX4_weight cX4_weight 3 (some .long) 3 tX4_weight := by
  intro D τ ρ A as σ post h
  unfold tX4_weight at h; split at h
  · rename_i a b; obtain ⟨c, u, M, rfl, hw⟩ := h
    refine met_of (P := pgX4_weight) (CE := ceX4_weight) (cut := cutX4_weight) (by decide) kkX4_weight (coX4_weight l) (Nat.le_of_ble_eq_true rfl) ?_
    intro G hG
    unfold wX4_weight at hw
    refine lbX4_weight_0 hG c u M a b (mbX4_weight_0 ?_  hw)
    · exact fun _ _ h => ⟨trivial, h⟩
  · exact h.elim
def bX4_enclosed_0 (c : MS) (a : Int32) (b : Int32) (d : Int32) (kr : Int64 → MS → Prop)  : Prop :=
  (wX4_isBox (msetI c 0 (0 : Int32)) a (fun r1 X1 => (if r1 = 0 then
    kr (0 : Int64) X1
  else
    (wX4_isNode X1 b (fun r2 X2 => (if r2 = 0 then
      kr (0 : Int64) X2
    else
      (wX4_in d (0 : Int32) (1 : Int32) (fun r3 => (if r3 = 0 then
        kr (0 : Int64) X2
      else
        (wX4_encloseTo X2 b a (fun  X4 => (if d = 0 then
          (vp_in b 32 ∧ (wX4_bits (X4.2.2 34 b.toNatClampNeg) (fun r6 => kr r6 X4)))
        else
          (vp_in b 32 ∧ (wX4_bits (X4.2.2 35 b.toNatClampNeg) (fun r5 => kr r5 X4)))))))))))))))
set_option maxRecDepth 20000 in
theorem mbX4_enclosed_0 {c : MS} {a : Int32} {b : Int32} {d : Int32} {kr kq : Int64 → MS → Prop}  (hr : ∀ x X, kr x X → kq x X)  (h : bX4_enclosed_0 c a b d kr ) : bX4_enclosed_0 c a b d kq  := by
  unfold bX4_enclosed_0 at h ⊢
  refine mnX4_isBox ?_ h
  intro r1 X1 _ h
  by_cases hc : r1 = 0
  · rw [if_pos hc] at h ⊢
    exact hr _ _ h
  · rw [if_neg hc] at h ⊢
    refine mnX4_isNode ?_ h
    intro r2 X2 _ h
    by_cases hc : r2 = 0
    · rw [if_pos hc] at h ⊢
      exact hr _ _ h
    · rw [if_neg hc] at h ⊢
      refine mnX4_in ?_ h
      intro r3 _ h
      by_cases hc : r3 = 0
      · rw [if_pos hc] at h ⊢
        exact hr _ _ h
      · rw [if_neg hc] at h ⊢
        refine mnX4_encloseTo ?_ h
        intro  X4 h
        by_cases hc : d = 0
        · rw [if_pos hc] at h ⊢
          obtain ⟨hi, h⟩ := h
          refine And.intro hi ?_
          refine mnX4_bits ?_ h
          intro r6 h
          exact hr _ _ h
        · rw [if_neg hc] at h ⊢
          obtain ⟨hi, h⟩ := h
          refine And.intro hi ?_
          refine mnX4_bits ?_ h
          intro r5 h
          exact hr _ _ h
def wX4_enclosed (c : MS) (a : Int32) (b : Int32) (d : Int32) (kr : Int64 → MS → Prop) : Prop := bX4_enclosed_0 c a b d kr 
theorem mnX4_enclosed {c : MS} {a : Int32} {b : Int32} {d : Int32} {kr kq : Int64 → MS → Prop} (hr : ∀ x X, kr x X → kq x X) (h : wX4_enclosed c a b d kr) : wX4_enclosed c a b d kq := mbX4_enclosed_0 hr  h
def tX4_enclosed : Tr := fun as σ k => match as with
  | [.ref 20, .int a, .int b, .int d] => ∃ (c : MS) (u : Nat → aE) (M : aS), σ = pre20 u ++ (wM c ++ M) ∧ wX4_enclosed c a b d (fun x X => k (some (.long x)) (pre20 u ++ (wM X ++ M)))
  | _ => False
def ceX4_enclosed : List (Nat × Nat × Tr) := (2 * 230 + 1, 1 + 1, tX4_isBox) :: (2 * 133 + 1, 1 + 1, tX4_isNode) :: (2 * 129, 3, tX4_in) :: (2 * 199 + 1, 2 + 1, tX4_encloseTo) :: (2 * 81, 1, tX4_bits) :: []
theorem coX4_enclosed (l : Launch) : CEok l yX4_enclosed.cls 9 ceX4_enclosed := ce_V (ci := 3) (n := 1) rfl (okX4_isBox l) rcX4_isBox (mw 880 (by decide +kernel) rfl) (mw 882 (by decide +kernel) rfl) (ms 31 (by decide +kernel) rfl) (mw 4 (by decide +kernel) rfl) (mw 883 (by decide +kernel) rfl) rfl (by decide) ⟨by decide, by decide⟩ (ce_V (ci := 3) (n := 1) rfl (okX4_isNode l) rcX4_isNode (mw 729 (by decide +kernel) rfl) (mw 731 (by decide +kernel) rfl) (ms 17 (by decide +kernel) rfl) (mw 4 (by decide +kernel) rfl) (mw 732 (by decide +kernel) rfl) rfl (by decide) ⟨by decide, by decide⟩ (ce_S (okX4_in l) (mw 726 (by decide +kernel) rfl) (mw 727 (by decide +kernel) rfl) (mw 4 (by decide +kernel) rfl) (mw 728 (by decide +kernel) rfl) (by decide) ⟨by decide, by decide⟩ (ce_V (ci := 3) (n := 2) rfl (okX4_encloseTo l) rcX4_encloseTo (mw 815 (by decide +kernel) rfl) (mw 817 (by decide +kernel) rfl) (ms 21 (by decide +kernel) rfl) (mw 4 (by decide +kernel) rfl) (mw 818 (by decide +kernel) rfl) rfl (by decide) ⟨by decide, by decide⟩ (ce_S (okX4_bits l) (mw 772 (by decide +kernel) rfl) (mw 773 (by decide +kernel) rfl) (mw 4 (by decide +kernel) rfl) (mw 774 (by decide +kernel) rfl) (by decide) ⟨by decide, by decide⟩ (ce_0)))))
abbrev cutX4_enclosed : List (Nat × List Nat) := []
set_option maxRecDepth 20000 in
set_option maxHeartbeats 4000000 in
theorem lbX4_enclosed_0 {G : Nat → LV → List Value → aS → Prop} {post : Option Value → aS → Prop} (hG : ∀ n b pc lv st σ, seg (0, fun _ => 0) pgX4_enclosed ceX4_enclosed cutX4_enclosed G (fun v σ => rFit (some .long) v ∧ post v σ) n b pc lv st σ → G pc lv st σ) (c : MS) (u : Nat → aE) (M : aS) (a : Int32) (b : Int32) (d : Int32) (hb : bX4_enclosed_0 c a b d (fun x X => rFit (some .long) (some (.long x)) ∧ post (some (.long x)) (pre20 u ++ (wM X ++ M))) ) : G 0 [(0, .ref 20), (1, .int a), (2, .int b), (3, .int d)] [] (pre20 u ++ (wM c ++ M)) := by
  unfold bX4_enclosed_0 at hb
  refine hG 400 false 0 _ _ _ ?_
  refine Exists.intro (msetI c 0 (0 : Int32)) (Exists.intro u (Exists.intro M ((And.intro rfl (mnX4_isBox ?_ hb)))))
  intro r1 X1 _ hb
  refine And.intro (fun (h : r1 = 0) => ?_) (fun (h : ¬ r1 = 0) => ?_)
  · rw [if_pos h] at hb
    exact hb
  · rw [if_neg h] at hb
    refine Exists.intro X1 (Exists.intro u (Exists.intro M ((And.intro rfl (mnX4_isNode ?_ hb)))))
    intro r2 X2 _ hb
    refine And.intro (fun (h : r2 = 0) => ?_) (fun (h : ¬ r2 = 0) => ?_)
    · rw [if_pos h] at hb
      exact hb
    · rw [if_neg h] at hb
      refine And.intro trivial (mnX4_in ?_ hb)
      intro r3 _ hb
      refine And.intro (fun (h : ¬ r3 = 0) => ?_) (fun hq => have h : r3 = 0 := Classical.not_not.mp hq; ?_)
      · rw [if_neg h] at hb
        refine Exists.intro X2 (Exists.intro u (Exists.intro M ((And.intro rfl (mnX4_encloseTo ?_ hb)))))
        intro  X4 hb
        refine And.intro (fun (h : ¬ d = 0) => ?_) (fun hq => have h : d = 0 := Classical.not_not.mp hq; ?_)
        · rw [if_neg h] at hb
          obtain ⟨hi, hb⟩ := hb
          refine And.intro hi ?_
          refine And.intro trivial (mnX4_bits ?_ hb)
          intro r5 hb
          exact hb
        · rw [if_pos h] at hb
          obtain ⟨hi, hb⟩ := hb
          refine And.intro hi ?_
          refine And.intro trivial (mnX4_bits ?_ hb)
          intro r6 hb
          exact hb
      · rw [if_pos h] at hb
        exact hb
theorem rcX4_enclosed : ∀ as σ kk, tX4_enclosed as σ kk → ∃ a r fs, as = .ref a :: r ∧ σ[a]? = some (.inr (3, fs)) := by
  intro as σ kk h
  unfold tX4_enclosed at h; split at h
  · obtain ⟨c, u, M, rfl, -⟩ := h
    exact ⟨_, _, _, rfl, rfl⟩
  · exact h.elim
set_option maxRecDepth 20000 in
theorem okX4_enclosed (l : Launch) : OK l yX4_enclosed cX4_enclosed 4 (some .long) 9 tX4_enclosed := by
  intro D τ ρ A as σ post h
  unfold tX4_enclosed at h; split at h
  · rename_i a b d; obtain ⟨c, u, M, rfl, hw⟩ := h
    refine met_of (P := pgX4_enclosed) (CE := ceX4_enclosed) (cut := cutX4_enclosed) (by decide) kkX4_enclosed (coX4_enclosed l) (Nat.le_of_ble_eq_true rfl) ?_
    intro G hG
    unfold wX4_enclosed at hw
    refine lbX4_enclosed_0 hG c u M a b d (mbX4_enclosed_0 ?_  hw)
    · exact fun _ _ h => ⟨trivial, h⟩
  · exact h.elim
def bX4_isIn_0 (c : MS) (a : Int32) (b : UInt64) (d : UInt64) (e : UInt64) (kr : Int32 → MS → Prop) (kc6 : Int32 → UInt64 → UInt64 → UInt64 → Int32 → Int32 → MS → Prop) : Prop :=
  kc6 a b d e (1 : Int32) (0 : Int32) c
def bX4_isIn_6 (c : MS) (a : Int32) (b : UInt64) (d : UInt64) (e : UInt64) (l8 : Int32) (l9 : Int32) (kr : Int32 → MS → Prop) (kc6 : Int32 → UInt64 → UInt64 → UInt64 → Int32 → Int32 → MS → Prop) : Prop :=
  (if (c.1 1) ≤ l9 then
    ((l8 = 0 ∨ l8 = 1) ∧ kr l8 c)
  else
    (if l9 = 0 then
      (if l8 = 0 then
        kc6 a b d e (0 : Int32) (l9 + (1 : Int32)) c
      else
        (vp_in (((3 : Int32) * a) + l9) 300 ∧ (if (Op.cmpValue (FP.dcmp b (c.2.2 28 (((3 : Int32) * a) + l9).toNatClampNeg)) .l) < 0 then
          kc6 a b d e (0 : Int32) (l9 + (1 : Int32)) c
        else
          (vp_in (((3 : Int32) * a) + l9) 300 ∧ (if 0 < (Op.cmpValue (FP.dcmp b (c.2.2 29 (((3 : Int32) * a) + l9).toNatClampNeg)) .g) then
            kc6 a b d e (0 : Int32) (l9 + (1 : Int32)) c
          else
            kc6 a b d e (1 : Int32) (l9 + (1 : Int32)) c)))))
    else
      (if l9 = (1 : Int32) then
        (if l8 = 0 then
          kc6 a b d e (0 : Int32) (l9 + (1 : Int32)) c
        else
          (vp_in (((3 : Int32) * a) + l9) 300 ∧ (if (Op.cmpValue (FP.dcmp d (c.2.2 28 (((3 : Int32) * a) + l9).toNatClampNeg)) .l) < 0 then
            kc6 a b d e (0 : Int32) (l9 + (1 : Int32)) c
          else
            (vp_in (((3 : Int32) * a) + l9) 300 ∧ (if 0 < (Op.cmpValue (FP.dcmp d (c.2.2 29 (((3 : Int32) * a) + l9).toNatClampNeg)) .g) then
              kc6 a b d e (0 : Int32) (l9 + (1 : Int32)) c
            else
              kc6 a b d e (1 : Int32) (l9 + (1 : Int32)) c)))))
      else
        (if l8 = 0 then
          kc6 a b d e (0 : Int32) (l9 + (1 : Int32)) c
        else
          (vp_in (((3 : Int32) * a) + l9) 300 ∧ (if (Op.cmpValue (FP.dcmp e (c.2.2 28 (((3 : Int32) * a) + l9).toNatClampNeg)) .l) < 0 then
            kc6 a b d e (0 : Int32) (l9 + (1 : Int32)) c
          else
            (vp_in (((3 : Int32) * a) + l9) 300 ∧ (if 0 < (Op.cmpValue (FP.dcmp e (c.2.2 29 (((3 : Int32) * a) + l9).toNatClampNeg)) .g) then
              kc6 a b d e (0 : Int32) (l9 + (1 : Int32)) c
            else
              kc6 a b d e (1 : Int32) (l9 + (1 : Int32)) c))))))))
set_option maxRecDepth 20000 in
theorem mbX4_isIn_0 {c : MS} {a : Int32} {b : UInt64} {d : UInt64} {e : UInt64} {kr kq : Int32 → MS → Prop} {kc6 kd6 : Int32 → UInt64 → UInt64 → UInt64 → Int32 → Int32 → MS → Prop} (hr : ∀ x X, (x = 0 ∨ x = 1) → kr x X → kq x X) (hc6 : ∀ z1 z2 z4 z6 z8 z9 X, kc6 z1 z2 z4 z6 z8 z9 X → kd6 z1 z2 z4 z6 z8 z9 X) (h : bX4_isIn_0 c a b d e kr kc6) : bX4_isIn_0 c a b d e kq kd6 := by
  unfold bX4_isIn_0 at h ⊢
  exact hc6 _ _ _ _ _ _ _ h
set_option maxRecDepth 20000 in
theorem mbX4_isIn_6 {c : MS} {a : Int32} {b : UInt64} {d : UInt64} {e : UInt64} {l8 : Int32} {l9 : Int32} {kr kq : Int32 → MS → Prop} {kc6 kd6 : Int32 → UInt64 → UInt64 → UInt64 → Int32 → Int32 → MS → Prop} (hr : ∀ x X, (x = 0 ∨ x = 1) → kr x X → kq x X) (hc6 : ∀ z1 z2 z4 z6 z8 z9 X, kc6 z1 z2 z4 z6 z8 z9 X → kd6 z1 z2 z4 z6 z8 z9 X) (h : bX4_isIn_6 c a b d e l8 l9 kr kc6) : bX4_isIn_6 c a b d e l8 l9 kq kd6 := by
  unfold bX4_isIn_6 at h ⊢
  by_cases hc : (c.1 1) ≤ l9
  · rw [if_pos hc] at h ⊢
    exact ⟨h.1, hr _ _ h.1 h.2⟩
  · rw [if_neg hc] at h ⊢
    by_cases hc : l9 = 0
    · rw [if_pos hc] at h ⊢
      by_cases hc : l8 = 0
      · rw [if_pos hc] at h ⊢
        exact hc6 _ _ _ _ _ _ _ h
      · rw [if_neg hc] at h ⊢
        obtain ⟨hi, h⟩ := h
        refine And.intro hi ?_
        by_cases hc : (Op.cmpValue (FP.dcmp b (c.2.2 28 (((3 : Int32) * a) + l9).toNatClampNeg)) .l) < 0
        · rw [if_pos hc] at h ⊢
          exact hc6 _ _ _ _ _ _ _ h
        · rw [if_neg hc] at h ⊢
          obtain ⟨hi, h⟩ := h
          refine And.intro hi ?_
          by_cases hc : 0 < (Op.cmpValue (FP.dcmp b (c.2.2 29 (((3 : Int32) * a) + l9).toNatClampNeg)) .g)
          · rw [if_pos hc] at h ⊢
            exact hc6 _ _ _ _ _ _ _ h
          · rw [if_neg hc] at h ⊢
            exact hc6 _ _ _ _ _ _ _ h
    · rw [if_neg hc] at h ⊢
      by_cases hc : l9 = (1 : Int32)
      · rw [if_pos hc] at h ⊢
        by_cases hc : l8 = 0
        · rw [if_pos hc] at h ⊢
          exact hc6 _ _ _ _ _ _ _ h
        · rw [if_neg hc] at h ⊢
          obtain ⟨hi, h⟩ := h
          refine And.intro hi ?_
          by_cases hc : (Op.cmpValue (FP.dcmp d (c.2.2 28 (((3 : Int32) * a) + l9).toNatClampNeg)) .l) < 0
          · rw [if_pos hc] at h ⊢
            exact hc6 _ _ _ _ _ _ _ h
          · rw [if_neg hc] at h ⊢
            obtain ⟨hi, h⟩ := h
            refine And.intro hi ?_
            by_cases hc : 0 < (Op.cmpValue (FP.dcmp d (c.2.2 29 (((3 : Int32) * a) + l9).toNatClampNeg)) .g)
            · rw [if_pos hc] at h ⊢
              exact hc6 _ _ _ _ _ _ _ h
            · rw [if_neg hc] at h ⊢
              exact hc6 _ _ _ _ _ _ _ h
      · rw [if_neg hc] at h ⊢
        by_cases hc : l8 = 0
        · rw [if_pos hc] at h ⊢
          exact hc6 _ _ _ _ _ _ _ h
        · rw [if_neg hc] at h ⊢
          obtain ⟨hi, h⟩ := h
          refine And.intro hi ?_
          by_cases hc : (Op.cmpValue (FP.dcmp e (c.2.2 28 (((3 : Int32) * a) + l9).toNatClampNeg)) .l) < 0
          · rw [if_pos hc] at h ⊢
            exact hc6 _ _ _ _ _ _ _ h
          · rw [if_neg hc] at h ⊢
            obtain ⟨hi, h⟩ := h
            refine And.intro hi ?_
            by_cases hc : 0 < (Op.cmpValue (FP.dcmp e (c.2.2 29 (((3 : Int32) * a) + l9).toNatClampNeg)) .g)
            · rw [if_pos hc] at h ⊢
              exact hc6 _ _ _ _ _ _ _ h
            · rw [if_neg hc] at h ⊢
              exact hc6 _ _ _ _ _ _ _ h
def itX4_isIn_6 (kr : Int32 → MS → Prop) : Nat → Int32 → UInt64 → UInt64 → UInt64 → Int32 → Int32 → MS → Prop
  | 0, _, _, _, _, _, _, _ => False
  | n + 1, a, b, d, e, l8, l9, c => bX4_isIn_6 c a b d e l8 l9 kr (fun z1 z2 z4 z6 z8 z9 X => itX4_isIn_6 kr n z1 z2 z4 z6 z8 z9 X)
theorem miX4_isIn_6 {kr kq : Int32 → MS → Prop} (hr : ∀ x X, (x = 0 ∨ x = 1) → kr x X → kq x X) : ∀ (n : Nat) (z1 : Int32) (z2 : UInt64) (z4 : UInt64) (z6 : UInt64) (z8 : Int32) (z9 : Int32) (X : MS), itX4_isIn_6 kr n z1 z2 z4 z6 z8 z9 X → itX4_isIn_6 kq n z1 z2 z4 z6 z8 z9 X
  | 0, _, _, _, _, _, _, _, h => h
  | n + 1, _, _, _, _, _, _, _, h => mbX4_isIn_6 hr (fun _ _ _ _ _ _ _ h => miX4_isIn_6 hr n _ _ _ _ _ _ _ h) h
def wX4_isIn (c : MS) (a : Int32) (b : UInt64) (d : UInt64) (e : UInt64) (kr : Int32 → MS → Prop) : Prop := bX4_isIn_0 c a b d e kr (fun z1 z2 z4 z6 z8 z9 X => ∃ N, itX4_isIn_6 kr N z1 z2 z4 z6 z8 z9 X)
theorem mnX4_isIn {c : MS} {a : Int32} {b : UInt64} {d : UInt64} {e : UInt64} {kr kq : Int32 → MS → Prop} (hr : ∀ x X, (x = 0 ∨ x = 1) → kr x X → kq x X) (h : wX4_isIn c a b d e kr) : wX4_isIn c a b d e kq := mbX4_isIn_0 hr (fun _ _ _ _ _ _ _ h => h.elim fun N h => ⟨N, miX4_isIn_6 hr N _ _ _ _ _ _ _ h⟩) h
def tX4_isIn : Tr := fun as σ k => match as with
  | [.ref 20, .int a, .double b, .double d, .double e] => ∃ (c : MS) (u : Nat → aE) (M : aS), σ = pre20 u ++ (wM c ++ M) ∧ wX4_isIn c a b d e (fun x X => k (some (.int x)) (pre20 u ++ (wM X ++ M)))
  | _ => False
def ceX4_isIn : List (Nat × Nat × Tr) := []
theorem coX4_isIn (l : Launch) : CEok l yX4_isIn.cls 0 ceX4_isIn := ce_0
abbrev cutX4_isIn : List (Nat × List Nat) := [(6, [0, 1, 2, 4, 6, 8, 9])]
set_option maxRecDepth 20000 in
set_option maxHeartbeats 4000000 in
theorem lbX4_isIn_0 {G : Nat → LV → List Value → aS → Prop} {post : Option Value → aS → Prop} (hG : ∀ n b pc lv st σ, seg (0, fun _ => 0) pgX4_isIn ceX4_isIn cutX4_isIn G (fun v σ => rFit (some .boolean) v ∧ post v σ) n b pc lv st σ → G pc lv st σ) (c : MS) (u : Nat → aE) (M : aS) (a : Int32) (b : UInt64) (d : UInt64) (e : UInt64) (hb : bX4_isIn_0 c a b d e (fun x X => rFit (some .boolean) (some (.int x)) ∧ post (some (.int x)) (pre20 u ++ (wM X ++ M))) (fun z1 z2 z4 z6 z8 z9 X => G 6 [(0, .ref 20), (1, .int z1), (2, .double z2), (4, .double z4), (6, .double z6), (8, .int z8), (9, .int z9)] [] (pre20 u ++ (wM X ++ M)))) : G 0 [(0, .ref 20), (1, .int a), (2, .double b), (4, .double d), (6, .double e)] [] (pre20 u ++ (wM c ++ M)) := by
  unfold bX4_isIn_0 at hb
  refine hG 400 false 0 _ _ _ ?_
  exact hb
set_option maxRecDepth 20000 in
set_option maxHeartbeats 4000000 in
theorem lbX4_isIn_6 {G : Nat → LV → List Value → aS → Prop} {post : Option Value → aS → Prop} (hG : ∀ n b pc lv st σ, seg (0, fun _ => 0) pgX4_isIn ceX4_isIn cutX4_isIn G (fun v σ => rFit (some .boolean) v ∧ post v σ) n b pc lv st σ → G pc lv st σ) (c : MS) (u : Nat → aE) (M : aS) (a : Int32) (b : UInt64) (d : UInt64) (e : UInt64) (l8 : Int32) (l9 : Int32) (hb : bX4_isIn_6 c a b d e l8 l9 (fun x X => rFit (some .boolean) (some (.int x)) ∧ post (some (.int x)) (pre20 u ++ (wM X ++ M))) (fun z1 z2 z4 z6 z8 z9 X => G 6 [(0, .ref 20), (1, .int z1), (2, .double z2), (4, .double z4), (6, .double z6), (8, .int z8), (9, .int z9)] [] (pre20 u ++ (wM X ++ M)))) : G 6 [(0, .ref 20), (1, .int a), (2, .double b), (4, .double d), (6, .double e), (8, .int l8), (9, .int l9)] [] (pre20 u ++ (wM c ++ M)) := by
  unfold bX4_isIn_6 at hb
  refine hG 400 false 6 _ _ _ ?_
  refine And.intro (fun (h : (c.1 1) ≤ l9) => ?_) (fun (h : ¬ (c.1 1) ≤ l9) => ?_)
  · rw [if_pos h] at hb
    exact hb.2
  · rw [if_neg h] at hb
    refine And.intro (fun (h : ¬ l9 = 0) => ?_) (fun hq => have h : l9 = 0 := Classical.not_not.mp hq; ?_)
    · rw [if_neg h] at hb
      refine And.intro (fun (h : ¬ l9 = (1 : Int32)) => ?_) (fun hq => have h : l9 = (1 : Int32) := Classical.not_not.mp hq; ?_)
      · rw [if_neg h] at hb
        refine And.intro (fun (h : l8 = 0) => ?_) (fun (h : ¬ l8 = 0) => ?_)
        · rw [if_pos h] at hb
          exact hb
        · rw [if_neg h] at hb
          obtain ⟨hi, hb⟩ := hb
          refine And.intro hi ?_
          refine And.intro (fun (h : (Op.cmpValue (FP.dcmp e (c.2.2 28 (((3 : Int32) * a) + l9).toNatClampNeg)) .l) < 0) => ?_) (fun (h : ¬ (Op.cmpValue (FP.dcmp e (c.2.2 28 (((3 : Int32) * a) + l9).toNatClampNeg)) .l) < 0) => ?_)
          · rw [if_pos h] at hb
            exact hb
          · rw [if_neg h] at hb
            obtain ⟨hi, hb⟩ := hb
            refine And.intro hi ?_
            refine And.intro (fun (h : 0 < (Op.cmpValue (FP.dcmp e (c.2.2 29 (((3 : Int32) * a) + l9).toNatClampNeg)) .g)) => ?_) (fun (h : ¬ 0 < (Op.cmpValue (FP.dcmp e (c.2.2 29 (((3 : Int32) * a) + l9).toNatClampNeg)) .g)) => ?_)
            · rw [if_pos h] at hb
              exact hb
            · rw [if_neg h] at hb
              exact hb
      · rw [if_pos h] at hb
        refine And.intro (fun (h : l8 = 0) => ?_) (fun (h : ¬ l8 = 0) => ?_)
        · rw [if_pos h] at hb
          exact hb
        · rw [if_neg h] at hb
          obtain ⟨hi, hb⟩ := hb
          refine And.intro hi ?_
          refine And.intro (fun (h : (Op.cmpValue (FP.dcmp d (c.2.2 28 (((3 : Int32) * a) + l9).toNatClampNeg)) .l) < 0) => ?_) (fun (h : ¬ (Op.cmpValue (FP.dcmp d (c.2.2 28 (((3 : Int32) * a) + l9).toNatClampNeg)) .l) < 0) => ?_)
          · rw [if_pos h] at hb
            exact hb
          · rw [if_neg h] at hb
            obtain ⟨hi, hb⟩ := hb
            refine And.intro hi ?_
            refine And.intro (fun (h : 0 < (Op.cmpValue (FP.dcmp d (c.2.2 29 (((3 : Int32) * a) + l9).toNatClampNeg)) .g)) => ?_) (fun (h : ¬ 0 < (Op.cmpValue (FP.dcmp d (c.2.2 29 (((3 : Int32) * a) + l9).toNatClampNeg)) .g)) => ?_)
            · rw [if_pos h] at hb
              exact hb
            · rw [if_neg h] at hb
              exact hb
    · rw [if_pos h] at hb
      refine And.intro (fun (h : l8 = 0) => ?_) (fun (h : ¬ l8 = 0) => ?_)
      · rw [if_pos h] at hb
        exact hb
      · rw [if_neg h] at hb
        obtain ⟨hi, hb⟩ := hb
        refine And.intro hi ?_
        refine And.intro (fun (h : (Op.cmpValue (FP.dcmp b (c.2.2 28 (((3 : Int32) * a) + l9).toNatClampNeg)) .l) < 0) => ?_) (fun (h : ¬ (Op.cmpValue (FP.dcmp b (c.2.2 28 (((3 : Int32) * a) + l9).toNatClampNeg)) .l) < 0) => ?_)
        · rw [if_pos h] at hb
          exact hb
        · rw [if_neg h] at hb
          obtain ⟨hi, hb⟩ := hb
          refine And.intro hi ?_
          refine And.intro (fun (h : 0 < (Op.cmpValue (FP.dcmp b (c.2.2 29 (((3 : Int32) * a) + l9).toNatClampNeg)) .g)) => ?_) (fun (h : ¬ 0 < (Op.cmpValue (FP.dcmp b (c.2.2 29 (((3 : Int32) * a) + l9).toNatClampNeg)) .g)) => ?_)
          · rw [if_pos h] at hb
            exact hb
          · rw [if_neg h] at hb
            exact hb
theorem giX4_isIn_6 {G : Nat → LV → List Value → aS → Prop} {post : Option Value → aS → Prop} (hG : ∀ n b pc lv st σ, seg (0, fun _ => 0) pgX4_isIn ceX4_isIn cutX4_isIn G (fun v σ => rFit (some .boolean) v ∧ post v σ) n b pc lv st σ → G pc lv st σ) (u : Nat → aE) (M : aS) : ∀ (n : Nat) (z1 : Int32) (z2 : UInt64) (z4 : UInt64) (z6 : UInt64) (z8 : Int32) (z9 : Int32) (X : MS), itX4_isIn_6 (fun x X => rFit (some .boolean) (some (.int x)) ∧ post (some (.int x)) (pre20 u ++ (wM X ++ M))) n z1 z2 z4 z6 z8 z9 X → G 6 [(0, .ref 20), (1, .int z1), (2, .double z2), (4, .double z4), (6, .double z6), (8, .int z8), (9, .int z9)] [] (pre20 u ++ (wM X ++ M))
  | 0, _, _, _, _, _, _, _, h => h.elim
  | n + 1, _, _, _, _, _, _, _, h => lbX4_isIn_6 hG _ u M _ _ _ _ _ _ (mbX4_isIn_6 (fun _ _ _ h => h) (fun _ _ _ _ _ _ _ h => giX4_isIn_6 hG u M n _ _ _ _ _ _ _ h) h)
theorem rcX4_isIn : ∀ as σ kk, tX4_isIn as σ kk → ∃ a r fs, as = .ref a :: r ∧ σ[a]? = some (.inr (3, fs)) := by
  intro as σ kk h
  unfold tX4_isIn at h; split at h
  · obtain ⟨c, u, M, rfl, -⟩ := h
    exact ⟨_, _, _, rfl, rfl⟩
  · exact h.elim
set_option maxRecDepth 20000 in
theorem okX4_isIn (l : Launch) : OK l yX4_isIn cX4_isIn 12 (some .boolean) 0 tX4_isIn := by
  intro D τ ρ A as σ post h
  unfold tX4_isIn at h; split at h
  · rename_i a b d e; obtain ⟨c, u, M, rfl, hw⟩ := h
    refine met_of (P := pgX4_isIn) (CE := ceX4_isIn) (cut := cutX4_isIn) (by decide) kkX4_isIn (coX4_isIn l) (Nat.le_of_ble_eq_true rfl) ?_
    intro G hG
    unfold wX4_isIn at hw
    refine lbX4_isIn_0 hG c u M a b d e (mbX4_isIn_0 ?_ ?_ hw)
    · exact fun _ _ hf h => ⟨hf, h⟩
    · intro _ _ _ _ _ _ _ ⟨N, h⟩; exact giX4_isIn_6 hG u M N _ _ _ _ _ _ _ (miX4_isIn_6 (fun _ _ hf h => ⟨hf, h⟩) N _ _ _ _ _ _ _ h)
  · exact h.elim
def bX4_within_0 (c : MS) (a : Int32) (b : Int32) (d : Int64) (e : Int64) (f : Int64) (kr : Int32 → MS → Prop)  : Prop :=
  (wX4_isBox (msetI c 0 (0 : Int32)) a (fun r1 X1 => (if r1 = 0 then
    kr (-1 : Int32) X1
  else
    (wX4_isNode X1 b (fun r2 X2 => (if r2 = 0 then
      kr (-1 : Int32) X2
    else
      (wX4_of d (fun r3 => (wX4_of e (fun r4 => (wX4_of f (fun r5 => (wX4_isIn X2 a r3 r4 r5 (fun r6 X6 => (if r6 = 0 then
        kr (0 : Int32) X6
      else
        (wX4_of d (fun r7 => (wX4_of e (fun r8 => (wX4_of f (fun r9 => (wX4_valueAt X6 b r7 r8 r9 (fun r10 X10 => (wX4_encloseTo X10 b a (fun  X11 => (wX4_isNot r10 (fun r12 => (if r12 = 0 then
          (vp_in b 32 ∧ (if (Op.cmpValue (FP.dcmp r10 (X11.2.2 34 b.toNatClampNeg)) .l) < 0 then
            kr (1 : Int32) X11
          else
            (vp_in b 32 ∧ (if 0 < (Op.cmpValue (FP.dcmp r10 (X11.2.2 35 b.toNatClampNeg)) .g) then
              kr (1 : Int32) X11
            else
              kr (2 : Int32) X11))))
        else
          kr (2 : Int32) X11))))))))))))))))))))))))))))
set_option maxRecDepth 20000 in
theorem mbX4_within_0 {c : MS} {a : Int32} {b : Int32} {d : Int64} {e : Int64} {f : Int64} {kr kq : Int32 → MS → Prop}  (hr : ∀ x X, kr x X → kq x X)  (h : bX4_within_0 c a b d e f kr ) : bX4_within_0 c a b d e f kq  := by
  unfold bX4_within_0 at h ⊢
  refine mnX4_isBox ?_ h
  intro r1 X1 _ h
  by_cases hc : r1 = 0
  · rw [if_pos hc] at h ⊢
    exact hr _ _ h
  · rw [if_neg hc] at h ⊢
    refine mnX4_isNode ?_ h
    intro r2 X2 _ h
    by_cases hc : r2 = 0
    · rw [if_pos hc] at h ⊢
      exact hr _ _ h
    · rw [if_neg hc] at h ⊢
      refine mnX4_of ?_ h
      intro r3 h
      refine mnX4_of ?_ h
      intro r4 h
      refine mnX4_of ?_ h
      intro r5 h
      refine mnX4_isIn ?_ h
      intro r6 X6 _ h
      by_cases hc : r6 = 0
      · rw [if_pos hc] at h ⊢
        exact hr _ _ h
      · rw [if_neg hc] at h ⊢
        refine mnX4_of ?_ h
        intro r7 h
        refine mnX4_of ?_ h
        intro r8 h
        refine mnX4_of ?_ h
        intro r9 h
        refine mnX4_valueAt ?_ h
        intro r10 X10 h
        refine mnX4_encloseTo ?_ h
        intro  X11 h
        refine mnX4_isNot ?_ h
        intro r12 _ h
        by_cases hc : r12 = 0
        · rw [if_pos hc] at h ⊢
          obtain ⟨hi, h⟩ := h
          refine And.intro hi ?_
          by_cases hc : (Op.cmpValue (FP.dcmp r10 (X11.2.2 34 b.toNatClampNeg)) .l) < 0
          · rw [if_pos hc] at h ⊢
            exact hr _ _ h
          · rw [if_neg hc] at h ⊢
            obtain ⟨hi, h⟩ := h
            refine And.intro hi ?_
            by_cases hc : 0 < (Op.cmpValue (FP.dcmp r10 (X11.2.2 35 b.toNatClampNeg)) .g)
            · rw [if_pos hc] at h ⊢
              exact hr _ _ h
            · rw [if_neg hc] at h ⊢
              exact hr _ _ h
        · rw [if_neg hc] at h ⊢
          exact hr _ _ h
def wX4_within (c : MS) (a : Int32) (b : Int32) (d : Int64) (e : Int64) (f : Int64) (kr : Int32 → MS → Prop) : Prop := bX4_within_0 c a b d e f kr 
theorem mnX4_within {c : MS} {a : Int32} {b : Int32} {d : Int64} {e : Int64} {f : Int64} {kr kq : Int32 → MS → Prop} (hr : ∀ x X, kr x X → kq x X) (h : wX4_within c a b d e f kr) : wX4_within c a b d e f kq := mbX4_within_0 hr  h
def tX4_within : Tr := fun as σ k => match as with
  | [.ref 20, .int a, .int b, .long d, .long e, .long f] => ∃ (c : MS) (u : Nat → aE) (M : aS), σ = pre20 u ++ (wM c ++ M) ∧ wX4_within c a b d e f (fun x X => k (some (.int x)) (pre20 u ++ (wM X ++ M)))
  | _ => False
def ceX4_within : List (Nat × Nat × Tr) := (2 * 230 + 1, 1 + 1, tX4_isBox) :: (2 * 133 + 1, 1 + 1, tX4_isNode) :: (2 * 78, 1, tX4_of) :: (2 * 233 + 1, 4 + 1, tX4_isIn) :: (2 * 171 + 1, 4 + 1, tX4_valueAt) :: (2 * 199 + 1, 2 + 1, tX4_encloseTo) :: (2 * 237, 1, tX4_isNot) :: []
theorem coX4_within (l : Launch) : CEok l yX4_within.cls 9 ceX4_within := ce_V (ci := 3) (n := 1) rfl (okX4_isBox l) rcX4_isBox (mw 880 (by decide +kernel) rfl) (mw 882 (by decide +kernel) rfl) (ms 31 (by decide +kernel) rfl) (mw 4 (by decide +kernel) rfl) (mw 883 (by decide +kernel) rfl) rfl (by decide) ⟨by decide, by decide⟩ (ce_V (ci := 3) (n := 1) rfl (okX4_isNode l) rcX4_isNode (mw 729 (by decide +kernel) rfl) (mw 731 (by decide +kernel) rfl) (ms 17 (by decide +kernel) rfl) (mw 4 (by decide +kernel) rfl) (mw 732 (by decide +kernel) rfl) rfl (by decide) ⟨by decide, by decide⟩ (ce_S (okX4_of l) (mw 707 (by decide +kernel) rfl) (mw 708 (by decide +kernel) rfl) (mw 4 (by decide +kernel) rfl) (mw 709 (by decide +kernel) rfl) (by decide) ⟨by decide, by decide⟩ (ce_V (ci := 3) (n := 4) rfl (okX4_isIn l) rcX4_isIn (mw 900 (by decide +kernel) rfl) (mw 902 (by decide +kernel) rfl) (ms 32 (by decide +kernel) rfl) (mw 4 (by decide +kernel) rfl) (mw 903 (by decide +kernel) rfl) rfl (by decide) ⟨by decide, by decide⟩ (ce_V (ci := 3) (n := 4) rfl (okX4_valueAt l) rcX4_valueAt (mw 744 (by decide +kernel) rfl) (mw 746 (by decide +kernel) rfl) (ms 18 (by decide +kernel) rfl) (mw 4 (by decide +kernel) rfl) (mw 747 (by decide +kernel) rfl) rfl (by decide) ⟨by decide, by decide⟩ (ce_V (ci := 3) (n := 2) rfl (okX4_encloseTo l) rcX4_encloseTo (mw 815 (by decide +kernel) rfl) (mw 817 (by decide +kernel) rfl) (ms 21 (by decide +kernel) rfl) (mw 4 (by decide +kernel) rfl) (mw 818 (by decide +kernel) rfl) rfl (by decide) ⟨by decide, by decide⟩ (ce_S (okX4_isNot l) (mw 904 (by decide +kernel) rfl) (mw 905 (by decide +kernel) rfl) (mw 4 (by decide +kernel) rfl) (mw 906 (by decide +kernel) rfl) (by decide) ⟨by decide, by decide⟩ (ce_0)))))))
abbrev cutX4_within : List (Nat × List Nat) := []
set_option maxRecDepth 20000 in
set_option maxHeartbeats 4000000 in
theorem lbX4_within_0 {G : Nat → LV → List Value → aS → Prop} {post : Option Value → aS → Prop} (hG : ∀ n b pc lv st σ, seg (0, fun _ => 0) pgX4_within ceX4_within cutX4_within G (fun v σ => rFit (some .int) v ∧ post v σ) n b pc lv st σ → G pc lv st σ) (c : MS) (u : Nat → aE) (M : aS) (a : Int32) (b : Int32) (d : Int64) (e : Int64) (f : Int64) (hb : bX4_within_0 c a b d e f (fun x X => rFit (some .int) (some (.int x)) ∧ post (some (.int x)) (pre20 u ++ (wM X ++ M))) ) : G 0 [(0, .ref 20), (1, .int a), (2, .int b), (3, .long d), (5, .long e), (7, .long f)] [] (pre20 u ++ (wM c ++ M)) := by
  unfold bX4_within_0 at hb
  refine hG 400 false 0 _ _ _ ?_
  refine Exists.intro (msetI c 0 (0 : Int32)) (Exists.intro u (Exists.intro M ((And.intro rfl (mnX4_isBox ?_ hb)))))
  intro r1 X1 _ hb
  refine And.intro (fun (h : r1 = 0) => ?_) (fun (h : ¬ r1 = 0) => ?_)
  · rw [if_pos h] at hb
    exact hb
  · rw [if_neg h] at hb
    refine Exists.intro X1 (Exists.intro u (Exists.intro M ((And.intro rfl (mnX4_isNode ?_ hb)))))
    intro r2 X2 _ hb
    refine And.intro (fun (h : ¬ r2 = 0) => ?_) (fun hq => have h : r2 = 0 := Classical.not_not.mp hq; ?_)
    · rw [if_neg h] at hb
      refine And.intro trivial (mnX4_of ?_ hb)
      intro r3 hb
      refine And.intro trivial (mnX4_of ?_ hb)
      intro r4 hb
      refine And.intro trivial (mnX4_of ?_ hb)
      intro r5 hb
      refine Exists.intro X2 (Exists.intro u (Exists.intro M ((And.intro rfl (mnX4_isIn ?_ hb)))))
      intro r6 X6 _ hb
      refine And.intro (fun (h : ¬ r6 = 0) => ?_) (fun hq => have h : r6 = 0 := Classical.not_not.mp hq; ?_)
      · rw [if_neg h] at hb
        refine And.intro trivial (mnX4_of ?_ hb)
        intro r7 hb
        refine And.intro trivial (mnX4_of ?_ hb)
        intro r8 hb
        refine And.intro trivial (mnX4_of ?_ hb)
        intro r9 hb
        refine Exists.intro X6 (Exists.intro u (Exists.intro M ((And.intro rfl (mnX4_valueAt ?_ hb)))))
        intro r10 X10 hb
        refine Exists.intro X10 (Exists.intro u (Exists.intro M ((And.intro rfl (mnX4_encloseTo ?_ hb)))))
        intro  X11 hb
        refine And.intro trivial (mnX4_isNot ?_ hb)
        intro r12 _ hb
        refine And.intro (fun (h : ¬ r12 = 0) => ?_) (fun hq => have h : r12 = 0 := Classical.not_not.mp hq; ?_)
        · rw [if_neg h] at hb
          exact hb
        · rw [if_pos h] at hb
          obtain ⟨hi, hb⟩ := hb
          refine And.intro hi ?_
          refine And.intro (fun (h : (Op.cmpValue (FP.dcmp r10 (X11.2.2 34 b.toNatClampNeg)) .l) < 0) => ?_) (fun (h : ¬ (Op.cmpValue (FP.dcmp r10 (X11.2.2 34 b.toNatClampNeg)) .l) < 0) => ?_)
          · rw [if_pos h] at hb
            exact hb
          · rw [if_neg h] at hb
            obtain ⟨hi, hb⟩ := hb
            refine And.intro hi ?_
            refine And.intro (fun (h : 0 < (Op.cmpValue (FP.dcmp r10 (X11.2.2 35 b.toNatClampNeg)) .g)) => ?_) (fun (h : ¬ 0 < (Op.cmpValue (FP.dcmp r10 (X11.2.2 35 b.toNatClampNeg)) .g)) => ?_)
            · rw [if_pos h] at hb
              exact hb
            · rw [if_neg h] at hb
              exact hb
      · rw [if_pos h] at hb
        exact hb
    · rw [if_pos h] at hb
      exact hb
theorem rcX4_within : ∀ as σ kk, tX4_within as σ kk → ∃ a r fs, as = .ref a :: r ∧ σ[a]? = some (.inr (3, fs)) := by
  intro as σ kk h
  unfold tX4_within at h; split at h
  · obtain ⟨c, u, M, rfl, -⟩ := h
    exact ⟨_, _, _, rfl, rfl⟩
  · exact h.elim
set_option maxRecDepth 20000 in
theorem okX4_within (l : Launch) : OK l yX4_within cX4_within 11 (some .int) 9 tX4_within := by
  intro D τ ρ A as σ post h
  unfold tX4_within at h; split at h
  · rename_i a b d e f; obtain ⟨c, u, M, rfl, hw⟩ := h
    refine met_of (P := pgX4_within) (CE := ceX4_within) (cut := cutX4_within) (by decide) kkX4_within (coX4_within l) (Nat.le_of_ble_eq_true rfl) ?_
    intro G hG
    unfold wX4_within at hw
    refine lbX4_within_0 hG c u M a b d e f (mbX4_within_0 ?_  hw)
    · exact fun _ _ h => ⟨trivial, h⟩
  · exact h.elim
def bX4_where_0 (c : MS) (a : Int64) (b : Int64) (d : Int64) (kr : Int32 → MS → Prop) (kc8 : Int64 → Int64 → Int64 → Int32 → MS → Prop) : Prop :=
  kc8 a b d (0 : Int32) (msetI c 0 (0 : Int32))
def bX4_where_8 (c : MS) (a : Int64) (b : Int64) (d : Int64) (l7 : Int32) (kr : Int32 → MS → Prop) (kc8 : Int64 → Int64 → Int64 → Int32 → MS → Prop) : Prop :=
  (if (c.1 4) ≤ l7 then
    kr (-5 : Int32) c
  else
    (wX4_of a (fun r1 => (wX4_of b (fun r2 => (wX4_of d (fun r3 => (wX4_isIn c l7 r1 r2 r3 (fun r4 X4 => (if r4 = 0 then
      kc8 a b d (l7 + (1 : Int32)) X4
    else
      kr l7 X4))))))))))
set_option maxRecDepth 20000 in
theorem mbX4_where_0 {c : MS} {a : Int64} {b : Int64} {d : Int64} {kr kq : Int32 → MS → Prop} {kc8 kd8 : Int64 → Int64 → Int64 → Int32 → MS → Prop} (hr : ∀ x X, kr x X → kq x X) (hc8 : ∀ z1 z3 z5 z7 X, kc8 z1 z3 z5 z7 X → kd8 z1 z3 z5 z7 X) (h : bX4_where_0 c a b d kr kc8) : bX4_where_0 c a b d kq kd8 := by
  unfold bX4_where_0 at h ⊢
  exact hc8 _ _ _ _ _ h
set_option maxRecDepth 20000 in
theorem mbX4_where_8 {c : MS} {a : Int64} {b : Int64} {d : Int64} {l7 : Int32} {kr kq : Int32 → MS → Prop} {kc8 kd8 : Int64 → Int64 → Int64 → Int32 → MS → Prop} (hr : ∀ x X, kr x X → kq x X) (hc8 : ∀ z1 z3 z5 z7 X, kc8 z1 z3 z5 z7 X → kd8 z1 z3 z5 z7 X) (h : bX4_where_8 c a b d l7 kr kc8) : bX4_where_8 c a b d l7 kq kd8 := by
  unfold bX4_where_8 at h ⊢
  by_cases hc : (c.1 4) ≤ l7
  · rw [if_pos hc] at h ⊢
    exact hr _ _ h
  · rw [if_neg hc] at h ⊢
    refine mnX4_of ?_ h
    intro r1 h
    refine mnX4_of ?_ h
    intro r2 h
    refine mnX4_of ?_ h
    intro r3 h
    refine mnX4_isIn ?_ h
    intro r4 X4 _ h
    by_cases hc : r4 = 0
    · rw [if_pos hc] at h ⊢
      exact hc8 _ _ _ _ _ h
    · rw [if_neg hc] at h ⊢
      exact hr _ _ h
def itX4_where_8 (kr : Int32 → MS → Prop) : Nat → Int64 → Int64 → Int64 → Int32 → MS → Prop
  | 0, _, _, _, _, _ => False
  | n + 1, a, b, d, l7, c => bX4_where_8 c a b d l7 kr (fun z1 z3 z5 z7 X => itX4_where_8 kr n z1 z3 z5 z7 X)
theorem miX4_where_8 {kr kq : Int32 → MS → Prop} (hr : ∀ x X, kr x X → kq x X) : ∀ (n : Nat) (z1 : Int64) (z3 : Int64) (z5 : Int64) (z7 : Int32) (X : MS), itX4_where_8 kr n z1 z3 z5 z7 X → itX4_where_8 kq n z1 z3 z5 z7 X
  | 0, _, _, _, _, _, h => h
  | n + 1, _, _, _, _, _, h => mbX4_where_8 hr (fun _ _ _ _ _ h => miX4_where_8 hr n _ _ _ _ _ h) h
def wX4_where (c : MS) (a : Int64) (b : Int64) (d : Int64) (kr : Int32 → MS → Prop) : Prop := bX4_where_0 c a b d kr (fun z1 z3 z5 z7 X => ∃ N, itX4_where_8 kr N z1 z3 z5 z7 X)
theorem mnX4_where {c : MS} {a : Int64} {b : Int64} {d : Int64} {kr kq : Int32 → MS → Prop} (hr : ∀ x X, kr x X → kq x X) (h : wX4_where c a b d kr) : wX4_where c a b d kq := mbX4_where_0 hr (fun _ _ _ _ _ h => h.elim fun N h => ⟨N, miX4_where_8 hr N _ _ _ _ _ h⟩) h
def tX4_where : Tr := fun as σ k => match as with
  | [.ref 20, .long a, .long b, .long d] => ∃ (c : MS) (u : Nat → aE) (M : aS), σ = pre20 u ++ (wM c ++ M) ∧ wX4_where c a b d (fun x X => k (some (.int x)) (pre20 u ++ (wM X ++ M)))
  | _ => False
def ceX4_where : List (Nat × Nat × Tr) := (2 * 78, 1, tX4_of) :: (2 * 233 + 1, 4 + 1, tX4_isIn) :: []
theorem coX4_where (l : Launch) : CEok l yX4_where.cls 2 ceX4_where := ce_S (okX4_of l) (mw 707 (by decide +kernel) rfl) (mw 708 (by decide +kernel) rfl) (mw 4 (by decide +kernel) rfl) (mw 709 (by decide +kernel) rfl) (by decide) ⟨by decide, by decide⟩ (ce_V (ci := 3) (n := 4) rfl (okX4_isIn l) rcX4_isIn (mw 900 (by decide +kernel) rfl) (mw 902 (by decide +kernel) rfl) (ms 32 (by decide +kernel) rfl) (mw 4 (by decide +kernel) rfl) (mw 903 (by decide +kernel) rfl) rfl (by decide) ⟨by decide, by decide⟩ (ce_0))
abbrev cutX4_where : List (Nat × List Nat) := [(8, [0, 1, 3, 5, 7])]
set_option maxRecDepth 20000 in
set_option maxHeartbeats 4000000 in
theorem lbX4_where_0 {G : Nat → LV → List Value → aS → Prop} {post : Option Value → aS → Prop} (hG : ∀ n b pc lv st σ, seg (0, fun _ => 0) pgX4_where ceX4_where cutX4_where G (fun v σ => rFit (some .int) v ∧ post v σ) n b pc lv st σ → G pc lv st σ) (c : MS) (u : Nat → aE) (M : aS) (a : Int64) (b : Int64) (d : Int64) (hb : bX4_where_0 c a b d (fun x X => rFit (some .int) (some (.int x)) ∧ post (some (.int x)) (pre20 u ++ (wM X ++ M))) (fun z1 z3 z5 z7 X => G 8 [(0, .ref 20), (1, .long z1), (3, .long z3), (5, .long z5), (7, .int z7)] [] (pre20 u ++ (wM X ++ M)))) : G 0 [(0, .ref 20), (1, .long a), (3, .long b), (5, .long d)] [] (pre20 u ++ (wM c ++ M)) := by
  unfold bX4_where_0 at hb
  refine hG 400 false 0 _ _ _ ?_
  exact hb
set_option maxRecDepth 20000 in
set_option maxHeartbeats 4000000 in
theorem lbX4_where_8 {G : Nat → LV → List Value → aS → Prop} {post : Option Value → aS → Prop} (hG : ∀ n b pc lv st σ, seg (0, fun _ => 0) pgX4_where ceX4_where cutX4_where G (fun v σ => rFit (some .int) v ∧ post v σ) n b pc lv st σ → G pc lv st σ) (c : MS) (u : Nat → aE) (M : aS) (a : Int64) (b : Int64) (d : Int64) (l7 : Int32) (hb : bX4_where_8 c a b d l7 (fun x X => rFit (some .int) (some (.int x)) ∧ post (some (.int x)) (pre20 u ++ (wM X ++ M))) (fun z1 z3 z5 z7 X => G 8 [(0, .ref 20), (1, .long z1), (3, .long z3), (5, .long z5), (7, .int z7)] [] (pre20 u ++ (wM X ++ M)))) : G 8 [(0, .ref 20), (1, .long a), (3, .long b), (5, .long d), (7, .int l7)] [] (pre20 u ++ (wM c ++ M)) := by
  unfold bX4_where_8 at hb
  refine hG 400 false 8 _ _ _ ?_
  refine And.intro (fun (h : (c.1 4) ≤ l7) => ?_) (fun (h : ¬ (c.1 4) ≤ l7) => ?_)
  · rw [if_pos h] at hb
    exact hb
  · rw [if_neg h] at hb
    refine And.intro trivial (mnX4_of ?_ hb)
    intro r1 hb
    refine And.intro trivial (mnX4_of ?_ hb)
    intro r2 hb
    refine And.intro trivial (mnX4_of ?_ hb)
    intro r3 hb
    refine Exists.intro c (Exists.intro u (Exists.intro M ((And.intro rfl (mnX4_isIn ?_ hb)))))
    intro r4 X4 _ hb
    refine And.intro (fun (h : r4 = 0) => ?_) (fun (h : ¬ r4 = 0) => ?_)
    · rw [if_pos h] at hb
      exact hb
    · rw [if_neg h] at hb
      exact hb
theorem giX4_where_8 {G : Nat → LV → List Value → aS → Prop} {post : Option Value → aS → Prop} (hG : ∀ n b pc lv st σ, seg (0, fun _ => 0) pgX4_where ceX4_where cutX4_where G (fun v σ => rFit (some .int) v ∧ post v σ) n b pc lv st σ → G pc lv st σ) (u : Nat → aE) (M : aS) : ∀ (n : Nat) (z1 : Int64) (z3 : Int64) (z5 : Int64) (z7 : Int32) (X : MS), itX4_where_8 (fun x X => rFit (some .int) (some (.int x)) ∧ post (some (.int x)) (pre20 u ++ (wM X ++ M))) n z1 z3 z5 z7 X → G 8 [(0, .ref 20), (1, .long z1), (3, .long z3), (5, .long z5), (7, .int z7)] [] (pre20 u ++ (wM X ++ M))
  | 0, _, _, _, _, _, h => h.elim
  | n + 1, _, _, _, _, _, h => lbX4_where_8 hG _ u M _ _ _ _ (mbX4_where_8 (fun _ _ h => h) (fun _ _ _ _ _ h => giX4_where_8 hG u M n _ _ _ _ _ h) h)
theorem rcX4_where : ∀ as σ kk, tX4_where as σ kk → ∃ a r fs, as = .ref a :: r ∧ σ[a]? = some (.inr (3, fs)) := by
  intro as σ kk h
  unfold tX4_where at h; split at h
  · obtain ⟨c, u, M, rfl, -⟩ := h
    exact ⟨_, _, _, rfl, rfl⟩
  · exact h.elim
set_option maxRecDepth 20000 in
theorem okX4_where (l : Launch) : OK l yX4_where cX4_where 8 (some .int) 2 tX4_where := by
  intro D τ ρ A as σ post h
  unfold tX4_where at h; split at h
  · rename_i a b d; obtain ⟨c, u, M, rfl, hw⟩ := h
    refine met_of (P := pgX4_where) (CE := ceX4_where) (cut := cutX4_where) (by decide) kkX4_where (coX4_where l) (Nat.le_of_ble_eq_true rfl) ?_
    intro G hG
    unfold wX4_where at hw
    refine lbX4_where_0 hG c u M a b d (mbX4_where_0 ?_ ?_ hw)
    · exact fun _ _ h => ⟨trivial, h⟩
    · intro _ _ _ _ _ ⟨N, h⟩; exact giX4_where_8 hG u M N _ _ _ _ _ (miX4_where_8 (fun _ _ h => ⟨trivial, h⟩) N _ _ _ _ _ h)
  · exact h.elim
def bX4_massLow_0 (c : MS) (a : Int32) (kr : UInt64 → MS → Prop) (kc5 : Int32 → UInt64 → Int32 → MS → Prop) : Prop :=
  kc5 a (FP.dconst0 : UInt64) (0 : Int32) c
def bX4_massLow_5 (c : MS) (a : Int32) (l2 : UInt64) (l4 : Int32) (kr : UInt64 → MS → Prop) (kc5 : Int32 → UInt64 → Int32 → MS → Prop) : Prop :=
  (if (c.1 4) ≤ l4 then
    kr l2 c
  else
    (vp_in l4 100 ∧ (if (c.2.1 30 l4.toNatClampNeg) = a then
      (vp_in l4 100 ∧ (vf_n64 (FP.dadd l2 (c.2.2 31 l4.toNatClampNeg)) ∧ (wX4_down (FP.dadd l2 (c.2.2 31 l4.toNatClampNeg)) (fun r1 => (if 0 ≤ (Op.cmpValue (FP.dcmp r1 (FP.dconst0 : UInt64)) .g) then
        kc5 a r1 (l4 + (1 : Int32)) c
      else
        kc5 a (FP.dconst0 : UInt64) (l4 + (1 : Int32)) c)))))
    else
      kc5 a l2 (l4 + (1 : Int32)) c)))
set_option maxRecDepth 20000 in
theorem mbX4_massLow_0 {c : MS} {a : Int32} {kr kq : UInt64 → MS → Prop} {kc5 kd5 : Int32 → UInt64 → Int32 → MS → Prop} (hr : ∀ x X, kr x X → kq x X) (hc5 : ∀ z1 z2 z4 X, kc5 z1 z2 z4 X → kd5 z1 z2 z4 X) (h : bX4_massLow_0 c a kr kc5) : bX4_massLow_0 c a kq kd5 := by
  unfold bX4_massLow_0 at h ⊢
  exact hc5 _ _ _ _ h
set_option maxRecDepth 20000 in
theorem mbX4_massLow_5 {c : MS} {a : Int32} {l2 : UInt64} {l4 : Int32} {kr kq : UInt64 → MS → Prop} {kc5 kd5 : Int32 → UInt64 → Int32 → MS → Prop} (hr : ∀ x X, kr x X → kq x X) (hc5 : ∀ z1 z2 z4 X, kc5 z1 z2 z4 X → kd5 z1 z2 z4 X) (h : bX4_massLow_5 c a l2 l4 kr kc5) : bX4_massLow_5 c a l2 l4 kq kd5 := by
  unfold bX4_massLow_5 at h ⊢
  by_cases hc : (c.1 4) ≤ l4
  · rw [if_pos hc] at h ⊢
    exact hr _ _ h
  · rw [if_neg hc] at h ⊢
    obtain ⟨hi, h⟩ := h
    refine And.intro hi ?_
    by_cases hc : (c.2.1 30 l4.toNatClampNeg) = a
    · rw [if_pos hc] at h ⊢
      obtain ⟨hi, h⟩ := h
      refine And.intro hi ?_
      obtain ⟨hi, h⟩ := h
      refine And.intro hi ?_
      refine mnX4_down ?_ h
      intro r1 h
      by_cases hc : 0 ≤ (Op.cmpValue (FP.dcmp r1 (FP.dconst0 : UInt64)) .g)
      · rw [if_pos hc] at h ⊢
        exact hc5 _ _ _ _ h
      · rw [if_neg hc] at h ⊢
        exact hc5 _ _ _ _ h
    · rw [if_neg hc] at h ⊢
      exact hc5 _ _ _ _ h
def itX4_massLow_5 (kr : UInt64 → MS → Prop) : Nat → Int32 → UInt64 → Int32 → MS → Prop
  | 0, _, _, _, _ => False
  | n + 1, a, l2, l4, c => bX4_massLow_5 c a l2 l4 kr (fun z1 z2 z4 X => itX4_massLow_5 kr n z1 z2 z4 X)
theorem miX4_massLow_5 {kr kq : UInt64 → MS → Prop} (hr : ∀ x X, kr x X → kq x X) : ∀ (n : Nat) (z1 : Int32) (z2 : UInt64) (z4 : Int32) (X : MS), itX4_massLow_5 kr n z1 z2 z4 X → itX4_massLow_5 kq n z1 z2 z4 X
  | 0, _, _, _, _, h => h
  | n + 1, _, _, _, _, h => mbX4_massLow_5 hr (fun _ _ _ _ h => miX4_massLow_5 hr n _ _ _ _ h) h
def wX4_massLow (c : MS) (a : Int32) (kr : UInt64 → MS → Prop) : Prop := bX4_massLow_0 c a kr (fun z1 z2 z4 X => ∃ N, itX4_massLow_5 kr N z1 z2 z4 X)
theorem mnX4_massLow {c : MS} {a : Int32} {kr kq : UInt64 → MS → Prop} (hr : ∀ x X, kr x X → kq x X) (h : wX4_massLow c a kr) : wX4_massLow c a kq := mbX4_massLow_0 hr (fun _ _ _ _ h => h.elim fun N h => ⟨N, miX4_massLow_5 hr N _ _ _ _ h⟩) h
def tX4_massLow : Tr := fun as σ k => match as with
  | [.ref 20, .int a] => ∃ (c : MS) (u : Nat → aE) (M : aS), σ = pre20 u ++ (wM c ++ M) ∧ wX4_massLow c a (fun x X => k (some (.double x)) (pre20 u ++ (wM X ++ M)))
  | _ => False
def ceX4_massLow : List (Nat × Nat × Tr) := (2 * 179, 1, tX4_down) :: []
theorem coX4_massLow (l : Launch) : CEok l yX4_massLow.cls 5 ceX4_massLow := ce_S (okX4_down l) (mw 827 (by decide +kernel) rfl) (mw 828 (by decide +kernel) rfl) (mw 4 (by decide +kernel) rfl) (mw 829 (by decide +kernel) rfl) (by decide) ⟨by decide, by decide⟩ (ce_0)
abbrev cutX4_massLow : List (Nat × List Nat) := [(5, [0, 1, 2, 4])]
set_option maxRecDepth 20000 in
set_option maxHeartbeats 4000000 in
theorem lbX4_massLow_0 {G : Nat → LV → List Value → aS → Prop} {post : Option Value → aS → Prop} (hG : ∀ n b pc lv st σ, seg (0, fun _ => 0) pgX4_massLow ceX4_massLow cutX4_massLow G (fun v σ => rFit (some .double) v ∧ post v σ) n b pc lv st σ → G pc lv st σ) (c : MS) (u : Nat → aE) (M : aS) (a : Int32) (hb : bX4_massLow_0 c a (fun x X => rFit (some .double) (some (.double x)) ∧ post (some (.double x)) (pre20 u ++ (wM X ++ M))) (fun z1 z2 z4 X => G 5 [(0, .ref 20), (1, .int z1), (2, .double z2), (4, .int z4)] [] (pre20 u ++ (wM X ++ M)))) : G 0 [(0, .ref 20), (1, .int a)] [] (pre20 u ++ (wM c ++ M)) := by
  unfold bX4_massLow_0 at hb
  refine hG 400 false 0 _ _ _ ?_
  exact hb
set_option maxRecDepth 20000 in
set_option maxHeartbeats 4000000 in
theorem lbX4_massLow_5 {G : Nat → LV → List Value → aS → Prop} {post : Option Value → aS → Prop} (hG : ∀ n b pc lv st σ, seg (0, fun _ => 0) pgX4_massLow ceX4_massLow cutX4_massLow G (fun v σ => rFit (some .double) v ∧ post v σ) n b pc lv st σ → G pc lv st σ) (c : MS) (u : Nat → aE) (M : aS) (a : Int32) (l2 : UInt64) (l4 : Int32) (hb : bX4_massLow_5 c a l2 l4 (fun x X => rFit (some .double) (some (.double x)) ∧ post (some (.double x)) (pre20 u ++ (wM X ++ M))) (fun z1 z2 z4 X => G 5 [(0, .ref 20), (1, .int z1), (2, .double z2), (4, .int z4)] [] (pre20 u ++ (wM X ++ M)))) : G 5 [(0, .ref 20), (1, .int a), (2, .double l2), (4, .int l4)] [] (pre20 u ++ (wM c ++ M)) := by
  unfold bX4_massLow_5 at hb
  refine hG 400 false 5 _ _ _ ?_
  refine And.intro (fun (h : (c.1 4) ≤ l4) => ?_) (fun (h : ¬ (c.1 4) ≤ l4) => ?_)
  · rw [if_pos h] at hb
    exact hb
  · rw [if_neg h] at hb
    obtain ⟨hi, hb⟩ := hb
    refine And.intro hi ?_
    refine And.intro (fun (h : ¬ (c.2.1 30 l4.toNatClampNeg) = a) => ?_) (fun hq => have h : (c.2.1 30 l4.toNatClampNeg) = a := Classical.not_not.mp hq; ?_)
    · rw [if_neg h] at hb
      exact hb
    · rw [if_pos h] at hb
      obtain ⟨hi, hb⟩ := hb
      refine And.intro hi ?_
      obtain ⟨hi, hb⟩ := hb
      refine And.intro hi ?_
      refine And.intro trivial (mnX4_down ?_ hb)
      intro r1 hb
      refine And.intro (fun (h : 0 ≤ (Op.cmpValue (FP.dcmp r1 (FP.dconst0 : UInt64)) .g)) => ?_) (fun (h : ¬ 0 ≤ (Op.cmpValue (FP.dcmp r1 (FP.dconst0 : UInt64)) .g)) => ?_)
      · rw [if_pos h] at hb
        exact hb
      · rw [if_neg h] at hb
        exact hb
theorem giX4_massLow_5 {G : Nat → LV → List Value → aS → Prop} {post : Option Value → aS → Prop} (hG : ∀ n b pc lv st σ, seg (0, fun _ => 0) pgX4_massLow ceX4_massLow cutX4_massLow G (fun v σ => rFit (some .double) v ∧ post v σ) n b pc lv st σ → G pc lv st σ) (u : Nat → aE) (M : aS) : ∀ (n : Nat) (z1 : Int32) (z2 : UInt64) (z4 : Int32) (X : MS), itX4_massLow_5 (fun x X => rFit (some .double) (some (.double x)) ∧ post (some (.double x)) (pre20 u ++ (wM X ++ M))) n z1 z2 z4 X → G 5 [(0, .ref 20), (1, .int z1), (2, .double z2), (4, .int z4)] [] (pre20 u ++ (wM X ++ M))
  | 0, _, _, _, _, h => h.elim
  | n + 1, _, _, _, _, h => lbX4_massLow_5 hG _ u M _ _ _ (mbX4_massLow_5 (fun _ _ h => h) (fun _ _ _ _ h => giX4_massLow_5 hG u M n _ _ _ _ h) h)
theorem rcX4_massLow : ∀ as σ kk, tX4_massLow as σ kk → ∃ a r fs, as = .ref a :: r ∧ σ[a]? = some (.inr (3, fs)) := by
  intro as σ kk h
  unfold tX4_massLow at h; split at h
  · obtain ⟨c, u, M, rfl, -⟩ := h
    exact ⟨_, _, _, rfl, rfl⟩
  · exact h.elim
set_option maxRecDepth 20000 in
theorem okX4_massLow (l : Launch) : OK l yX4_massLow cX4_massLow 5 (some .double) 5 tX4_massLow := by
  intro D τ ρ A as σ post h
  unfold tX4_massLow at h; split at h
  · rename_i a; obtain ⟨c, u, M, rfl, hw⟩ := h
    refine met_of (P := pgX4_massLow) (CE := ceX4_massLow) (cut := cutX4_massLow) (by decide) kkX4_massLow (coX4_massLow l) (Nat.le_of_ble_eq_true rfl) ?_
    intro G hG
    unfold wX4_massLow at hw
    refine lbX4_massLow_0 hG c u M a (mbX4_massLow_0 ?_ ?_ hw)
    · exact fun _ _ h => ⟨trivial, h⟩
    · intro _ _ _ _ ⟨N, h⟩; exact giX4_massLow_5 hG u M N _ _ _ _ (miX4_massLow_5 (fun _ _ h => ⟨trivial, h⟩) N _ _ _ _ h)
  · exact h.elim
def bX4_massHigh_0 (c : MS) (a : Int32) (kr : UInt64 → MS → Prop) (kc5 : Int32 → UInt64 → Int32 → MS → Prop) : Prop :=
  kc5 a (FP.dconst0 : UInt64) (0 : Int32) c
def bX4_massHigh_5 (c : MS) (a : Int32) (l2 : UInt64) (l4 : Int32) (kr : UInt64 → MS → Prop) (kc5 : Int32 → UInt64 → Int32 → MS → Prop) : Prop :=
  (if (c.1 4) ≤ l4 then
    kr l2 c
  else
    (vp_in l4 100 ∧ (if (c.2.1 30 l4.toNatClampNeg) = a then
      (vp_in l4 100 ∧ (vf_n64 (FP.dadd l2 (c.2.2 32 l4.toNatClampNeg)) ∧ (wX4_up (FP.dadd l2 (c.2.2 32 l4.toNatClampNeg)) (fun r1 => kc5 a r1 (l4 + (1 : Int32)) c))))
    else
      kc5 a l2 (l4 + (1 : Int32)) c)))
set_option maxRecDepth 20000 in
theorem mbX4_massHigh_0 {c : MS} {a : Int32} {kr kq : UInt64 → MS → Prop} {kc5 kd5 : Int32 → UInt64 → Int32 → MS → Prop} (hr : ∀ x X, kr x X → kq x X) (hc5 : ∀ z1 z2 z4 X, kc5 z1 z2 z4 X → kd5 z1 z2 z4 X) (h : bX4_massHigh_0 c a kr kc5) : bX4_massHigh_0 c a kq kd5 := by
  unfold bX4_massHigh_0 at h ⊢
  exact hc5 _ _ _ _ h
set_option maxRecDepth 20000 in
theorem mbX4_massHigh_5 {c : MS} {a : Int32} {l2 : UInt64} {l4 : Int32} {kr kq : UInt64 → MS → Prop} {kc5 kd5 : Int32 → UInt64 → Int32 → MS → Prop} (hr : ∀ x X, kr x X → kq x X) (hc5 : ∀ z1 z2 z4 X, kc5 z1 z2 z4 X → kd5 z1 z2 z4 X) (h : bX4_massHigh_5 c a l2 l4 kr kc5) : bX4_massHigh_5 c a l2 l4 kq kd5 := by
  unfold bX4_massHigh_5 at h ⊢
  by_cases hc : (c.1 4) ≤ l4
  · rw [if_pos hc] at h ⊢
    exact hr _ _ h
  · rw [if_neg hc] at h ⊢
    obtain ⟨hi, h⟩ := h
    refine And.intro hi ?_
    by_cases hc : (c.2.1 30 l4.toNatClampNeg) = a
    · rw [if_pos hc] at h ⊢
      obtain ⟨hi, h⟩ := h
      refine And.intro hi ?_
      obtain ⟨hi, h⟩ := h
      refine And.intro hi ?_
      refine mnX4_up ?_ h
      intro r1 h
      exact hc5 _ _ _ _ h
    · rw [if_neg hc] at h ⊢
      exact hc5 _ _ _ _ h
def itX4_massHigh_5 (kr : UInt64 → MS → Prop) : Nat → Int32 → UInt64 → Int32 → MS → Prop
  | 0, _, _, _, _ => False
  | n + 1, a, l2, l4, c => bX4_massHigh_5 c a l2 l4 kr (fun z1 z2 z4 X => itX4_massHigh_5 kr n z1 z2 z4 X)
theorem miX4_massHigh_5 {kr kq : UInt64 → MS → Prop} (hr : ∀ x X, kr x X → kq x X) : ∀ (n : Nat) (z1 : Int32) (z2 : UInt64) (z4 : Int32) (X : MS), itX4_massHigh_5 kr n z1 z2 z4 X → itX4_massHigh_5 kq n z1 z2 z4 X
  | 0, _, _, _, _, h => h
  | n + 1, _, _, _, _, h => mbX4_massHigh_5 hr (fun _ _ _ _ h => miX4_massHigh_5 hr n _ _ _ _ h) h
def wX4_massHigh (c : MS) (a : Int32) (kr : UInt64 → MS → Prop) : Prop := bX4_massHigh_0 c a kr (fun z1 z2 z4 X => ∃ N, itX4_massHigh_5 kr N z1 z2 z4 X)
theorem mnX4_massHigh {c : MS} {a : Int32} {kr kq : UInt64 → MS → Prop} (hr : ∀ x X, kr x X → kq x X) (h : wX4_massHigh c a kr) : wX4_massHigh c a kq := mbX4_massHigh_0 hr (fun _ _ _ _ h => h.elim fun N h => ⟨N, miX4_massHigh_5 hr N _ _ _ _ h⟩) h
def tX4_massHigh : Tr := fun as σ k => match as with
  | [.ref 20, .int a] => ∃ (c : MS) (u : Nat → aE) (M : aS), σ = pre20 u ++ (wM c ++ M) ∧ wX4_massHigh c a (fun x X => k (some (.double x)) (pre20 u ++ (wM X ++ M)))
  | _ => False
def ceX4_massHigh : List (Nat × Nat × Tr) := (2 * 84, 1, tX4_up) :: []
theorem coX4_massHigh (l : Launch) : CEok l yX4_massHigh.cls 4 ceX4_massHigh := ce_S (okX4_up l) (mw 830 (by decide +kernel) rfl) (mw 831 (by decide +kernel) rfl) (mw 4 (by decide +kernel) rfl) (mw 832 (by decide +kernel) rfl) (by decide) ⟨by decide, by decide⟩ (ce_0)
abbrev cutX4_massHigh : List (Nat × List Nat) := [(5, [0, 1, 2, 4])]
set_option maxRecDepth 20000 in
set_option maxHeartbeats 4000000 in
theorem lbX4_massHigh_0 {G : Nat → LV → List Value → aS → Prop} {post : Option Value → aS → Prop} (hG : ∀ n b pc lv st σ, seg (0, fun _ => 0) pgX4_massHigh ceX4_massHigh cutX4_massHigh G (fun v σ => rFit (some .double) v ∧ post v σ) n b pc lv st σ → G pc lv st σ) (c : MS) (u : Nat → aE) (M : aS) (a : Int32) (hb : bX4_massHigh_0 c a (fun x X => rFit (some .double) (some (.double x)) ∧ post (some (.double x)) (pre20 u ++ (wM X ++ M))) (fun z1 z2 z4 X => G 5 [(0, .ref 20), (1, .int z1), (2, .double z2), (4, .int z4)] [] (pre20 u ++ (wM X ++ M)))) : G 0 [(0, .ref 20), (1, .int a)] [] (pre20 u ++ (wM c ++ M)) := by
  unfold bX4_massHigh_0 at hb
  refine hG 400 false 0 _ _ _ ?_
  exact hb
set_option maxRecDepth 20000 in
set_option maxHeartbeats 4000000 in
theorem lbX4_massHigh_5 {G : Nat → LV → List Value → aS → Prop} {post : Option Value → aS → Prop} (hG : ∀ n b pc lv st σ, seg (0, fun _ => 0) pgX4_massHigh ceX4_massHigh cutX4_massHigh G (fun v σ => rFit (some .double) v ∧ post v σ) n b pc lv st σ → G pc lv st σ) (c : MS) (u : Nat → aE) (M : aS) (a : Int32) (l2 : UInt64) (l4 : Int32) (hb : bX4_massHigh_5 c a l2 l4 (fun x X => rFit (some .double) (some (.double x)) ∧ post (some (.double x)) (pre20 u ++ (wM X ++ M))) (fun z1 z2 z4 X => G 5 [(0, .ref 20), (1, .int z1), (2, .double z2), (4, .int z4)] [] (pre20 u ++ (wM X ++ M)))) : G 5 [(0, .ref 20), (1, .int a), (2, .double l2), (4, .int l4)] [] (pre20 u ++ (wM c ++ M)) := by
  unfold bX4_massHigh_5 at hb
  refine hG 400 false 5 _ _ _ ?_
  refine And.intro (fun (h : (c.1 4) ≤ l4) => ?_) (fun (h : ¬ (c.1 4) ≤ l4) => ?_)
  · rw [if_pos h] at hb
    exact hb
  · rw [if_neg h] at hb
    obtain ⟨hi, hb⟩ := hb
    refine And.intro hi ?_
    refine And.intro (fun (h : ¬ (c.2.1 30 l4.toNatClampNeg) = a) => ?_) (fun hq => have h : (c.2.1 30 l4.toNatClampNeg) = a := Classical.not_not.mp hq; ?_)
    · rw [if_neg h] at hb
      exact hb
    · rw [if_pos h] at hb
      obtain ⟨hi, hb⟩ := hb
      refine And.intro hi ?_
      obtain ⟨hi, hb⟩ := hb
      refine And.intro hi ?_
      refine And.intro trivial (mnX4_up ?_ hb)
      intro r1 hb
      exact hb
theorem giX4_massHigh_5 {G : Nat → LV → List Value → aS → Prop} {post : Option Value → aS → Prop} (hG : ∀ n b pc lv st σ, seg (0, fun _ => 0) pgX4_massHigh ceX4_massHigh cutX4_massHigh G (fun v σ => rFit (some .double) v ∧ post v σ) n b pc lv st σ → G pc lv st σ) (u : Nat → aE) (M : aS) : ∀ (n : Nat) (z1 : Int32) (z2 : UInt64) (z4 : Int32) (X : MS), itX4_massHigh_5 (fun x X => rFit (some .double) (some (.double x)) ∧ post (some (.double x)) (pre20 u ++ (wM X ++ M))) n z1 z2 z4 X → G 5 [(0, .ref 20), (1, .int z1), (2, .double z2), (4, .int z4)] [] (pre20 u ++ (wM X ++ M))
  | 0, _, _, _, _, h => h.elim
  | n + 1, _, _, _, _, h => lbX4_massHigh_5 hG _ u M _ _ _ (mbX4_massHigh_5 (fun _ _ h => h) (fun _ _ _ _ h => giX4_massHigh_5 hG u M n _ _ _ _ h) h)
theorem rcX4_massHigh : ∀ as σ kk, tX4_massHigh as σ kk → ∃ a r fs, as = .ref a :: r ∧ σ[a]? = some (.inr (3, fs)) := by
  intro as σ kk h
  unfold tX4_massHigh at h; split at h
  · obtain ⟨c, u, M, rfl, -⟩ := h
    exact ⟨_, _, _, rfl, rfl⟩
  · exact h.elim
set_option maxRecDepth 20000 in
theorem okX4_massHigh (l : Launch) : OK l yX4_massHigh cX4_massHigh 5 (some .double) 4 tX4_massHigh := by
  intro D τ ρ A as σ post h
  unfold tX4_massHigh at h; split at h
  · rename_i a; obtain ⟨c, u, M, rfl, hw⟩ := h
    refine met_of (P := pgX4_massHigh) (CE := ceX4_massHigh) (cut := cutX4_massHigh) (by decide) kkX4_massHigh (coX4_massHigh l) (Nat.le_of_ble_eq_true rfl) ?_
    intro G hG
    unfold wX4_massHigh at hw
    refine lbX4_massHigh_0 hG c u M a (mbX4_massHigh_0 ?_ ?_ hw)
    · exact fun _ _ h => ⟨trivial, h⟩
    · intro _ _ _ _ ⟨N, h⟩; exact giX4_massHigh_5 hG u M N _ _ _ _ (miX4_massHigh_5 (fun _ _ h => ⟨trivial, h⟩) N _ _ _ _ h)
  · exact h.elim
def bX4_mass_0 (c : MS) (a : Int32) (b : Int32) (kr : Int64 → MS → Prop)  : Prop :=
  (wX4_in a (0 : Int32) (3 : Int32) (fun r1 => (if r1 = 0 then
    kr (0 : Int64) (msetI c 0 (0 : Int32))
  else
    (wX4_in b (0 : Int32) (1 : Int32) (fun r2 => (if r2 = 0 then
      kr (0 : Int64) (msetI c 0 (0 : Int32))
    else
      (if ((msetI c 0 (0 : Int32)).1 3) = 0 then
        kr (0 : Int64) (msetI c 0 (0 : Int32))
      else
        (if b = 0 then
          (wX4_massLow (msetI c 0 (0 : Int32)) a (fun r5 X5 => (wX4_bits r5 (fun r6 => kr r6 X5))))
        else
          (wX4_massHigh (msetI c 0 (0 : Int32)) a (fun r3 X3 => (wX4_bits r3 (fun r4 => kr r4 X3))))))))))))
set_option maxRecDepth 20000 in
theorem mbX4_mass_0 {c : MS} {a : Int32} {b : Int32} {kr kq : Int64 → MS → Prop}  (hr : ∀ x X, kr x X → kq x X)  (h : bX4_mass_0 c a b kr ) : bX4_mass_0 c a b kq  := by
  unfold bX4_mass_0 at h ⊢
  refine mnX4_in ?_ h
  intro r1 _ h
  by_cases hc : r1 = 0
  · rw [if_pos hc] at h ⊢
    exact hr _ _ h
  · rw [if_neg hc] at h ⊢
    refine mnX4_in ?_ h
    intro r2 _ h
    by_cases hc : r2 = 0
    · rw [if_pos hc] at h ⊢
      exact hr _ _ h
    · rw [if_neg hc] at h ⊢
      by_cases hc : ((msetI c 0 (0 : Int32)).1 3) = 0
      · rw [if_pos hc] at h ⊢
        exact hr _ _ h
      · rw [if_neg hc] at h ⊢
        by_cases hc : b = 0
        · rw [if_pos hc] at h ⊢
          refine mnX4_massLow ?_ h
          intro r5 X5 h
          refine mnX4_bits ?_ h
          intro r6 h
          exact hr _ _ h
        · rw [if_neg hc] at h ⊢
          refine mnX4_massHigh ?_ h
          intro r3 X3 h
          refine mnX4_bits ?_ h
          intro r4 h
          exact hr _ _ h
def wX4_mass (c : MS) (a : Int32) (b : Int32) (kr : Int64 → MS → Prop) : Prop := bX4_mass_0 c a b kr 
theorem mnX4_mass {c : MS} {a : Int32} {b : Int32} {kr kq : Int64 → MS → Prop} (hr : ∀ x X, kr x X → kq x X) (h : wX4_mass c a b kr) : wX4_mass c a b kq := mbX4_mass_0 hr  h
def tX4_mass : Tr := fun as σ k => match as with
  | [.ref 20, .int a, .int b] => ∃ (c : MS) (u : Nat → aE) (M : aS), σ = pre20 u ++ (wM c ++ M) ∧ wX4_mass c a b (fun x X => k (some (.long x)) (pre20 u ++ (wM X ++ M)))
  | _ => False
def ceX4_mass : List (Nat × Nat × Tr) := (2 * 129, 3, tX4_in) :: (2 * 243 + 1, 1 + 1, tX4_massHigh) :: (2 * 81, 1, tX4_bits) :: (2 * 240 + 1, 1 + 1, tX4_massLow) :: []
theorem coX4_mass (l : Launch) : CEok l yX4_mass.cls 6 ceX4_mass := ce_S (okX4_in l) (mw 726 (by decide +kernel) rfl) (mw 727 (by decide +kernel) rfl) (mw 4 (by decide +kernel) rfl) (mw 728 (by decide +kernel) rfl) (by decide) ⟨by decide, by decide⟩ (ce_V (ci := 3) (n := 1) rfl (okX4_massHigh l) rcX4_massHigh (mw 919 (by decide +kernel) rfl) (mw 921 (by decide +kernel) rfl) (ms 34 (by decide +kernel) rfl) (mw 4 (by decide +kernel) rfl) (mw 922 (by decide +kernel) rfl) rfl (by decide) ⟨by decide, by decide⟩ (ce_S (okX4_bits l) (mw 772 (by decide +kernel) rfl) (mw 773 (by decide +kernel) rfl) (mw 4 (by decide +kernel) rfl) (mw 774 (by decide +kernel) rfl) (by decide) ⟨by decide, by decide⟩ (ce_V (ci := 3) (n := 1) rfl (okX4_massLow l) rcX4_massLow (mw 915 (by decide +kernel) rfl) (mw 917 (by decide +kernel) rfl) (ms 33 (by decide +kernel) rfl) (mw 4 (by decide +kernel) rfl) (mw 918 (by decide +kernel) rfl) rfl (by decide) ⟨by decide, by decide⟩ (ce_0))))
abbrev cutX4_mass : List (Nat × List Nat) := []
set_option maxRecDepth 20000 in
set_option maxHeartbeats 4000000 in
theorem lbX4_mass_0 {G : Nat → LV → List Value → aS → Prop} {post : Option Value → aS → Prop} (hG : ∀ n b pc lv st σ, seg (0, fun _ => 0) pgX4_mass ceX4_mass cutX4_mass G (fun v σ => rFit (some .long) v ∧ post v σ) n b pc lv st σ → G pc lv st σ) (c : MS) (u : Nat → aE) (M : aS) (a : Int32) (b : Int32) (hb : bX4_mass_0 c a b (fun x X => rFit (some .long) (some (.long x)) ∧ post (some (.long x)) (pre20 u ++ (wM X ++ M))) ) : G 0 [(0, .ref 20), (1, .int a), (2, .int b)] [] (pre20 u ++ (wM c ++ M)) := by
  unfold bX4_mass_0 at hb
  refine hG 400 false 0 _ _ _ ?_
  refine And.intro trivial (mnX4_in ?_ hb)
  intro r1 _ hb
  refine And.intro (fun (h : r1 = 0) => ?_) (fun (h : ¬ r1 = 0) => ?_)
  · rw [if_pos h] at hb
    exact hb
  · rw [if_neg h] at hb
    refine And.intro trivial (mnX4_in ?_ hb)
    intro r2 _ hb
    refine And.intro (fun (h : r2 = 0) => ?_) (fun (h : ¬ r2 = 0) => ?_)
    · rw [if_pos h] at hb
      exact hb
    · rw [if_neg h] at hb
      refine And.intro (fun (h : ¬ ((msetI c 0 (0 : Int32)).1 3) = 0) => ?_) (fun hq => have h : ((msetI c 0 (0 : Int32)).1 3) = 0 := Classical.not_not.mp hq; ?_)
      · rw [if_neg h] at hb
        refine And.intro (fun (h : ¬ b = 0) => ?_) (fun hq => have h : b = 0 := Classical.not_not.mp hq; ?_)
        · rw [if_neg h] at hb
          refine Exists.intro (msetI c 0 (0 : Int32)) (Exists.intro u (Exists.intro M ((And.intro rfl (mnX4_massHigh ?_ hb)))))
          intro r3 X3 hb
          refine And.intro trivial (mnX4_bits ?_ hb)
          intro r4 hb
          exact hb
        · rw [if_pos h] at hb
          refine Exists.intro (msetI c 0 (0 : Int32)) (Exists.intro u (Exists.intro M ((And.intro rfl (mnX4_massLow ?_ hb)))))
          intro r5 X5 hb
          refine And.intro trivial (mnX4_bits ?_ hb)
          intro r6 hb
          exact hb
      · rw [if_pos h] at hb
        exact hb
theorem rcX4_mass : ∀ as σ kk, tX4_mass as σ kk → ∃ a r fs, as = .ref a :: r ∧ σ[a]? = some (.inr (3, fs)) := by
  intro as σ kk h
  unfold tX4_mass at h; split at h
  · obtain ⟨c, u, M, rfl, -⟩ := h
    exact ⟨_, _, _, rfl, rfl⟩
  · exact h.elim
set_option maxRecDepth 20000 in
theorem okX4_mass (l : Launch) : OK l yX4_mass cX4_mass 3 (some .long) 6 tX4_mass := by
  intro D τ ρ A as σ post h
  unfold tX4_mass at h; split at h
  · rename_i a b; obtain ⟨c, u, M, rfl, hw⟩ := h
    refine met_of (P := pgX4_mass) (CE := ceX4_mass) (cut := cutX4_mass) (by decide) kkX4_mass (coX4_mass l) (Nat.le_of_ble_eq_true rfl) ?_
    intro G hG
    unfold wX4_mass at hw
    refine lbX4_mass_0 hG c u M a b (mbX4_mass_0 ?_  hw)
    · exact fun _ _ h => ⟨trivial, h⟩
  · exact h.elim
def bX4_odds_0 (c : MS) (a : Int32) (kr : Int64 → MS → Prop)  : Prop :=
  (wX4_in a (0 : Int32) (1 : Int32) (fun r1 => (if r1 = 0 then
    kr (0 : Int64) (msetI c 0 (0 : Int32))
  else
    (if ((msetI c 0 (0 : Int32)).1 3) = 0 then
      kr (0 : Int64) (msetI c 0 (0 : Int32))
    else
      (if a = 0 then
        (wX4_massLow (msetI c 0 (0 : Int32)) (1 : Int32) (fun r11 X11 => (wX4_massLow X11 (1 : Int32) (fun r12 X12 => (wX4_massHigh X12 (2 : Int32) (fun r13 X13 => (vf_n64 (FP.dadd r12 r13) ∧ (wX4_up (FP.dadd r12 r13) (fun r14 => (wX4_massHigh X13 (3 : Int32) (fun r15 X15 => (vf_n64 (FP.dadd r14 r15) ∧ (wX4_up (FP.dadd r14 r15) (fun r16 => (wX4_divided r11 r16 (fun r17 => (wX4_down r17 (fun r18 => (if (Op.cmpValue (FP.dcmp r18 (FP.dconst0 : UInt64)) .l) < 0 then
          (wX4_bits (FP.dconst0 : UInt64) (fun r19 => kr r19 X15))
        else
          (wX4_bits r18 (fun r20 => kr r20 X15)))))))))))))))))))))
      else
        (wX4_massHigh (msetI c 0 (0 : Int32)) (1 : Int32) (fun r2 X2 => (wX4_massHigh X2 (3 : Int32) (fun r3 X3 => (vf_n64 (FP.dadd r2 r3) ∧ (wX4_up (FP.dadd r2 r3) (fun r4 => (wX4_massLow X3 (2 : Int32) (fun r5 X5 => (vf_n64 (FP.dadd r4 r5) ∧ (wX4_down (FP.dadd r4 r5) (fun r6 => (wX4_divided r4 r6 (fun r7 => (wX4_up r7 (fun r8 => (if 0 < (Op.cmpValue (FP.dcmp r8 (FP.dconst1 : UInt64)) .g) then
          (wX4_bits (FP.dconst1 : UInt64) (fun r9 => kr r9 X5))
        else
          (wX4_bits r8 (fun r10 => kr r10 X5))))))))))))))))))))))))
set_option maxRecDepth 20000 in
theorem mbX4_odds_0 {c : MS} {a : Int32} {kr kq : Int64 → MS → Prop}  (hr : ∀ x X, kr x X → kq x X)  (h : bX4_odds_0 c a kr ) : bX4_odds_0 c a kq  := by
  unfold bX4_odds_0 at h ⊢
  refine mnX4_in ?_ h
  intro r1 _ h
  by_cases hc : r1 = 0
  · rw [if_pos hc] at h ⊢
    exact hr _ _ h
  · rw [if_neg hc] at h ⊢
    by_cases hc : ((msetI c 0 (0 : Int32)).1 3) = 0
    · rw [if_pos hc] at h ⊢
      exact hr _ _ h
    · rw [if_neg hc] at h ⊢
      by_cases hc : a = 0
      · rw [if_pos hc] at h ⊢
        refine mnX4_massLow ?_ h
        intro r11 X11 h
        refine mnX4_massLow ?_ h
        intro r12 X12 h
        refine mnX4_massHigh ?_ h
        intro r13 X13 h
        obtain ⟨hi, h⟩ := h
        refine And.intro hi ?_
        refine mnX4_up ?_ h
        intro r14 h
        refine mnX4_massHigh ?_ h
        intro r15 X15 h
        obtain ⟨hi, h⟩ := h
        refine And.intro hi ?_
        refine mnX4_up ?_ h
        intro r16 h
        refine mnX4_divided ?_ h
        intro r17 h
        refine mnX4_down ?_ h
        intro r18 h
        by_cases hc : (Op.cmpValue (FP.dcmp r18 (FP.dconst0 : UInt64)) .l) < 0
        · rw [if_pos hc] at h ⊢
          refine mnX4_bits ?_ h
          intro r19 h
          exact hr _ _ h
        · rw [if_neg hc] at h ⊢
          refine mnX4_bits ?_ h
          intro r20 h
          exact hr _ _ h
      · rw [if_neg hc] at h ⊢
        refine mnX4_massHigh ?_ h
        intro r2 X2 h
        refine mnX4_massHigh ?_ h
        intro r3 X3 h
        obtain ⟨hi, h⟩ := h
        refine And.intro hi ?_
        refine mnX4_up ?_ h
        intro r4 h
        refine mnX4_massLow ?_ h
        intro r5 X5 h
        obtain ⟨hi, h⟩ := h
        refine And.intro hi ?_
        refine mnX4_down ?_ h
        intro r6 h
        refine mnX4_divided ?_ h
        intro r7 h
        refine mnX4_up ?_ h
        intro r8 h
        by_cases hc : 0 < (Op.cmpValue (FP.dcmp r8 (FP.dconst1 : UInt64)) .g)
        · rw [if_pos hc] at h ⊢
          refine mnX4_bits ?_ h
          intro r9 h
          exact hr _ _ h
        · rw [if_neg hc] at h ⊢
          refine mnX4_bits ?_ h
          intro r10 h
          exact hr _ _ h
def wX4_odds (c : MS) (a : Int32) (kr : Int64 → MS → Prop) : Prop := bX4_odds_0 c a kr 
theorem mnX4_odds {c : MS} {a : Int32} {kr kq : Int64 → MS → Prop} (hr : ∀ x X, kr x X → kq x X) (h : wX4_odds c a kr) : wX4_odds c a kq := mbX4_odds_0 hr  h
def tX4_odds : Tr := fun as σ k => match as with
  | [.ref 20, .int a] => ∃ (c : MS) (u : Nat → aE) (M : aS), σ = pre20 u ++ (wM c ++ M) ∧ wX4_odds c a (fun x X => k (some (.long x)) (pre20 u ++ (wM X ++ M)))
  | _ => False
def ceX4_odds : List (Nat × Nat × Tr) := (2 * 129, 3, tX4_in) :: (2 * 243 + 1, 1 + 1, tX4_massHigh) :: (2 * 84, 1, tX4_up) :: (2 * 240 + 1, 1 + 1, tX4_massLow) :: (2 * 179, 1, tX4_down) :: (2 * 150, 2, tX4_divided) :: (2 * 81, 1, tX4_bits) :: []
theorem coX4_odds (l : Launch) : CEok l yX4_odds.cls 6 ceX4_odds := ce_S (okX4_in l) (mw 726 (by decide +kernel) rfl) (mw 727 (by decide +kernel) rfl) (mw 4 (by decide +kernel) rfl) (mw 728 (by decide +kernel) rfl) (by decide) ⟨by decide, by decide⟩ (ce_V (ci := 3) (n := 1) rfl (okX4_massHigh l) rcX4_massHigh (mw 919 (by decide +kernel) rfl) (mw 921 (by decide +kernel) rfl) (ms 34 (by decide +kernel) rfl) (mw 4 (by decide +kernel) rfl) (mw 922 (by decide +kernel) rfl) rfl (by decide) ⟨by decide, by decide⟩ (ce_S (okX4_up l) (mw 830 (by decide +kernel) rfl) (mw 831 (by decide +kernel) rfl) (mw 4 (by decide +kernel) rfl) (mw 832 (by decide +kernel) rfl) (by decide) ⟨by decide, by decide⟩ (ce_V (ci := 3) (n := 1) rfl (okX4_massLow l) rcX4_massLow (mw 915 (by decide +kernel) rfl) (mw 917 (by decide +kernel) rfl) (ms 33 (by decide +kernel) rfl) (mw 4 (by decide +kernel) rfl) (mw 918 (by decide +kernel) rfl) rfl (by decide) ⟨by decide, by decide⟩ (ce_S (okX4_down l) (mw 827 (by decide +kernel) rfl) (mw 828 (by decide +kernel) rfl) (mw 4 (by decide +kernel) rfl) (mw 829 (by decide +kernel) rfl) (by decide) ⟨by decide, by decide⟩ (ce_S (okX4_divided l) (mw 763 (by decide +kernel) rfl) (mw 764 (by decide +kernel) rfl) (mw 4 (by decide +kernel) rfl) (mw 765 (by decide +kernel) rfl) (by decide) ⟨by decide, by decide⟩ (ce_S (okX4_bits l) (mw 772 (by decide +kernel) rfl) (mw 773 (by decide +kernel) rfl) (mw 4 (by decide +kernel) rfl) (mw 774 (by decide +kernel) rfl) (by decide) ⟨by decide, by decide⟩ (ce_0)))))))
abbrev cutX4_odds : List (Nat × List Nat) := []
set_option maxRecDepth 20000 in
set_option maxHeartbeats 4000000 in
theorem lbX4_odds_0 {G : Nat → LV → List Value → aS → Prop} {post : Option Value → aS → Prop} (hG : ∀ n b pc lv st σ, seg (0, fun _ => 0) pgX4_odds ceX4_odds cutX4_odds G (fun v σ => rFit (some .long) v ∧ post v σ) n b pc lv st σ → G pc lv st σ) (c : MS) (u : Nat → aE) (M : aS) (a : Int32) (hb : bX4_odds_0 c a (fun x X => rFit (some .long) (some (.long x)) ∧ post (some (.long x)) (pre20 u ++ (wM X ++ M))) ) : G 0 [(0, .ref 20), (1, .int a)] [] (pre20 u ++ (wM c ++ M)) := by
  unfold bX4_odds_0 at hb
  refine hG 400 false 0 _ _ _ ?_
  refine And.intro trivial (mnX4_in ?_ hb)
  intro r1 _ hb
  refine And.intro (fun (h : r1 = 0) => ?_) (fun (h : ¬ r1 = 0) => ?_)
  · rw [if_pos h] at hb
    exact hb
  · rw [if_neg h] at hb
    refine And.intro (fun (h : ¬ ((msetI c 0 (0 : Int32)).1 3) = 0) => ?_) (fun hq => have h : ((msetI c 0 (0 : Int32)).1 3) = 0 := Classical.not_not.mp hq; ?_)
    · rw [if_neg h] at hb
      refine And.intro (fun (h : ¬ a = 0) => ?_) (fun hq => have h : a = 0 := Classical.not_not.mp hq; ?_)
      · rw [if_neg h] at hb
        refine Exists.intro (msetI c 0 (0 : Int32)) (Exists.intro u (Exists.intro M ((And.intro rfl (mnX4_massHigh ?_ hb)))))
        intro r2 X2 hb
        refine Exists.intro X2 (Exists.intro u (Exists.intro M ((And.intro rfl (mnX4_massHigh ?_ hb)))))
        intro r3 X3 hb
        obtain ⟨hi, hb⟩ := hb
        refine And.intro hi ?_
        refine And.intro trivial (mnX4_up ?_ hb)
        intro r4 hb
        refine Exists.intro X3 (Exists.intro u (Exists.intro M ((And.intro rfl (mnX4_massLow ?_ hb)))))
        intro r5 X5 hb
        obtain ⟨hi, hb⟩ := hb
        refine And.intro hi ?_
        refine And.intro trivial (mnX4_down ?_ hb)
        intro r6 hb
        refine And.intro trivial (mnX4_divided ?_ hb)
        intro r7 hb
        refine And.intro trivial (mnX4_up ?_ hb)
        intro r8 hb
        refine And.intro (fun (h : 0 < (Op.cmpValue (FP.dcmp r8 (FP.dconst1 : UInt64)) .g)) => ?_) (fun (h : ¬ 0 < (Op.cmpValue (FP.dcmp r8 (FP.dconst1 : UInt64)) .g)) => ?_)
        · rw [if_pos h] at hb
          refine And.intro trivial (mnX4_bits ?_ hb)
          intro r9 hb
          exact hb
        · rw [if_neg h] at hb
          refine And.intro trivial (mnX4_bits ?_ hb)
          intro r10 hb
          exact hb
      · rw [if_pos h] at hb
        refine Exists.intro (msetI c 0 (0 : Int32)) (Exists.intro u (Exists.intro M ((And.intro rfl (mnX4_massLow ?_ hb)))))
        intro r11 X11 hb
        refine Exists.intro X11 (Exists.intro u (Exists.intro M ((And.intro rfl (mnX4_massLow ?_ hb)))))
        intro r12 X12 hb
        refine Exists.intro X12 (Exists.intro u (Exists.intro M ((And.intro rfl (mnX4_massHigh ?_ hb)))))
        intro r13 X13 hb
        obtain ⟨hi, hb⟩ := hb
        refine And.intro hi ?_
        refine And.intro trivial (mnX4_up ?_ hb)
        intro r14 hb
        refine Exists.intro X13 (Exists.intro u (Exists.intro M ((And.intro rfl (mnX4_massHigh ?_ hb)))))
        intro r15 X15 hb
        obtain ⟨hi, hb⟩ := hb
        refine And.intro hi ?_
        refine And.intro trivial (mnX4_up ?_ hb)
        intro r16 hb
        refine And.intro trivial (mnX4_divided ?_ hb)
        intro r17 hb
        refine And.intro trivial (mnX4_down ?_ hb)
        intro r18 hb
        refine And.intro (fun (h : (Op.cmpValue (FP.dcmp r18 (FP.dconst0 : UInt64)) .l) < 0) => ?_) (fun (h : ¬ (Op.cmpValue (FP.dcmp r18 (FP.dconst0 : UInt64)) .l) < 0) => ?_)
        · rw [if_pos h] at hb
          refine And.intro trivial (mnX4_bits ?_ hb)
          intro r19 hb
          exact hb
        · rw [if_neg h] at hb
          refine And.intro trivial (mnX4_bits ?_ hb)
          intro r20 hb
          exact hb
    · rw [if_pos h] at hb
      exact hb
theorem rcX4_odds : ∀ as σ kk, tX4_odds as σ kk → ∃ a r fs, as = .ref a :: r ∧ σ[a]? = some (.inr (3, fs)) := by
  intro as σ kk h
  unfold tX4_odds at h; split at h
  · obtain ⟨c, u, M, rfl, -⟩ := h
    exact ⟨_, _, _, rfl, rfl⟩
  · exact h.elim
set_option maxRecDepth 20000 in
theorem okX4_odds (l : Launch) : OK l yX4_odds cX4_odds 6 (some .long) 6 tX4_odds := by
  intro D τ ρ A as σ post h
  unfold tX4_odds at h; split at h
  · rename_i a; obtain ⟨c, u, M, rfl, hw⟩ := h
    refine met_of (P := pgX4_odds) (CE := ceX4_odds) (cut := cutX4_odds) (by decide) kkX4_odds (coX4_odds l) (Nat.le_of_ble_eq_true rfl) ?_
    intro G hG
    unfold wX4_odds at hw
    refine lbX4_odds_0 hG c u M a (mbX4_odds_0 ?_  hw)
    · exact fun _ _ h => ⟨trivial, h⟩
  · exact h.elim
def bX4_countOf_0 (c : MS) (a : Int32) (kr : Int32 → MS → Prop) (kc4 : Int32 → Int32 → Int32 → MS → Prop) : Prop :=
  kc4 a (0 : Int32) (0 : Int32) c
def bX4_countOf_4 (c : MS) (a : Int32) (l2 : Int32) (l3 : Int32) (kr : Int32 → MS → Prop) (kc4 : Int32 → Int32 → Int32 → MS → Prop) : Prop :=
  (if (c.1 4) ≤ l3 then
    kr l2 c
  else
    (vp_in l3 100 ∧ (if (c.2.1 30 l3.toNatClampNeg) = a then
      kc4 a (l2 + (1 : Int32)) (l3 + (1 : Int32)) c
    else
      kc4 a (l2 + (0 : Int32)) (l3 + (1 : Int32)) c)))
set_option maxRecDepth 20000 in
theorem mbX4_countOf_0 {c : MS} {a : Int32} {kr kq : Int32 → MS → Prop} {kc4 kd4 : Int32 → Int32 → Int32 → MS → Prop} (hr : ∀ x X, kr x X → kq x X) (hc4 : ∀ z1 z2 z3 X, kc4 z1 z2 z3 X → kd4 z1 z2 z3 X) (h : bX4_countOf_0 c a kr kc4) : bX4_countOf_0 c a kq kd4 := by
  unfold bX4_countOf_0 at h ⊢
  exact hc4 _ _ _ _ h
set_option maxRecDepth 20000 in
theorem mbX4_countOf_4 {c : MS} {a : Int32} {l2 : Int32} {l3 : Int32} {kr kq : Int32 → MS → Prop} {kc4 kd4 : Int32 → Int32 → Int32 → MS → Prop} (hr : ∀ x X, kr x X → kq x X) (hc4 : ∀ z1 z2 z3 X, kc4 z1 z2 z3 X → kd4 z1 z2 z3 X) (h : bX4_countOf_4 c a l2 l3 kr kc4) : bX4_countOf_4 c a l2 l3 kq kd4 := by
  unfold bX4_countOf_4 at h ⊢
  by_cases hc : (c.1 4) ≤ l3
  · rw [if_pos hc] at h ⊢
    exact hr _ _ h
  · rw [if_neg hc] at h ⊢
    obtain ⟨hi, h⟩ := h
    refine And.intro hi ?_
    by_cases hc : (c.2.1 30 l3.toNatClampNeg) = a
    · rw [if_pos hc] at h ⊢
      exact hc4 _ _ _ _ h
    · rw [if_neg hc] at h ⊢
      exact hc4 _ _ _ _ h
def itX4_countOf_4 (kr : Int32 → MS → Prop) : Nat → Int32 → Int32 → Int32 → MS → Prop
  | 0, _, _, _, _ => False
  | n + 1, a, l2, l3, c => bX4_countOf_4 c a l2 l3 kr (fun z1 z2 z3 X => itX4_countOf_4 kr n z1 z2 z3 X)
theorem miX4_countOf_4 {kr kq : Int32 → MS → Prop} (hr : ∀ x X, kr x X → kq x X) : ∀ (n : Nat) (z1 : Int32) (z2 : Int32) (z3 : Int32) (X : MS), itX4_countOf_4 kr n z1 z2 z3 X → itX4_countOf_4 kq n z1 z2 z3 X
  | 0, _, _, _, _, h => h
  | n + 1, _, _, _, _, h => mbX4_countOf_4 hr (fun _ _ _ _ h => miX4_countOf_4 hr n _ _ _ _ h) h
def wX4_countOf (c : MS) (a : Int32) (kr : Int32 → MS → Prop) : Prop := bX4_countOf_0 c a kr (fun z1 z2 z3 X => ∃ N, itX4_countOf_4 kr N z1 z2 z3 X)
theorem mnX4_countOf {c : MS} {a : Int32} {kr kq : Int32 → MS → Prop} (hr : ∀ x X, kr x X → kq x X) (h : wX4_countOf c a kr) : wX4_countOf c a kq := mbX4_countOf_0 hr (fun _ _ _ _ h => h.elim fun N h => ⟨N, miX4_countOf_4 hr N _ _ _ _ h⟩) h
def tX4_countOf : Tr := fun as σ k => match as with
  | [.ref 20, .int a] => ∃ (c : MS) (u : Nat → aE) (M : aS), σ = pre20 u ++ (wM c ++ M) ∧ wX4_countOf c a (fun x X => k (some (.int x)) (pre20 u ++ (wM X ++ M)))
  | _ => False
def ceX4_countOf : List (Nat × Nat × Tr) := []
theorem coX4_countOf (l : Launch) : CEok l yX4_countOf.cls 0 ceX4_countOf := ce_0
abbrev cutX4_countOf : List (Nat × List Nat) := [(4, [0, 1, 2, 3])]
set_option maxRecDepth 20000 in
set_option maxHeartbeats 4000000 in
theorem lbX4_countOf_0 {G : Nat → LV → List Value → aS → Prop} {post : Option Value → aS → Prop} (hG : ∀ n b pc lv st σ, seg (0, fun _ => 0) pgX4_countOf ceX4_countOf cutX4_countOf G (fun v σ => rFit (some .int) v ∧ post v σ) n b pc lv st σ → G pc lv st σ) (c : MS) (u : Nat → aE) (M : aS) (a : Int32) (hb : bX4_countOf_0 c a (fun x X => rFit (some .int) (some (.int x)) ∧ post (some (.int x)) (pre20 u ++ (wM X ++ M))) (fun z1 z2 z3 X => G 4 [(0, .ref 20), (1, .int z1), (2, .int z2), (3, .int z3)] [] (pre20 u ++ (wM X ++ M)))) : G 0 [(0, .ref 20), (1, .int a)] [] (pre20 u ++ (wM c ++ M)) := by
  unfold bX4_countOf_0 at hb
  refine hG 400 false 0 _ _ _ ?_
  exact hb
set_option maxRecDepth 20000 in
set_option maxHeartbeats 4000000 in
theorem lbX4_countOf_4 {G : Nat → LV → List Value → aS → Prop} {post : Option Value → aS → Prop} (hG : ∀ n b pc lv st σ, seg (0, fun _ => 0) pgX4_countOf ceX4_countOf cutX4_countOf G (fun v σ => rFit (some .int) v ∧ post v σ) n b pc lv st σ → G pc lv st σ) (c : MS) (u : Nat → aE) (M : aS) (a : Int32) (l2 : Int32) (l3 : Int32) (hb : bX4_countOf_4 c a l2 l3 (fun x X => rFit (some .int) (some (.int x)) ∧ post (some (.int x)) (pre20 u ++ (wM X ++ M))) (fun z1 z2 z3 X => G 4 [(0, .ref 20), (1, .int z1), (2, .int z2), (3, .int z3)] [] (pre20 u ++ (wM X ++ M)))) : G 4 [(0, .ref 20), (1, .int a), (2, .int l2), (3, .int l3)] [] (pre20 u ++ (wM c ++ M)) := by
  unfold bX4_countOf_4 at hb
  refine hG 400 false 4 _ _ _ ?_
  refine And.intro (fun (h : (c.1 4) ≤ l3) => ?_) (fun (h : ¬ (c.1 4) ≤ l3) => ?_)
  · rw [if_pos h] at hb
    exact hb
  · rw [if_neg h] at hb
    obtain ⟨hi, hb⟩ := hb
    refine And.intro hi ?_
    refine And.intro (fun (h : ¬ (c.2.1 30 l3.toNatClampNeg) = a) => ?_) (fun hq => have h : (c.2.1 30 l3.toNatClampNeg) = a := Classical.not_not.mp hq; ?_)
    · rw [if_neg h] at hb
      exact hb
    · rw [if_pos h] at hb
      exact hb
theorem giX4_countOf_4 {G : Nat → LV → List Value → aS → Prop} {post : Option Value → aS → Prop} (hG : ∀ n b pc lv st σ, seg (0, fun _ => 0) pgX4_countOf ceX4_countOf cutX4_countOf G (fun v σ => rFit (some .int) v ∧ post v σ) n b pc lv st σ → G pc lv st σ) (u : Nat → aE) (M : aS) : ∀ (n : Nat) (z1 : Int32) (z2 : Int32) (z3 : Int32) (X : MS), itX4_countOf_4 (fun x X => rFit (some .int) (some (.int x)) ∧ post (some (.int x)) (pre20 u ++ (wM X ++ M))) n z1 z2 z3 X → G 4 [(0, .ref 20), (1, .int z1), (2, .int z2), (3, .int z3)] [] (pre20 u ++ (wM X ++ M))
  | 0, _, _, _, _, h => h.elim
  | n + 1, _, _, _, _, h => lbX4_countOf_4 hG _ u M _ _ _ (mbX4_countOf_4 (fun _ _ h => h) (fun _ _ _ _ h => giX4_countOf_4 hG u M n _ _ _ _ h) h)
theorem rcX4_countOf : ∀ as σ kk, tX4_countOf as σ kk → ∃ a r fs, as = .ref a :: r ∧ σ[a]? = some (.inr (3, fs)) := by
  intro as σ kk h
  unfold tX4_countOf at h; split at h
  · obtain ⟨c, u, M, rfl, -⟩ := h
    exact ⟨_, _, _, rfl, rfl⟩
  · exact h.elim
set_option maxRecDepth 20000 in
theorem okX4_countOf (l : Launch) : OK l yX4_countOf cX4_countOf 4 (some .int) 0 tX4_countOf := by
  intro D τ ρ A as σ post h
  unfold tX4_countOf at h; split at h
  · rename_i a; obtain ⟨c, u, M, rfl, hw⟩ := h
    refine met_of (P := pgX4_countOf) (CE := ceX4_countOf) (cut := cutX4_countOf) (by decide) kkX4_countOf (coX4_countOf l) (Nat.le_of_ble_eq_true rfl) ?_
    intro G hG
    unfold wX4_countOf at hw
    refine lbX4_countOf_0 hG c u M a (mbX4_countOf_0 ?_ ?_ hw)
    · exact fun _ _ h => ⟨trivial, h⟩
    · intro _ _ _ _ ⟨N, h⟩; exact giX4_countOf_4 hG u M N _ _ _ _ (miX4_countOf_4 (fun _ _ h => ⟨trivial, h⟩) N _ _ _ _ h)
  · exact h.elim
def bX4_share_0 (c : MS) (a : Int32) (kr : Int32 → MS → Prop)  : Prop :=
  (wX4_in a (0 : Int32) (3 : Int32) (fun r1 => (if r1 = 0 then
    kr (-2 : Int32) (msetI c 0 (0 : Int32))
  else
    (if ((msetI c 0 (0 : Int32)).1 3) = 0 then
      kr (-3 : Int32) (msetI c 0 (0 : Int32))
    else
      (wX4_countOf (msetI c 0 (0 : Int32)) (3 : Int32) (fun r2 X2 => (if r2 = 0 then
        kr (0 : Int32) (msetI X2 0 (1 : Int32))
      else
        (wX4_countOf X2 a (fun r3 X3 => (¬ r2 = 0 ∧ kr (r3 / r2) X3))))))))))
set_option maxRecDepth 20000 in
theorem mbX4_share_0 {c : MS} {a : Int32} {kr kq : Int32 → MS → Prop}  (hr : ∀ x X, kr x X → kq x X)  (h : bX4_share_0 c a kr ) : bX4_share_0 c a kq  := by
  unfold bX4_share_0 at h ⊢
  refine mnX4_in ?_ h
  intro r1 _ h
  by_cases hc : r1 = 0
  · rw [if_pos hc] at h ⊢
    exact hr _ _ h
  · rw [if_neg hc] at h ⊢
    by_cases hc : ((msetI c 0 (0 : Int32)).1 3) = 0
    · rw [if_pos hc] at h ⊢
      exact hr _ _ h
    · rw [if_neg hc] at h ⊢
      refine mnX4_countOf ?_ h
      intro r2 X2 h
      by_cases hc : r2 = 0
      · rw [if_pos hc] at h ⊢
        exact hr _ _ h
      · rw [if_neg hc] at h ⊢
        refine mnX4_countOf ?_ h
        intro r3 X3 h
        obtain ⟨hi, h⟩ := h
        refine And.intro hi ?_
        exact hr _ _ h
def wX4_share (c : MS) (a : Int32) (kr : Int32 → MS → Prop) : Prop := bX4_share_0 c a kr 
theorem mnX4_share {c : MS} {a : Int32} {kr kq : Int32 → MS → Prop} (hr : ∀ x X, kr x X → kq x X) (h : wX4_share c a kr) : wX4_share c a kq := mbX4_share_0 hr  h
def tX4_share : Tr := fun as σ k => match as with
  | [.ref 20, .int a] => ∃ (c : MS) (u : Nat → aE) (M : aS), σ = pre20 u ++ (wM c ++ M) ∧ wX4_share c a (fun x X => k (some (.int x)) (pre20 u ++ (wM X ++ M)))
  | _ => False
def ceX4_share : List (Nat × Nat × Tr) := (2 * 129, 3, tX4_in) :: (2 * 246 + 1, 1 + 1, tX4_countOf) :: []
theorem coX4_share (l : Launch) : CEok l yX4_share.cls 1 ceX4_share := ce_S (okX4_in l) (mw 726 (by decide +kernel) rfl) (mw 727 (by decide +kernel) rfl) (mw 4 (by decide +kernel) rfl) (mw 728 (by decide +kernel) rfl) (by decide) ⟨by decide, by decide⟩ (ce_V (ci := 3) (n := 1) rfl (okX4_countOf l) rcX4_countOf (mw 931 (by decide +kernel) rfl) (mw 933 (by decide +kernel) rfl) (ms 35 (by decide +kernel) rfl) (mw 4 (by decide +kernel) rfl) (mw 934 (by decide +kernel) rfl) rfl (by decide) ⟨by decide, by decide⟩ (ce_0))
abbrev cutX4_share : List (Nat × List Nat) := []
set_option maxRecDepth 20000 in
set_option maxHeartbeats 4000000 in
theorem lbX4_share_0 {G : Nat → LV → List Value → aS → Prop} {post : Option Value → aS → Prop} (hG : ∀ n b pc lv st σ, seg (0, fun _ => 0) pgX4_share ceX4_share cutX4_share G (fun v σ => rFit (some .int) v ∧ post v σ) n b pc lv st σ → G pc lv st σ) (c : MS) (u : Nat → aE) (M : aS) (a : Int32) (hb : bX4_share_0 c a (fun x X => rFit (some .int) (some (.int x)) ∧ post (some (.int x)) (pre20 u ++ (wM X ++ M))) ) : G 0 [(0, .ref 20), (1, .int a)] [] (pre20 u ++ (wM c ++ M)) := by
  unfold bX4_share_0 at hb
  refine hG 400 false 0 _ _ _ ?_
  refine And.intro trivial (mnX4_in ?_ hb)
  intro r1 _ hb
  refine And.intro (fun (h : ¬ r1 = 0) => ?_) (fun hq => have h : r1 = 0 := Classical.not_not.mp hq; ?_)
  · rw [if_neg h] at hb
    refine And.intro (fun (h : ¬ ((msetI c 0 (0 : Int32)).1 3) = 0) => ?_) (fun hq => have h : ((msetI c 0 (0 : Int32)).1 3) = 0 := Classical.not_not.mp hq; ?_)
    · rw [if_neg h] at hb
      refine Exists.intro (msetI c 0 (0 : Int32)) (Exists.intro u (Exists.intro M ((And.intro rfl (mnX4_countOf ?_ hb)))))
      intro r2 X2 hb
      refine And.intro (fun (h : ¬ r2 = 0) => ?_) (fun hq => have h : r2 = 0 := Classical.not_not.mp hq; ?_)
      · rw [if_neg h] at hb
        refine Exists.intro X2 (Exists.intro u (Exists.intro M ((And.intro rfl (mnX4_countOf ?_ hb)))))
        intro r3 X3 hb
        obtain ⟨hi, hb⟩ := hb
        refine And.intro hi ?_
        exact hb
      · rw [if_pos h] at hb
        exact hb
    · rw [if_pos h] at hb
      exact hb
  · rw [if_pos h] at hb
    exact hb
theorem rcX4_share : ∀ as σ kk, tX4_share as σ kk → ∃ a r fs, as = .ref a :: r ∧ σ[a]? = some (.inr (3, fs)) := by
  intro as σ kk h
  unfold tX4_share at h; split at h
  · obtain ⟨c, u, M, rfl, -⟩ := h
    exact ⟨_, _, _, rfl, rfl⟩
  · exact h.elim
set_option maxRecDepth 20000 in
theorem okX4_share (l : Launch) : OK l yX4_share cX4_share 3 (some .int) 1 tX4_share := by
  intro D τ ρ A as σ post h
  unfold tX4_share at h; split at h
  · rename_i a; obtain ⟨c, u, M, rfl, hw⟩ := h
    refine met_of (P := pgX4_share) (CE := ceX4_share) (cut := cutX4_share) (by decide) kkX4_share (coX4_share l) (Nat.le_of_ble_eq_true rfl) ?_
    intro G hG
    unfold wX4_share at hw
    refine lbX4_share_0 hG c u M a (mbX4_share_0 ?_  hw)
    · exact fun _ _ h => ⟨trivial, h⟩
  · exact h.elim
def bX4_count_0 (c : MS) (a : Int32) (kr : Int32 → MS → Prop) (kc9 : Int32 → Int32 → Int32 → MS → Prop) : Prop :=
  kc9 a (0 : Int32) (0 : Int32) (msetI c 0 (0 : Int32))
def bX4_count_9 (c : MS) (a : Int32) (l2 : Int32) (l3 : Int32) (kr : Int32 → MS → Prop) (kc9 : Int32 → Int32 → Int32 → MS → Prop) : Prop :=
  (if (c.1 4) ≤ l3 then
    (if a.toInt < 0 ∨ 4 < a.toInt then
      kr (-2 : Int32) c
    else if a = (0 : Int32) then
      kr (c.1 1) c
    else if a = (1 : Int32) then
      kr (c.1 2) c
    else if a = (2 : Int32) then
      kr (c.1 4) c
    else if a = (3 : Int32) then
      kr (c.1 5) c
    else
      kr l2 c)
  else
    (vp_in l3 100 ∧ (if (c.2.1 30 l3.toNatClampNeg) = (3 : Int32) then
      (wX4_isTight c l3 (fun r1 X1 => (if r1 = 0 then
        kc9 a (l2 + (0 : Int32)) (l3 + (1 : Int32)) X1
      else
        kc9 a (l2 + (1 : Int32)) (l3 + (1 : Int32)) X1)))
    else
      kc9 a (l2 + (0 : Int32)) (l3 + (1 : Int32)) c)))
set_option maxRecDepth 20000 in
theorem mbX4_count_0 {c : MS} {a : Int32} {kr kq : Int32 → MS → Prop} {kc9 kd9 : Int32 → Int32 → Int32 → MS → Prop} (hr : ∀ x X, kr x X → kq x X) (hc9 : ∀ z1 z2 z3 X, kc9 z1 z2 z3 X → kd9 z1 z2 z3 X) (h : bX4_count_0 c a kr kc9) : bX4_count_0 c a kq kd9 := by
  unfold bX4_count_0 at h ⊢
  exact hc9 _ _ _ _ h
set_option maxRecDepth 20000 in
theorem mbX4_count_9 {c : MS} {a : Int32} {l2 : Int32} {l3 : Int32} {kr kq : Int32 → MS → Prop} {kc9 kd9 : Int32 → Int32 → Int32 → MS → Prop} (hr : ∀ x X, kr x X → kq x X) (hc9 : ∀ z1 z2 z3 X, kc9 z1 z2 z3 X → kd9 z1 z2 z3 X) (h : bX4_count_9 c a l2 l3 kr kc9) : bX4_count_9 c a l2 l3 kq kd9 := by
  unfold bX4_count_9 at h ⊢
  by_cases hc : (c.1 4) ≤ l3
  · rw [if_pos hc] at h ⊢
    by_cases hc : a.toInt < 0 ∨ 4 < a.toInt
    · rw [if_pos hc] at h ⊢
      exact hr _ _ h
    rw [if_neg hc] at h ⊢
    by_cases hc : a = (0 : Int32)
    · rw [if_pos hc] at h ⊢
      exact hr _ _ h
    rw [if_neg hc] at h ⊢
    by_cases hc : a = (1 : Int32)
    · rw [if_pos hc] at h ⊢
      exact hr _ _ h
    rw [if_neg hc] at h ⊢
    by_cases hc : a = (2 : Int32)
    · rw [if_pos hc] at h ⊢
      exact hr _ _ h
    rw [if_neg hc] at h ⊢
    by_cases hc : a = (3 : Int32)
    · rw [if_pos hc] at h ⊢
      exact hr _ _ h
    rw [if_neg hc] at h ⊢
    exact hr _ _ h
  · rw [if_neg hc] at h ⊢
    obtain ⟨hi, h⟩ := h
    refine And.intro hi ?_
    by_cases hc : (c.2.1 30 l3.toNatClampNeg) = (3 : Int32)
    · rw [if_pos hc] at h ⊢
      refine mnX4_isTight ?_ h
      intro r1 X1 _ h
      by_cases hc : r1 = 0
      · rw [if_pos hc] at h ⊢
        exact hc9 _ _ _ _ h
      · rw [if_neg hc] at h ⊢
        exact hc9 _ _ _ _ h
    · rw [if_neg hc] at h ⊢
      exact hc9 _ _ _ _ h
def itX4_count_9 (kr : Int32 → MS → Prop) : Nat → Int32 → Int32 → Int32 → MS → Prop
  | 0, _, _, _, _ => False
  | n + 1, a, l2, l3, c => bX4_count_9 c a l2 l3 kr (fun z1 z2 z3 X => itX4_count_9 kr n z1 z2 z3 X)
theorem miX4_count_9 {kr kq : Int32 → MS → Prop} (hr : ∀ x X, kr x X → kq x X) : ∀ (n : Nat) (z1 : Int32) (z2 : Int32) (z3 : Int32) (X : MS), itX4_count_9 kr n z1 z2 z3 X → itX4_count_9 kq n z1 z2 z3 X
  | 0, _, _, _, _, h => h
  | n + 1, _, _, _, _, h => mbX4_count_9 hr (fun _ _ _ _ h => miX4_count_9 hr n _ _ _ _ h) h
def wX4_count (c : MS) (a : Int32) (kr : Int32 → MS → Prop) : Prop := bX4_count_0 c a kr (fun z1 z2 z3 X => ∃ N, itX4_count_9 kr N z1 z2 z3 X)
theorem mnX4_count {c : MS} {a : Int32} {kr kq : Int32 → MS → Prop} (hr : ∀ x X, kr x X → kq x X) (h : wX4_count c a kr) : wX4_count c a kq := mbX4_count_0 hr (fun _ _ _ _ h => h.elim fun N h => ⟨N, miX4_count_9 hr N _ _ _ _ h⟩) h
def tX4_count : Tr := fun as σ k => match as with
  | [.ref 20, .int a] => ∃ (c : MS) (u : Nat → aE) (M : aS), σ = pre20 u ++ (wM c ++ M) ∧ wX4_count c a (fun x X => k (some (.int x)) (pre20 u ++ (wM X ++ M)))
  | _ => False
def ceX4_count : List (Nat × Nat × Tr) := (2 * 223 + 1, 1 + 1, tX4_isTight) :: []
theorem coX4_count (l : Launch) : CEok l yX4_count.cls 3 ceX4_count := ce_V (ci := 3) (n := 1) rfl (okX4_isTight l) rcX4_isTight (mw 859 (by decide +kernel) rfl) (mw 861 (by decide +kernel) rfl) (ms 28 (by decide +kernel) rfl) (mw 4 (by decide +kernel) rfl) (mw 862 (by decide +kernel) rfl) rfl (by decide) ⟨by decide, by decide⟩ (ce_0)
abbrev cutX4_count : List (Nat × List Nat) := [(9, [0, 1, 2, 3])]
set_option maxRecDepth 20000 in
set_option maxHeartbeats 4000000 in
theorem lbX4_count_0 {G : Nat → LV → List Value → aS → Prop} {post : Option Value → aS → Prop} (hG : ∀ n b pc lv st σ, seg (0, fun _ => 0) pgX4_count ceX4_count cutX4_count G (fun v σ => rFit (some .int) v ∧ post v σ) n b pc lv st σ → G pc lv st σ) (c : MS) (u : Nat → aE) (M : aS) (a : Int32) (hb : bX4_count_0 c a (fun x X => rFit (some .int) (some (.int x)) ∧ post (some (.int x)) (pre20 u ++ (wM X ++ M))) (fun z1 z2 z3 X => G 9 [(0, .ref 20), (1, .int z1), (2, .int z2), (3, .int z3)] [] (pre20 u ++ (wM X ++ M)))) : G 0 [(0, .ref 20), (1, .int a)] [] (pre20 u ++ (wM c ++ M)) := by
  unfold bX4_count_0 at hb
  refine hG 400 false 0 _ _ _ ?_
  exact hb
set_option maxRecDepth 20000 in
set_option maxHeartbeats 4000000 in
theorem lbX4_count_9 {G : Nat → LV → List Value → aS → Prop} {post : Option Value → aS → Prop} (hG : ∀ n b pc lv st σ, seg (0, fun _ => 0) pgX4_count ceX4_count cutX4_count G (fun v σ => rFit (some .int) v ∧ post v σ) n b pc lv st σ → G pc lv st σ) (c : MS) (u : Nat → aE) (M : aS) (a : Int32) (l2 : Int32) (l3 : Int32) (hb : bX4_count_9 c a l2 l3 (fun x X => rFit (some .int) (some (.int x)) ∧ post (some (.int x)) (pre20 u ++ (wM X ++ M))) (fun z1 z2 z3 X => G 9 [(0, .ref 20), (1, .int z1), (2, .int z2), (3, .int z3)] [] (pre20 u ++ (wM X ++ M)))) : G 9 [(0, .ref 20), (1, .int a), (2, .int l2), (3, .int l3)] [] (pre20 u ++ (wM c ++ M)) := by
  unfold bX4_count_9 at hb
  refine hG 400 false 9 _ _ _ ?_
  refine And.intro (fun (h : (c.1 4) ≤ l3) => ?_) (fun (h : ¬ (c.1 4) ≤ l3) => ?_)
  · rw [if_pos h] at hb
    refine And.intro (fun (h : a.toInt < 0 ∨ 4 < a.toInt) => ?_) ?_
    · rw [if_pos h] at hb
      exact hb
    refine And.intro (fun (hw : a = (0 : Int32)) => ?_) ?_
    · rw [if_neg (show ¬ (a.toInt < 0 ∨ 4 < a.toInt) by rw [hw]; decide), if_pos hw] at hb
      exact hb
    refine And.intro (fun (hw : a = (1 : Int32)) => ?_) ?_
    · rw [if_neg (show ¬ (a.toInt < 0 ∨ 4 < a.toInt) by rw [hw]; decide), if_neg (show ¬ (a = (0 : Int32)) by rw [hw]; decide), if_pos hw] at hb
      exact hb
    refine And.intro (fun (hw : a = (2 : Int32)) => ?_) ?_
    · rw [if_neg (show ¬ (a.toInt < 0 ∨ 4 < a.toInt) by rw [hw]; decide), if_neg (show ¬ (a = (0 : Int32)) by rw [hw]; decide), if_neg (show ¬ (a = (1 : Int32)) by rw [hw]; decide), if_pos hw] at hb
      exact hb
    refine And.intro (fun (hw : a = (3 : Int32)) => ?_) ?_
    · rw [if_neg (show ¬ (a.toInt < 0 ∨ 4 < a.toInt) by rw [hw]; decide), if_neg (show ¬ (a = (0 : Int32)) by rw [hw]; decide), if_neg (show ¬ (a = (1 : Int32)) by rw [hw]; decide), if_neg (show ¬ (a = (2 : Int32)) by rw [hw]; decide), if_pos hw] at hb
      exact hb
    refine And.intro (fun (hw : a = (4 : Int32)) => ?_) ?_
    · rw [if_neg (show ¬ (a.toInt < 0 ∨ 4 < a.toInt) by rw [hw]; decide), if_neg (show ¬ (a = (0 : Int32)) by rw [hw]; decide), if_neg (show ¬ (a = (1 : Int32)) by rw [hw]; decide), if_neg (show ¬ (a = (2 : Int32)) by rw [hw]; decide), if_neg (show ¬ (a = (3 : Int32)) by rw [hw]; decide)] at hb
      exact hb
    exact trivial
  · rw [if_neg h] at hb
    obtain ⟨hi, hb⟩ := hb
    refine And.intro hi ?_
    refine And.intro (fun (h : ¬ (c.2.1 30 l3.toNatClampNeg) = (3 : Int32)) => ?_) (fun hq => have h : (c.2.1 30 l3.toNatClampNeg) = (3 : Int32) := Classical.not_not.mp hq; ?_)
    · rw [if_neg h] at hb
      exact hb
    · rw [if_pos h] at hb
      refine Exists.intro c (Exists.intro u (Exists.intro M ((And.intro rfl (mnX4_isTight ?_ hb)))))
      intro r1 X1 _ hb
      refine And.intro (fun (h : r1 = 0) => ?_) (fun (h : ¬ r1 = 0) => ?_)
      · rw [if_pos h] at hb
        exact hb
      · rw [if_neg h] at hb
        exact hb
theorem giX4_count_9 {G : Nat → LV → List Value → aS → Prop} {post : Option Value → aS → Prop} (hG : ∀ n b pc lv st σ, seg (0, fun _ => 0) pgX4_count ceX4_count cutX4_count G (fun v σ => rFit (some .int) v ∧ post v σ) n b pc lv st σ → G pc lv st σ) (u : Nat → aE) (M : aS) : ∀ (n : Nat) (z1 : Int32) (z2 : Int32) (z3 : Int32) (X : MS), itX4_count_9 (fun x X => rFit (some .int) (some (.int x)) ∧ post (some (.int x)) (pre20 u ++ (wM X ++ M))) n z1 z2 z3 X → G 9 [(0, .ref 20), (1, .int z1), (2, .int z2), (3, .int z3)] [] (pre20 u ++ (wM X ++ M))
  | 0, _, _, _, _, h => h.elim
  | n + 1, _, _, _, _, h => lbX4_count_9 hG _ u M _ _ _ (mbX4_count_9 (fun _ _ h => h) (fun _ _ _ _ h => giX4_count_9 hG u M n _ _ _ _ h) h)
theorem rcX4_count : ∀ as σ kk, tX4_count as σ kk → ∃ a r fs, as = .ref a :: r ∧ σ[a]? = some (.inr (3, fs)) := by
  intro as σ kk h
  unfold tX4_count at h; split at h
  · obtain ⟨c, u, M, rfl, -⟩ := h
    exact ⟨_, _, _, rfl, rfl⟩
  · exact h.elim
set_option maxRecDepth 20000 in
theorem okX4_count (l : Launch) : OK l yX4_count cX4_count 4 (some .int) 3 tX4_count := by
  intro D τ ρ A as σ post h
  unfold tX4_count at h; split at h
  · rename_i a; obtain ⟨c, u, M, rfl, hw⟩ := h
    refine met_of (P := pgX4_count) (CE := ceX4_count) (cut := cutX4_count) (by decide) kkX4_count (coX4_count l) (Nat.le_of_ble_eq_true rfl) ?_
    intro G hG
    unfold wX4_count at hw
    refine lbX4_count_0 hG c u M a (mbX4_count_0 ?_ ?_ hw)
    · exact fun _ _ h => ⟨trivial, h⟩
    · intro _ _ _ _ ⟨N, h⟩; exact giX4_count_9 hG u M N _ _ _ _ (miX4_count_9 (fun _ _ h => ⟨trivial, h⟩) N _ _ _ _ h)
  · exact h.elim
def bX4_clear_0 (c : MS)  (kr : Int32 → MS → Prop) (kc22 : Int32 → Int32 → MS → Prop) : Prop :=
  kc22 ((msetI c 0 (0 : Int32)).1 2) (0 : Int32) (msetI (msetI (msetI c 0 (0 : Int32)) 1 (0 : Int32)) 2 (0 : Int32))
def bX4_clear_22 (c : MS) (l1 : Int32) (l2 : Int32) (kr : Int32 → MS → Prop) (kc22 : Int32 → Int32 → MS → Prop) : Prop :=
  (if (5 : Int32) ≤ l2 then
    (wX4_ends c  (fun  X1 => kr l1 X1))
  else
    (vp_in l2 5 ∧ kc22 l1 (l2 + (1 : Int32)) (msetA c 27 (upd (c.2.1 27) l2.toNatClampNeg (-5 : Int32)))))
set_option maxRecDepth 20000 in
theorem mbX4_clear_0 {c : MS}  {kr kq : Int32 → MS → Prop} {kc22 kd22 : Int32 → Int32 → MS → Prop} (hr : ∀ x X, kr x X → kq x X) (hc22 : ∀ z1 z2 X, kc22 z1 z2 X → kd22 z1 z2 X) (h : bX4_clear_0 c  kr kc22) : bX4_clear_0 c  kq kd22 := by
  unfold bX4_clear_0 at h ⊢
  exact hc22 _ _ _ h
set_option maxRecDepth 20000 in
theorem mbX4_clear_22 {c : MS} {l1 : Int32} {l2 : Int32} {kr kq : Int32 → MS → Prop} {kc22 kd22 : Int32 → Int32 → MS → Prop} (hr : ∀ x X, kr x X → kq x X) (hc22 : ∀ z1 z2 X, kc22 z1 z2 X → kd22 z1 z2 X) (h : bX4_clear_22 c l1 l2 kr kc22) : bX4_clear_22 c l1 l2 kq kd22 := by
  unfold bX4_clear_22 at h ⊢
  by_cases hc : (5 : Int32) ≤ l2
  · rw [if_pos hc] at h ⊢
    refine mnX4_ends ?_ h
    intro  X1 h
    exact hr _ _ h
  · rw [if_neg hc] at h ⊢
    obtain ⟨hi, h⟩ := h
    refine And.intro hi ?_
    exact hc22 _ _ _ h
def itX4_clear_22 (kr : Int32 → MS → Prop) : Nat → Int32 → Int32 → MS → Prop
  | 0, _, _, _ => False
  | n + 1, l1, l2, c => bX4_clear_22 c l1 l2 kr (fun z1 z2 X => itX4_clear_22 kr n z1 z2 X)
theorem miX4_clear_22 {kr kq : Int32 → MS → Prop} (hr : ∀ x X, kr x X → kq x X) : ∀ (n : Nat) (z1 : Int32) (z2 : Int32) (X : MS), itX4_clear_22 kr n z1 z2 X → itX4_clear_22 kq n z1 z2 X
  | 0, _, _, _, h => h
  | n + 1, _, _, _, h => mbX4_clear_22 hr (fun _ _ _ h => miX4_clear_22 hr n _ _ _ h) h
def wX4_clear (c : MS)  (kr : Int32 → MS → Prop) : Prop := bX4_clear_0 c  kr (fun z1 z2 X => ∃ N, itX4_clear_22 kr N z1 z2 X)
theorem mnX4_clear {c : MS}  {kr kq : Int32 → MS → Prop} (hr : ∀ x X, kr x X → kq x X) (h : wX4_clear c  kr) : wX4_clear c  kq := mbX4_clear_0 hr (fun _ _ _ h => h.elim fun N h => ⟨N, miX4_clear_22 hr N _ _ _ h⟩) h
def tX4_clear : Tr := fun as σ k => match as with
  | [.ref 20] => ∃ (c : MS) (u : Nat → aE) (M : aS), σ = pre20 u ++ (wM c ++ M) ∧ wX4_clear c  (fun x X => k (some (.int x)) (pre20 u ++ (wM X ++ M)))
  | _ => False
def ceX4_clear : List (Nat × Nat × Tr) := (2 * 123 + 1, 0 + 1, tX4_ends) :: []
theorem coX4_clear (l : Launch) : CEok l yX4_clear.cls 1 ceX4_clear := ce_V (ci := 3) (n := 0) rfl (okX4_ends l) rcX4_ends (mw 718 (by decide +kernel) rfl) (mw 720 (by decide +kernel) rfl) (ms 16 (by decide +kernel) rfl) (mw 4 (by decide +kernel) rfl) (mw 721 (by decide +kernel) rfl) rfl (by decide) ⟨by decide, by decide⟩ (ce_0)
abbrev cutX4_clear : List (Nat × List Nat) := [(22, [0, 1, 2])]
set_option maxRecDepth 20000 in
set_option maxHeartbeats 4000000 in
theorem lbX4_clear_0 {G : Nat → LV → List Value → aS → Prop} {post : Option Value → aS → Prop} (hG : ∀ n b pc lv st σ, seg (0, fun _ => 0) pgX4_clear ceX4_clear cutX4_clear G (fun v σ => rFit (some .int) v ∧ post v σ) n b pc lv st σ → G pc lv st σ) (c : MS) (u : Nat → aE) (M : aS)  (hb : bX4_clear_0 c  (fun x X => rFit (some .int) (some (.int x)) ∧ post (some (.int x)) (pre20 u ++ (wM X ++ M))) (fun z1 z2 X => G 22 [(0, .ref 20), (1, .int z1), (2, .int z2)] [] (pre20 u ++ (wM X ++ M)))) : G 0 [(0, .ref 20)] [] (pre20 u ++ (wM c ++ M)) := by
  unfold bX4_clear_0 at hb
  refine hG 400 false 0 _ _ _ ?_
  exact hb
set_option maxRecDepth 20000 in
set_option maxHeartbeats 4000000 in
theorem lbX4_clear_22 {G : Nat → LV → List Value → aS → Prop} {post : Option Value → aS → Prop} (hG : ∀ n b pc lv st σ, seg (0, fun _ => 0) pgX4_clear ceX4_clear cutX4_clear G (fun v σ => rFit (some .int) v ∧ post v σ) n b pc lv st σ → G pc lv st σ) (c : MS) (u : Nat → aE) (M : aS) (l1 : Int32) (l2 : Int32) (hb : bX4_clear_22 c l1 l2 (fun x X => rFit (some .int) (some (.int x)) ∧ post (some (.int x)) (pre20 u ++ (wM X ++ M))) (fun z1 z2 X => G 22 [(0, .ref 20), (1, .int z1), (2, .int z2)] [] (pre20 u ++ (wM X ++ M)))) : G 22 [(0, .ref 20), (1, .int l1), (2, .int l2)] [] (pre20 u ++ (wM c ++ M)) := by
  unfold bX4_clear_22 at hb
  refine hG 400 false 22 _ _ _ ?_
  refine And.intro (fun (h : (5 : Int32) ≤ l2) => ?_) (fun (h : ¬ (5 : Int32) ≤ l2) => ?_)
  · rw [if_pos h] at hb
    refine Exists.intro c (Exists.intro u (Exists.intro M ((And.intro rfl (mnX4_ends ?_ hb)))))
    intro  X1 hb
    exact hb
  · rw [if_neg h] at hb
    obtain ⟨hi, hb⟩ := hb
    refine And.intro hi ?_
    exact hb
theorem giX4_clear_22 {G : Nat → LV → List Value → aS → Prop} {post : Option Value → aS → Prop} (hG : ∀ n b pc lv st σ, seg (0, fun _ => 0) pgX4_clear ceX4_clear cutX4_clear G (fun v σ => rFit (some .int) v ∧ post v σ) n b pc lv st σ → G pc lv st σ) (u : Nat → aE) (M : aS) : ∀ (n : Nat) (z1 : Int32) (z2 : Int32) (X : MS), itX4_clear_22 (fun x X => rFit (some .int) (some (.int x)) ∧ post (some (.int x)) (pre20 u ++ (wM X ++ M))) n z1 z2 X → G 22 [(0, .ref 20), (1, .int z1), (2, .int z2)] [] (pre20 u ++ (wM X ++ M))
  | 0, _, _, _, h => h.elim
  | n + 1, _, _, _, h => lbX4_clear_22 hG _ u M _ _ (mbX4_clear_22 (fun _ _ h => h) (fun _ _ _ h => giX4_clear_22 hG u M n _ _ _ h) h)
theorem rcX4_clear : ∀ as σ kk, tX4_clear as σ kk → ∃ a r fs, as = .ref a :: r ∧ σ[a]? = some (.inr (3, fs)) := by
  intro as σ kk h
  unfold tX4_clear at h; split at h
  · obtain ⟨c, u, M, rfl, -⟩ := h
    exact ⟨_, _, _, rfl, rfl⟩
  · exact h.elim
set_option maxRecDepth 20000 in
theorem okX4_clear (l : Launch) : OK l yX4_clear cX4_clear 3 (some .int) 1 tX4_clear := by
  intro D τ ρ A as σ post h
  unfold tX4_clear at h; split at h
  · obtain ⟨c, u, M, rfl, hw⟩ := h
    refine met_of (P := pgX4_clear) (CE := ceX4_clear) (cut := cutX4_clear) (by decide) kkX4_clear (coX4_clear l) (Nat.le_of_ble_eq_true rfl) ?_
    intro G hG
    unfold wX4_clear at hw
    refine lbX4_clear_0 hG c u M  (mbX4_clear_0 ?_ ?_ hw)
    · exact fun _ _ h => ⟨trivial, h⟩
    · intro _ _ _ ⟨N, h⟩; exact giX4_clear_22 hG u M N _ _ _ (miX4_clear_22 (fun _ _ h => ⟨trivial, h⟩) N _ _ _ h)
  · exact h.elim
