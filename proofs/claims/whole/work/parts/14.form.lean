def vX0_has (c : CS) (a : Int32) : Int32 :=
  if a < 0 then
    (0 : Int32)
  else
    if (c.1 2) ≤ a then
      (0 : Int32)
    else
      (1 : Int32)
def tX0_has : Tr := fun as σ k => match as with
  | [.ref 3, .int a] => ∃ (c : CS) (M : aS), σ = wC c ++ M ∧ k (some (.int (vX0_has c a))) (wC c ++ M)
  | _ => False
def ceX0_has : List (Nat × Nat × Tr) := []
theorem coX0_has (l : Launch) : CEok l yX0_has.cls 0 ceX0_has := ce_0
theorem rcX0_has : ∀ as σ kk, tX0_has as σ kk → ∃ a r fs, as = .ref a :: r ∧ σ[a]? = some (.inr (0, fs)) := by
  intro as σ kk h
  unfold tX0_has at h; split at h
  · obtain ⟨c, M, rfl, -⟩ := h
    exact ⟨_, _, _, rfl, rfl⟩
  · exact h.elim
set_option maxRecDepth 20000 in
set_option maxHeartbeats 4000000 in
theorem okX0_has (l : Launch) : OK l yX0_has cX0_has 2 (some .boolean) 0 tX0_has := by
  intro D τ ρ A as σ post h
  unfold tX0_has at h; split at h
  · rename_i a; obtain ⟨c, M, rfl, hk⟩ := h
    refine met_of (P := pgX0_has) (CE := ceX0_has) (cut := []) (by decide) kkX0_has (coX0_has l) (Nat.le_of_ble_eq_true rfl) ?_
    intro G hG; refine hG 200 false 0 _ _ _ ?_
    refine And.intro (fun (h0 : a < 0) => ?_) (fun (h0 : ¬ a < 0) => ?_)
    · exact And.intro (Or.inl rfl) (leafS hk (congrArg (fun z => some (Value.int z)) (by unfold vX0_has; first | (rw [if_pos h0]; done) | (rw [if_pos h0]; rfl))) rfl)
    · refine And.intro (fun (h1 : (c.1 2) ≤ a) => ?_) (fun (h1 : ¬ (c.1 2) ≤ a) => ?_)
      · exact And.intro (Or.inl rfl) (leafS hk (congrArg (fun z => some (Value.int z)) (by unfold vX0_has; first | (rw [if_neg h0, if_pos h1]; done) | (rw [if_neg h0, if_pos h1]; rfl))) rfl)
      · exact And.intro (Or.inr rfl) (leafS hk (congrArg (fun z => some (Value.int z)) (by unfold vX0_has; first | (rw [if_neg h0, if_neg h1]; done) | (rw [if_neg h0, if_neg h1]; rfl))) rfl)
  · exact h.elim
def gX0_putWholeLine (c : CS) (a : Int32) : CS :=
  (setL (setL c 4 (vp_updL (c.2.2 4) a.toNatClampNeg (-4503599627370496 : Int64))) 5 (vp_updL ((setL c 4 (vp_updL (c.2.2 4) a.toNatClampNeg (-4503599627370496 : Int64))).2.2 5) a.toNatClampNeg (9218868437227405312 : Int64)))
def tX0_putWholeLine : Tr := fun as σ k => match as with
  | [.ref 3, .int a] => ∃ (c : CS) (M : aS), σ = wC c ++ M ∧ vp_in a 32 ∧ k none (wC (gX0_putWholeLine c a) ++ M)
  | _ => False
def ceX0_putWholeLine : List (Nat × Nat × Tr) := []
theorem coX0_putWholeLine (l : Launch) : CEok l yX0_putWholeLine.cls 0 ceX0_putWholeLine := ce_0
theorem rcX0_putWholeLine : ∀ as σ kk, tX0_putWholeLine as σ kk → ∃ a r fs, as = .ref a :: r ∧ σ[a]? = some (.inr (0, fs)) := by
  intro as σ kk h
  unfold tX0_putWholeLine at h; split at h
  · obtain ⟨c, M, rfl, -⟩ := h
    exact ⟨_, _, _, rfl, rfl⟩
  · exact h.elim
set_option maxRecDepth 20000 in
set_option maxHeartbeats 4000000 in
theorem okX0_putWholeLine (l : Launch) : OK l yX0_putWholeLine cX0_putWholeLine 2 none 0 tX0_putWholeLine := by
  intro D τ ρ A as σ post h
  unfold tX0_putWholeLine at h; split at h
  · rename_i a; obtain ⟨c, M, rfl, p1, hk⟩ := h
    refine met_of (P := pgX0_putWholeLine) (CE := ceX0_putWholeLine) (cut := []) (by decide) kkX0_putWholeLine (coX0_putWholeLine l) (Nat.le_of_ble_eq_true rfl) ?_
    intro G hG; refine hG 200 false 0 _ _ _ ?_
    refine And.intro (by first | assumption | (unfold vp_in; decide)) ?_
    refine And.intro (by first | assumption | (unfold vp_in; decide)) ?_
    exact And.intro trivial (leafS hk rfl (show wC _ ++ M = _ by unfold gX0_putWholeLine; rfl))
  · exact h.elim
def gX0_put (c : CS) (a : Int32) (b : Int64) (d : Int64) : CS :=
  if (fX1_isNone b) = 0 then
    if (fX1_isNone d) = 0 then
      (setL (setL c 4 (vp_updL (c.2.2 4) a.toNatClampNeg b)) 5 (vp_updL ((setL c 4 (vp_updL (c.2.2 4) a.toNatClampNeg b)).2.2 5) a.toNatClampNeg d))
    else
      (gX0_putWholeLine c a)
  else
    (gX0_putWholeLine c a)
def tX0_put : Tr := fun as σ k => match as with
  | [.ref 3, .int a, .long b, .long d] => ∃ (c : CS) (M : aS), σ = wC c ++ M ∧ vp_in a 32 ∧ k none (wC (gX0_put c a b d) ++ M)
  | _ => False
def ceX0_put : List (Nat × Nat × Tr) := (2 * 149, 1, tX1_isNone) :: (2 * 133 + 1, 1 + 1, tX0_putWholeLine) :: []
theorem coX0_put (l : Launch) : CEok l yX0_put.cls 1 ceX0_put := ce_S (okX1_isNone l) (mw 212 (by decide +kernel) rfl) (mw 137 (by decide +kernel) rfl) (mw 5 (by decide +kernel) rfl) (mw 138 (by decide +kernel) rfl) (by decide) ⟨by decide, by decide⟩ (ce_V (ci := 0) (n := 1) rfl (okX0_putWholeLine l) rcX0_putWholeLine (mw 213 (by decide +kernel) rfl) (mw 215 (by decide +kernel) rfl) (ms 3 (by decide +kernel) rfl) (mw 2 (by decide +kernel) rfl) (mw 216 (by decide +kernel) rfl) rfl (by decide) ⟨by decide, by decide⟩ (ce_0))
theorem rcX0_put : ∀ as σ kk, tX0_put as σ kk → ∃ a r fs, as = .ref a :: r ∧ σ[a]? = some (.inr (0, fs)) := by
  intro as σ kk h
  unfold tX0_put at h; split at h
  · obtain ⟨c, M, rfl, -⟩ := h
    exact ⟨_, _, _, rfl, rfl⟩
  · exact h.elim
set_option maxRecDepth 20000 in
set_option maxHeartbeats 4000000 in
theorem okX0_put (l : Launch) : OK l yX0_put cX0_put 6 none 1 tX0_put := by
  intro D τ ρ A as σ post h
  unfold tX0_put at h; split at h
  · rename_i a b d; obtain ⟨c, M, rfl, p1, hk⟩ := h
    refine met_of (P := pgX0_put) (CE := ceX0_put) (cut := []) (by decide) kkX0_put (coX0_put l) (Nat.le_of_ble_eq_true rfl) ?_
    intro G hG; refine hG 200 false 0 _ _ _ ?_
    refine And.intro (fun (h0 : ¬ (fX1_isNone b) = 0) => ?_) (fun h0q => have h0 : (fX1_isNone b) = 0 := Classical.not_not.mp h0q; ?_)
    · refine Exists.intro c (Exists.intro M (And.intro rfl (And.intro (by first | assumption | (unfold vp_in; decide)) (?_))))
      exact And.intro trivial (leafS hk rfl (show wC _ ++ M = _ by unfold gX0_put; first | (rw [if_neg h0]; done) | (rw [if_neg h0]; rfl)))
    · refine And.intro (fun (h1 : (fX1_isNone d) = 0) => ?_) (fun (h1 : ¬ (fX1_isNone d) = 0) => ?_)
      · refine And.intro (by first | assumption | (unfold vp_in; decide)) ?_
        refine And.intro (by first | assumption | (unfold vp_in; decide)) ?_
        exact And.intro trivial (leafS hk rfl (show wC _ ++ M = _ by unfold gX0_put; first | (rw [if_pos h0, if_pos h1]; done) | (rw [if_pos h0, if_pos h1]; rfl)))
      · refine Exists.intro c (Exists.intro M (And.intro rfl (And.intro (by first | assumption | (unfold vp_in; decide)) (?_))))
        exact And.intro trivial (leafS hk rfl (show wC _ ++ M = _ by unfold gX0_put; first | (rw [if_pos h0, if_neg h1]; done) | (rw [if_pos h0, if_neg h1]; rfl)))
  · exact h.elim
def gX0_putFour (c : CS) (a : Int32) (b : Int64) (d : Int64) (e : Int64) (f : Int64) : CS :=
  (gX0_put c a (fX1_down (fX1_lesser (fX1_lesser b d) (fX1_lesser e f))) (fX1_up (fX1_greater (fX1_greater b d) (fX1_greater e f))))
def tX0_putFour : Tr := fun as σ k => match as with
  | [.ref 3, .int a, .long b, .long d, .long e, .long f] => ∃ (c : CS) (M : aS), σ = wC c ++ M ∧ vp_in a 32 ∧ k none (wC (gX0_putFour c a b d e f) ++ M)
  | _ => False
def ceX0_putFour : List (Nat × Nat × Tr) := (2 * 79, 2, tX1_lesser) :: (2 * 82, 2, tX1_greater) :: (2 * 119, 1, tX1_down) :: (2 * 122, 1, tX1_up) :: (2 * 111 + 1, 3 + 1, tX0_put) :: []
theorem coX0_putFour (l : Launch) : CEok l yX0_putFour.cls 3 ceX0_putFour := ce_S (okX1_lesser l) (mw 282 (by decide +kernel) rfl) (mw 283 (by decide +kernel) rfl) (mw 5 (by decide +kernel) rfl) (mw 284 (by decide +kernel) rfl) (by decide) ⟨by decide, by decide⟩ (ce_S (okX1_greater l) (mw 289 (by decide +kernel) rfl) (mw 290 (by decide +kernel) rfl) (mw 5 (by decide +kernel) rfl) (mw 291 (by decide +kernel) rfl) (by decide) ⟨by decide, by decide⟩ (ce_S (okX1_down l) (mw 255 (by decide +kernel) rfl) (mw 256 (by decide +kernel) rfl) (mw 5 (by decide +kernel) rfl) (mw 257 (by decide +kernel) rfl) (by decide) ⟨by decide, by decide⟩ (ce_S (okX1_up l) (mw 267 (by decide +kernel) rfl) (mw 262 (by decide +kernel) rfl) (mw 5 (by decide +kernel) rfl) (mw 263 (by decide +kernel) rfl) (by decide) ⟨by decide, by decide⟩ (ce_V (ci := 0) (n := 3) rfl (okX0_put l) rcX0_put (mw 208 (by decide +kernel) rfl) (mw 210 (by decide +kernel) rfl) (ms 2 (by decide +kernel) rfl) (mw 2 (by decide +kernel) rfl) (mw 211 (by decide +kernel) rfl) rfl (by decide) ⟨by decide, by decide⟩ (ce_0)))))
theorem rcX0_putFour : ∀ as σ kk, tX0_putFour as σ kk → ∃ a r fs, as = .ref a :: r ∧ σ[a]? = some (.inr (0, fs)) := by
  intro as σ kk h
  unfold tX0_putFour at h; split at h
  · obtain ⟨c, M, rfl, -⟩ := h
    exact ⟨_, _, _, rfl, rfl⟩
  · exact h.elim
set_option maxRecDepth 20000 in
set_option maxHeartbeats 4000000 in
theorem okX0_putFour (l : Launch) : OK l yX0_putFour cX0_putFour 14 none 3 tX0_putFour := by
  intro D τ ρ A as σ post h
  unfold tX0_putFour at h; split at h
  · rename_i a b d e f; obtain ⟨c, M, rfl, p1, hk⟩ := h
    refine met_of (P := pgX0_putFour) (CE := ceX0_putFour) (cut := []) (by decide) kkX0_putFour (coX0_putFour l) (Nat.le_of_ble_eq_true rfl) ?_
    intro G hG; refine hG 200 false 0 _ _ _ ?_
    refine Exists.intro c (Exists.intro M (And.intro rfl (And.intro (by first | assumption | (unfold vp_in; decide)) (?_))))
    exact And.intro trivial (leafS hk rfl (show wC _ ++ M = _ by unfold gX0_putFour; rfl))
  · exact h.elim
def gX0_putSize (c : CS) (a : Int32) (b : Int64) (d : Int64) : CS :=
  if (fX1_isBelow b (0 : Int64)) = 0 then
    (gX0_put c a b d)
  else
    if (fX1_isBelow (0 : Int64) d) = 0 then
      (gX0_put c a (fX1_opposite d) (fX1_opposite b))
    else
      (gX0_put c a (0 : Int64) (fX1_greater (fX1_opposite b) d))
def tX0_putSize : Tr := fun as σ k => match as with
  | [.ref 3, .int a, .long b, .long d] => ∃ (c : CS) (M : aS), σ = wC c ++ M ∧ vp_in a 32 ∧ k none (wC (gX0_putSize c a b d) ++ M)
  | _ => False
def ceX0_putSize : List (Nat × Nat × Tr) := (2 * 129, 2, tX1_isBelow) :: (2 * 70, 1, tX1_opposite) :: (2 * 82, 2, tX1_greater) :: (2 * 111 + 1, 3 + 1, tX0_put) :: []
theorem coX0_putSize (l : Launch) : CEok l yX0_putSize.cls 2 ceX0_putSize := ce_S (okX1_isBelow l) (mw 292 (by decide +kernel) rfl) (mw 134 (by decide +kernel) rfl) (mw 5 (by decide +kernel) rfl) (mw 135 (by decide +kernel) rfl) (by decide) ⟨by decide, by decide⟩ (ce_S (okX1_opposite l) (mw 268 (by decide +kernel) rfl) (mw 259 (by decide +kernel) rfl) (mw 5 (by decide +kernel) rfl) (mw 260 (by decide +kernel) rfl) (by decide) ⟨by decide, by decide⟩ (ce_S (okX1_greater l) (mw 289 (by decide +kernel) rfl) (mw 290 (by decide +kernel) rfl) (mw 5 (by decide +kernel) rfl) (mw 291 (by decide +kernel) rfl) (by decide) ⟨by decide, by decide⟩ (ce_V (ci := 0) (n := 3) rfl (okX0_put l) rcX0_put (mw 208 (by decide +kernel) rfl) (mw 210 (by decide +kernel) rfl) (ms 2 (by decide +kernel) rfl) (mw 2 (by decide +kernel) rfl) (mw 211 (by decide +kernel) rfl) rfl (by decide) ⟨by decide, by decide⟩ (ce_0))))
theorem rcX0_putSize : ∀ as σ kk, tX0_putSize as σ kk → ∃ a r fs, as = .ref a :: r ∧ σ[a]? = some (.inr (0, fs)) := by
  intro as σ kk h
  unfold tX0_putSize at h; split at h
  · obtain ⟨c, M, rfl, -⟩ := h
    exact ⟨_, _, _, rfl, rfl⟩
  · exact h.elim
set_option maxRecDepth 20000 in
set_option maxHeartbeats 4000000 in
theorem okX0_putSize (l : Launch) : OK l yX0_putSize cX0_putSize 6 none 2 tX0_putSize := by
  intro D τ ρ A as σ post h
  unfold tX0_putSize at h; split at h
  · rename_i a b d; obtain ⟨c, M, rfl, p1, hk⟩ := h
    refine met_of (P := pgX0_putSize) (CE := ceX0_putSize) (cut := []) (by decide) kkX0_putSize (coX0_putSize l) (Nat.le_of_ble_eq_true rfl) ?_
    intro G hG; refine hG 200 false 0 _ _ _ ?_
    refine And.intro (fun (h0 : ¬ (fX1_isBelow b (0 : Int64)) = 0) => ?_) (fun h0q => have h0 : (fX1_isBelow b (0 : Int64)) = 0 := Classical.not_not.mp h0q; ?_)
    · refine And.intro (fun (h1 : ¬ (fX1_isBelow (0 : Int64) d) = 0) => ?_) (fun h1q => have h1 : (fX1_isBelow (0 : Int64) d) = 0 := Classical.not_not.mp h1q; ?_)
      · refine Exists.intro c (Exists.intro M (And.intro rfl (And.intro (by first | assumption | (unfold vp_in; decide)) (?_))))
        exact And.intro trivial (leafS hk rfl (show wC _ ++ M = _ by unfold gX0_putSize; first | (rw [if_neg h0, if_neg h1]; done) | (rw [if_neg h0, if_neg h1]; rfl)))
      · refine Exists.intro c (Exists.intro M (And.intro rfl (And.intro (by first | assumption | (unfold vp_in; decide)) (?_))))
        exact And.intro trivial (leafS hk rfl (show wC _ ++ M = _ by unfold gX0_putSize; first | (rw [if_neg h0, if_pos h1]; done) | (rw [if_neg h0, if_pos h1]; rfl)))
    · refine Exists.intro c (Exists.intro M (And.intro rfl (And.intro (by first | assumption | (unfold vp_in; decide)) (?_))))
      exact And.intro trivial (leafS hk rfl (show wC _ ++ M = _ by unfold gX0_putSize; first | (rw [if_pos h0]; done) | (rw [if_pos h0]; rfl)))
  · exact h.elim
def gX0_putRoot (c : CS) (a : Int32) (b : Int64) (d : Int64) : CS :=
  if (fX1_isBelow b (0 : Int64)) = 0 then
    (gX0_put c a (fX1_zeroIfLess (fX1_down (fX1_root b))) (fX1_up (fX1_root d)))
  else
    (gX0_putWholeLine c a)
def tX0_putRoot : Tr := fun as σ k => match as with
  | [.ref 3, .int a, .long b, .long d] => ∃ (c : CS) (M : aS), σ = wC c ++ M ∧ vp_in a 32 ∧ k none (wC (gX0_putRoot c a b d) ++ M)
  | _ => False
def ceX0_putRoot : List (Nat × Nat × Tr) := (2 * 129, 2, tX1_isBelow) :: (2 * 87, 1, tX1_root) :: (2 * 119, 1, tX1_down) :: (2 * 153, 1, tX1_zeroIfLess) :: (2 * 122, 1, tX1_up) :: (2 * 111 + 1, 3 + 1, tX0_put) :: (2 * 133 + 1, 1 + 1, tX0_putWholeLine) :: []
theorem coX0_putRoot (l : Launch) : CEok l yX0_putRoot.cls 4 ceX0_putRoot := ce_S (okX1_isBelow l) (mw 292 (by decide +kernel) rfl) (mw 134 (by decide +kernel) rfl) (mw 5 (by decide +kernel) rfl) (mw 135 (by decide +kernel) rfl) (by decide) ⟨by decide, by decide⟩ (ce_S (okX1_root l) (mw 307 (by decide +kernel) rfl) (mw 308 (by decide +kernel) rfl) (mw 5 (by decide +kernel) rfl) (mw 309 (by decide +kernel) rfl) (by decide) ⟨by decide, by decide⟩ (ce_S (okX1_down l) (mw 255 (by decide +kernel) rfl) (mw 256 (by decide +kernel) rfl) (mw 5 (by decide +kernel) rfl) (mw 257 (by decide +kernel) rfl) (by decide) ⟨by decide, by decide⟩ (ce_S (okX1_zeroIfLess l) (mw 314 (by decide +kernel) rfl) (mw 315 (by decide +kernel) rfl) (mw 5 (by decide +kernel) rfl) (mw 316 (by decide +kernel) rfl) (by decide) ⟨by decide, by decide⟩ (ce_S (okX1_up l) (mw 267 (by decide +kernel) rfl) (mw 262 (by decide +kernel) rfl) (mw 5 (by decide +kernel) rfl) (mw 263 (by decide +kernel) rfl) (by decide) ⟨by decide, by decide⟩ (ce_V (ci := 0) (n := 3) rfl (okX0_put l) rcX0_put (mw 208 (by decide +kernel) rfl) (mw 210 (by decide +kernel) rfl) (ms 2 (by decide +kernel) rfl) (mw 2 (by decide +kernel) rfl) (mw 211 (by decide +kernel) rfl) rfl (by decide) ⟨by decide, by decide⟩ (ce_V (ci := 0) (n := 1) rfl (okX0_putWholeLine l) rcX0_putWholeLine (mw 213 (by decide +kernel) rfl) (mw 215 (by decide +kernel) rfl) (ms 3 (by decide +kernel) rfl) (mw 2 (by decide +kernel) rfl) (mw 216 (by decide +kernel) rfl) rfl (by decide) ⟨by decide, by decide⟩ (ce_0)))))))
theorem rcX0_putRoot : ∀ as σ kk, tX0_putRoot as σ kk → ∃ a r fs, as = .ref a :: r ∧ σ[a]? = some (.inr (0, fs)) := by
  intro as σ kk h
  unfold tX0_putRoot at h; split at h
  · obtain ⟨c, M, rfl, -⟩ := h
    exact ⟨_, _, _, rfl, rfl⟩
  · exact h.elim
set_option maxRecDepth 20000 in
set_option maxHeartbeats 4000000 in
theorem okX0_putRoot (l : Launch) : OK l yX0_putRoot cX0_putRoot 8 none 4 tX0_putRoot := by
  intro D τ ρ A as σ post h
  unfold tX0_putRoot at h; split at h
  · rename_i a b d; obtain ⟨c, M, rfl, p1, hk⟩ := h
    refine met_of (P := pgX0_putRoot) (CE := ceX0_putRoot) (cut := []) (by decide) kkX0_putRoot (coX0_putRoot l) (Nat.le_of_ble_eq_true rfl) ?_
    intro G hG; refine hG 200 false 0 _ _ _ ?_
    refine And.intro (fun (h0 : (fX1_isBelow b (0 : Int64)) = 0) => ?_) (fun (h0 : ¬ (fX1_isBelow b (0 : Int64)) = 0) => ?_)
    · refine Exists.intro c (Exists.intro M (And.intro rfl (And.intro (by first | assumption | (unfold vp_in; decide)) (?_))))
      exact And.intro trivial (leafS hk rfl (show wC _ ++ M = _ by unfold gX0_putRoot; first | (rw [if_pos h0]; done) | (rw [if_pos h0]; rfl)))
    · refine Exists.intro c (Exists.intro M (And.intro rfl (And.intro (by first | assumption | (unfold vp_in; decide)) (?_))))
      exact And.intro trivial (leafS hk rfl (show wC _ ++ M = _ by unfold gX0_putRoot; first | (rw [if_neg h0]; done) | (rw [if_neg h0]; rfl)))
  · exact h.elim
def gX0_putSquare (c : CS) (a : Int32) (b : Int64) (d : Int64) : CS :=
  (gX0_put c a (fX1_zeroIfLess (fX1_down (fX1_times b b))) (fX1_up (fX1_times d d)))
def tX0_putSquare : Tr := fun as σ k => match as with
  | [.ref 3, .int a, .long b, .long d] => ∃ (c : CS) (M : aS), σ = wC c ++ M ∧ vp_in a 32 ∧ k none (wC (gX0_putSquare c a b d) ++ M)
  | _ => False
def ceX0_putSquare : List (Nat × Nat × Tr) := (2 * 73, 2, tX1_times) :: (2 * 119, 1, tX1_down) :: (2 * 153, 1, tX1_zeroIfLess) :: (2 * 122, 1, tX1_up) :: (2 * 111 + 1, 3 + 1, tX0_put) :: []
theorem coX0_putSquare (l : Launch) : CEok l yX0_putSquare.cls 4 ceX0_putSquare := ce_S (okX1_times l) (mw 269 (by decide +kernel) rfl) (mw 270 (by decide +kernel) rfl) (mw 5 (by decide +kernel) rfl) (mw 271 (by decide +kernel) rfl) (by decide) ⟨by decide, by decide⟩ (ce_S (okX1_down l) (mw 255 (by decide +kernel) rfl) (mw 256 (by decide +kernel) rfl) (mw 5 (by decide +kernel) rfl) (mw 257 (by decide +kernel) rfl) (by decide) ⟨by decide, by decide⟩ (ce_S (okX1_zeroIfLess l) (mw 314 (by decide +kernel) rfl) (mw 315 (by decide +kernel) rfl) (mw 5 (by decide +kernel) rfl) (mw 316 (by decide +kernel) rfl) (by decide) ⟨by decide, by decide⟩ (ce_S (okX1_up l) (mw 267 (by decide +kernel) rfl) (mw 262 (by decide +kernel) rfl) (mw 5 (by decide +kernel) rfl) (mw 263 (by decide +kernel) rfl) (by decide) ⟨by decide, by decide⟩ (ce_V (ci := 0) (n := 3) rfl (okX0_put l) rcX0_put (mw 208 (by decide +kernel) rfl) (mw 210 (by decide +kernel) rfl) (ms 2 (by decide +kernel) rfl) (mw 2 (by decide +kernel) rfl) (mw 211 (by decide +kernel) rfl) rfl (by decide) ⟨by decide, by decide⟩ (ce_0)))))
theorem rcX0_putSquare : ∀ as σ kk, tX0_putSquare as σ kk → ∃ a r fs, as = .ref a :: r ∧ σ[a]? = some (.inr (0, fs)) := by
  intro as σ kk h
  unfold tX0_putSquare at h; split at h
  · obtain ⟨c, M, rfl, -⟩ := h
    exact ⟨_, _, _, rfl, rfl⟩
  · exact h.elim
set_option maxRecDepth 20000 in
set_option maxHeartbeats 4000000 in
theorem okX0_putSquare (l : Launch) : OK l yX0_putSquare cX0_putSquare 8 none 4 tX0_putSquare := by
  intro D τ ρ A as σ post h
  unfold tX0_putSquare at h; split at h
  · rename_i a b d; obtain ⟨c, M, rfl, p1, hk⟩ := h
    refine met_of (P := pgX0_putSquare) (CE := ceX0_putSquare) (cut := []) (by decide) kkX0_putSquare (coX0_putSquare l) (Nat.le_of_ble_eq_true rfl) ?_
    intro G hG; refine hG 200 false 0 _ _ _ ?_
    refine Exists.intro c (Exists.intro M (And.intro rfl (And.intro (by first | assumption | (unfold vp_in; decide)) (?_))))
    exact And.intro trivial (leafS hk rfl (show wC _ ++ M = _ by unfold gX0_putSquare; rfl))
  · exact h.elim
def vX0_areParts (c : CS) (a : Int32) (b : Int32) (d : Int32) (e : Int32) : Int32 :=
  if a = 0 then
    if b < 0 then
      (0 : Int32)
    else
      if e ≤ b then
        (0 : Int32)
      else
        (1 : Int32)
  else
    if (fX0_hasFirst a) = 0 then
      if (fX0_hasSecond a) = 0 then
        (1 : Int32)
      else
        if (vX0_has c d) = 0 then
          (0 : Int32)
        else
          (1 : Int32)
    else
      if (vX0_has c b) = 0 then
        (0 : Int32)
      else
        if (fX0_hasSecond a) = 0 then
          (1 : Int32)
        else
          if (vX0_has c d) = 0 then
            (0 : Int32)
          else
            (1 : Int32)
def tX0_areParts : Tr := fun as σ k => match as with
  | [.ref 3, .int a, .int b, .int d, .int e] => ∃ (c : CS) (M : aS), σ = wC c ++ M ∧ k (some (.int (vX0_areParts c a b d e))) (wC c ++ M)
  | _ => False
def ceX0_areParts : List (Nat × Nat × Tr) := (2 * 38, 1, tX0_hasFirst) :: (2 * 45, 1, tX0_hasSecond) :: (2 * 42 + 1, 1 + 1, tX0_has) :: []
theorem coX0_areParts (l : Launch) : CEok l yX0_areParts.cls 1 ceX0_areParts := ce_S (okX0_hasFirst l) (mw 162 (by decide +kernel) rfl) (mw 163 (by decide +kernel) rfl) (mw 2 (by decide +kernel) rfl) (mw 164 (by decide +kernel) rfl) (by decide) ⟨by decide, by decide⟩ (ce_S (okX0_hasSecond l) (mw 169 (by decide +kernel) rfl) (mw 170 (by decide +kernel) rfl) (mw 2 (by decide +kernel) rfl) (mw 171 (by decide +kernel) rfl) (by decide) ⟨by decide, by decide⟩ (ce_V (ci := 0) (n := 1) rfl (okX0_has l) rcX0_has (mw 165 (by decide +kernel) rfl) (mw 166 (by decide +kernel) rfl) (mw 167 (by decide +kernel) rfl) (mw 2 (by decide +kernel) rfl) (mw 168 (by decide +kernel) rfl) rfl (by decide) ⟨by decide, by decide⟩ (ce_0)))
theorem rcX0_areParts : ∀ as σ kk, tX0_areParts as σ kk → ∃ a r fs, as = .ref a :: r ∧ σ[a]? = some (.inr (0, fs)) := by
  intro as σ kk h
  unfold tX0_areParts at h; split at h
  · obtain ⟨c, M, rfl, -⟩ := h
    exact ⟨_, _, _, rfl, rfl⟩
  · exact h.elim
set_option maxRecDepth 20000 in
set_option maxHeartbeats 4000000 in
theorem okX0_areParts (l : Launch) : OK l yX0_areParts cX0_areParts 5 (some .boolean) 1 tX0_areParts := by
  intro D τ ρ A as σ post h
  unfold tX0_areParts at h; split at h
  · rename_i a b d e; obtain ⟨c, M, rfl, hk⟩ := h
    refine met_of (P := pgX0_areParts) (CE := ceX0_areParts) (cut := []) (by decide) kkX0_areParts (coX0_areParts l) (Nat.le_of_ble_eq_true rfl) ?_
    intro G hG; refine hG 200 false 0 _ _ _ ?_
    refine And.intro (fun (h0 : ¬ a = 0) => ?_) (fun h0q => have h0 : a = 0 := Classical.not_not.mp h0q; ?_)
    · refine And.intro (fun (h1 : (fX0_hasFirst a) = 0) => ?_) (fun (h1 : ¬ (fX0_hasFirst a) = 0) => ?_)
      · refine And.intro (fun (h2 : (fX0_hasSecond a) = 0) => ?_) (fun (h2 : ¬ (fX0_hasSecond a) = 0) => ?_)
        · exact And.intro (Or.inr rfl) (leafS hk (congrArg (fun z => some (Value.int z)) (by unfold vX0_areParts; first | (rw [if_neg h0, if_pos h1, if_pos h2]; done) | (rw [if_neg h0, if_pos h1, if_pos h2]; rfl))) rfl)
        · refine Exists.intro c (Exists.intro M (And.intro rfl (?_)))
          refine And.intro (fun (h3 : (vX0_has c d) = 0) => ?_) (fun (h3 : ¬ (vX0_has c d) = 0) => ?_)
          · exact And.intro (Or.inl rfl) (leafS hk (congrArg (fun z => some (Value.int z)) (by unfold vX0_areParts; first | (rw [if_neg h0, if_pos h1, if_neg h2, if_pos h3]; done) | (rw [if_neg h0, if_pos h1, if_neg h2, if_pos h3]; rfl))) rfl)
          · exact And.intro (Or.inr rfl) (leafS hk (congrArg (fun z => some (Value.int z)) (by unfold vX0_areParts; first | (rw [if_neg h0, if_pos h1, if_neg h2, if_neg h3]; done) | (rw [if_neg h0, if_pos h1, if_neg h2, if_neg h3]; rfl))) rfl)
      · refine Exists.intro c (Exists.intro M (And.intro rfl (?_)))
        refine And.intro (fun (h2 : (vX0_has c b) = 0) => ?_) (fun (h2 : ¬ (vX0_has c b) = 0) => ?_)
        · exact And.intro (Or.inl rfl) (leafS hk (congrArg (fun z => some (Value.int z)) (by unfold vX0_areParts; first | (rw [if_neg h0, if_neg h1, if_pos h2]; done) | (rw [if_neg h0, if_neg h1, if_pos h2]; rfl))) rfl)
        · refine And.intro (fun (h3 : (fX0_hasSecond a) = 0) => ?_) (fun (h3 : ¬ (fX0_hasSecond a) = 0) => ?_)
          · exact And.intro (Or.inr rfl) (leafS hk (congrArg (fun z => some (Value.int z)) (by unfold vX0_areParts; first | (rw [if_neg h0, if_neg h1, if_neg h2, if_pos h3]; done) | (rw [if_neg h0, if_neg h1, if_neg h2, if_pos h3]; rfl))) rfl)
          · refine Exists.intro c (Exists.intro M (And.intro rfl (?_)))
            refine And.intro (fun (h4 : (vX0_has c d) = 0) => ?_) (fun (h4 : ¬ (vX0_has c d) = 0) => ?_)
            · exact And.intro (Or.inl rfl) (leafS hk (congrArg (fun z => some (Value.int z)) (by unfold vX0_areParts; first | (rw [if_neg h0, if_neg h1, if_neg h2, if_neg h3, if_pos h4]; done) | (rw [if_neg h0, if_neg h1, if_neg h2, if_neg h3, if_pos h4]; rfl))) rfl)
            · exact And.intro (Or.inr rfl) (leafS hk (congrArg (fun z => some (Value.int z)) (by unfold vX0_areParts; first | (rw [if_neg h0, if_neg h1, if_neg h2, if_neg h3, if_neg h4]; done) | (rw [if_neg h0, if_neg h1, if_neg h2, if_neg h3, if_neg h4]; rfl))) rfl)
    · refine And.intro (fun (h1 : b < 0) => ?_) (fun (h1 : ¬ b < 0) => ?_)
      · exact And.intro (Or.inl rfl) (leafS hk (congrArg (fun z => some (Value.int z)) (by unfold vX0_areParts; first | (rw [if_pos h0, if_pos h1]; done) | (rw [if_pos h0, if_pos h1]; rfl))) rfl)
      · refine And.intro (fun (h2 : e ≤ b) => ?_) (fun (h2 : ¬ e ≤ b) => ?_)
        · exact And.intro (Or.inl rfl) (leafS hk (congrArg (fun z => some (Value.int z)) (by unfold vX0_areParts; first | (rw [if_pos h0, if_neg h1, if_pos h2]; done) | (rw [if_pos h0, if_neg h1, if_pos h2]; rfl))) rfl)
        · exact And.intro (Or.inr rfl) (leafS hk (congrArg (fun z => some (Value.int z)) (by unfold vX0_areParts; first | (rw [if_pos h0, if_neg h1, if_neg h2]; done) | (rw [if_pos h0, if_neg h1, if_neg h2]; rfl))) rfl)
  · exact h.elim
def vX0_add (c : CS) (a : Int32) (b : Int32) (d : Int32) (e : Int64) : Int32 :=
  if a = 0 then
    if (fX0_hasSecond a) = 0 then
      (c.1 2)
    else
      (c.1 2)
  else
    if (fX0_hasFirst a) = 0 then
      if (fX0_hasSecond a) = 0 then
        (c.1 2)
      else
        (c.1 2)
    else
      if (fX0_hasSecond a) = 0 then
        (c.1 2)
      else
        (c.1 2)
def gX0_add (c : CS) (a : Int32) (b : Int32) (d : Int32) (e : Int64) : CS :=
  if a = 0 then
    if (fX0_hasSecond a) = 0 then
      (setI (setL (setA (setA (setA c 6 (upd (c.2.1 6) (c.1 2).toNatClampNeg a)) 7 (upd ((setA c 6 (upd (c.2.1 6) (c.1 2).toNatClampNeg a)).2.1 7) (c.1 2).toNatClampNeg b)) 8 (upd ((setA (setA c 6 (upd (c.2.1 6) (c.1 2).toNatClampNeg a)) 7 (upd ((setA c 6 (upd (c.2.1 6) (c.1 2).toNatClampNeg a)).2.1 7) (c.1 2).toNatClampNeg b)).2.1 8) (c.1 2).toNatClampNeg (0 : Int32))) 9 (vp_updL ((setA (setA (setA c 6 (upd (c.2.1 6) (c.1 2).toNatClampNeg a)) 7 (upd ((setA c 6 (upd (c.2.1 6) (c.1 2).toNatClampNeg a)).2.1 7) (c.1 2).toNatClampNeg b)) 8 (upd ((setA (setA c 6 (upd (c.2.1 6) (c.1 2).toNatClampNeg a)) 7 (upd ((setA c 6 (upd (c.2.1 6) (c.1 2).toNatClampNeg a)).2.1 7) (c.1 2).toNatClampNeg b)).2.1 8) (c.1 2).toNatClampNeg (0 : Int32))).2.2 9) (c.1 2).toNatClampNeg (fX1_told e))) 2 (((setL (setA (setA (setA c 6 (upd (c.2.1 6) (c.1 2).toNatClampNeg a)) 7 (upd ((setA c 6 (upd (c.2.1 6) (c.1 2).toNatClampNeg a)).2.1 7) (c.1 2).toNatClampNeg b)) 8 (upd ((setA (setA c 6 (upd (c.2.1 6) (c.1 2).toNatClampNeg a)) 7 (upd ((setA c 6 (upd (c.2.1 6) (c.1 2).toNatClampNeg a)).2.1 7) (c.1 2).toNatClampNeg b)).2.1 8) (c.1 2).toNatClampNeg (0 : Int32))) 9 (vp_updL ((setA (setA (setA c 6 (upd (c.2.1 6) (c.1 2).toNatClampNeg a)) 7 (upd ((setA c 6 (upd (c.2.1 6) (c.1 2).toNatClampNeg a)).2.1 7) (c.1 2).toNatClampNeg b)) 8 (upd ((setA (setA c 6 (upd (c.2.1 6) (c.1 2).toNatClampNeg a)) 7 (upd ((setA c 6 (upd (c.2.1 6) (c.1 2).toNatClampNeg a)).2.1 7) (c.1 2).toNatClampNeg b)).2.1 8) (c.1 2).toNatClampNeg (0 : Int32))).2.2 9) (c.1 2).toNatClampNeg (fX1_told e))).1 2) + (1 : Int32)))
    else
      (setI (setL (setA (setA (setA c 6 (upd (c.2.1 6) (c.1 2).toNatClampNeg a)) 7 (upd ((setA c 6 (upd (c.2.1 6) (c.1 2).toNatClampNeg a)).2.1 7) (c.1 2).toNatClampNeg b)) 8 (upd ((setA (setA c 6 (upd (c.2.1 6) (c.1 2).toNatClampNeg a)) 7 (upd ((setA c 6 (upd (c.2.1 6) (c.1 2).toNatClampNeg a)).2.1 7) (c.1 2).toNatClampNeg b)).2.1 8) (c.1 2).toNatClampNeg d)) 9 (vp_updL ((setA (setA (setA c 6 (upd (c.2.1 6) (c.1 2).toNatClampNeg a)) 7 (upd ((setA c 6 (upd (c.2.1 6) (c.1 2).toNatClampNeg a)).2.1 7) (c.1 2).toNatClampNeg b)) 8 (upd ((setA (setA c 6 (upd (c.2.1 6) (c.1 2).toNatClampNeg a)) 7 (upd ((setA c 6 (upd (c.2.1 6) (c.1 2).toNatClampNeg a)).2.1 7) (c.1 2).toNatClampNeg b)).2.1 8) (c.1 2).toNatClampNeg d)).2.2 9) (c.1 2).toNatClampNeg (fX1_told e))) 2 (((setL (setA (setA (setA c 6 (upd (c.2.1 6) (c.1 2).toNatClampNeg a)) 7 (upd ((setA c 6 (upd (c.2.1 6) (c.1 2).toNatClampNeg a)).2.1 7) (c.1 2).toNatClampNeg b)) 8 (upd ((setA (setA c 6 (upd (c.2.1 6) (c.1 2).toNatClampNeg a)) 7 (upd ((setA c 6 (upd (c.2.1 6) (c.1 2).toNatClampNeg a)).2.1 7) (c.1 2).toNatClampNeg b)).2.1 8) (c.1 2).toNatClampNeg d)) 9 (vp_updL ((setA (setA (setA c 6 (upd (c.2.1 6) (c.1 2).toNatClampNeg a)) 7 (upd ((setA c 6 (upd (c.2.1 6) (c.1 2).toNatClampNeg a)).2.1 7) (c.1 2).toNatClampNeg b)) 8 (upd ((setA (setA c 6 (upd (c.2.1 6) (c.1 2).toNatClampNeg a)) 7 (upd ((setA c 6 (upd (c.2.1 6) (c.1 2).toNatClampNeg a)).2.1 7) (c.1 2).toNatClampNeg b)).2.1 8) (c.1 2).toNatClampNeg d)).2.2 9) (c.1 2).toNatClampNeg (fX1_told e))).1 2) + (1 : Int32)))
  else
    if (fX0_hasFirst a) = 0 then
      if (fX0_hasSecond a) = 0 then
        (setI (setL (setA (setA (setA c 6 (upd (c.2.1 6) (c.1 2).toNatClampNeg a)) 7 (upd ((setA c 6 (upd (c.2.1 6) (c.1 2).toNatClampNeg a)).2.1 7) (c.1 2).toNatClampNeg (0 : Int32))) 8 (upd ((setA (setA c 6 (upd (c.2.1 6) (c.1 2).toNatClampNeg a)) 7 (upd ((setA c 6 (upd (c.2.1 6) (c.1 2).toNatClampNeg a)).2.1 7) (c.1 2).toNatClampNeg (0 : Int32))).2.1 8) (c.1 2).toNatClampNeg (0 : Int32))) 9 (vp_updL ((setA (setA (setA c 6 (upd (c.2.1 6) (c.1 2).toNatClampNeg a)) 7 (upd ((setA c 6 (upd (c.2.1 6) (c.1 2).toNatClampNeg a)).2.1 7) (c.1 2).toNatClampNeg (0 : Int32))) 8 (upd ((setA (setA c 6 (upd (c.2.1 6) (c.1 2).toNatClampNeg a)) 7 (upd ((setA c 6 (upd (c.2.1 6) (c.1 2).toNatClampNeg a)).2.1 7) (c.1 2).toNatClampNeg (0 : Int32))).2.1 8) (c.1 2).toNatClampNeg (0 : Int32))).2.2 9) (c.1 2).toNatClampNeg (fX1_told e))) 2 (((setL (setA (setA (setA c 6 (upd (c.2.1 6) (c.1 2).toNatClampNeg a)) 7 (upd ((setA c 6 (upd (c.2.1 6) (c.1 2).toNatClampNeg a)).2.1 7) (c.1 2).toNatClampNeg (0 : Int32))) 8 (upd ((setA (setA c 6 (upd (c.2.1 6) (c.1 2).toNatClampNeg a)) 7 (upd ((setA c 6 (upd (c.2.1 6) (c.1 2).toNatClampNeg a)).2.1 7) (c.1 2).toNatClampNeg (0 : Int32))).2.1 8) (c.1 2).toNatClampNeg (0 : Int32))) 9 (vp_updL ((setA (setA (setA c 6 (upd (c.2.1 6) (c.1 2).toNatClampNeg a)) 7 (upd ((setA c 6 (upd (c.2.1 6) (c.1 2).toNatClampNeg a)).2.1 7) (c.1 2).toNatClampNeg (0 : Int32))) 8 (upd ((setA (setA c 6 (upd (c.2.1 6) (c.1 2).toNatClampNeg a)) 7 (upd ((setA c 6 (upd (c.2.1 6) (c.1 2).toNatClampNeg a)).2.1 7) (c.1 2).toNatClampNeg (0 : Int32))).2.1 8) (c.1 2).toNatClampNeg (0 : Int32))).2.2 9) (c.1 2).toNatClampNeg (fX1_told e))).1 2) + (1 : Int32)))
      else
        (setI (setL (setA (setA (setA c 6 (upd (c.2.1 6) (c.1 2).toNatClampNeg a)) 7 (upd ((setA c 6 (upd (c.2.1 6) (c.1 2).toNatClampNeg a)).2.1 7) (c.1 2).toNatClampNeg (0 : Int32))) 8 (upd ((setA (setA c 6 (upd (c.2.1 6) (c.1 2).toNatClampNeg a)) 7 (upd ((setA c 6 (upd (c.2.1 6) (c.1 2).toNatClampNeg a)).2.1 7) (c.1 2).toNatClampNeg (0 : Int32))).2.1 8) (c.1 2).toNatClampNeg d)) 9 (vp_updL ((setA (setA (setA c 6 (upd (c.2.1 6) (c.1 2).toNatClampNeg a)) 7 (upd ((setA c 6 (upd (c.2.1 6) (c.1 2).toNatClampNeg a)).2.1 7) (c.1 2).toNatClampNeg (0 : Int32))) 8 (upd ((setA (setA c 6 (upd (c.2.1 6) (c.1 2).toNatClampNeg a)) 7 (upd ((setA c 6 (upd (c.2.1 6) (c.1 2).toNatClampNeg a)).2.1 7) (c.1 2).toNatClampNeg (0 : Int32))).2.1 8) (c.1 2).toNatClampNeg d)).2.2 9) (c.1 2).toNatClampNeg (fX1_told e))) 2 (((setL (setA (setA (setA c 6 (upd (c.2.1 6) (c.1 2).toNatClampNeg a)) 7 (upd ((setA c 6 (upd (c.2.1 6) (c.1 2).toNatClampNeg a)).2.1 7) (c.1 2).toNatClampNeg (0 : Int32))) 8 (upd ((setA (setA c 6 (upd (c.2.1 6) (c.1 2).toNatClampNeg a)) 7 (upd ((setA c 6 (upd (c.2.1 6) (c.1 2).toNatClampNeg a)).2.1 7) (c.1 2).toNatClampNeg (0 : Int32))).2.1 8) (c.1 2).toNatClampNeg d)) 9 (vp_updL ((setA (setA (setA c 6 (upd (c.2.1 6) (c.1 2).toNatClampNeg a)) 7 (upd ((setA c 6 (upd (c.2.1 6) (c.1 2).toNatClampNeg a)).2.1 7) (c.1 2).toNatClampNeg (0 : Int32))) 8 (upd ((setA (setA c 6 (upd (c.2.1 6) (c.1 2).toNatClampNeg a)) 7 (upd ((setA c 6 (upd (c.2.1 6) (c.1 2).toNatClampNeg a)).2.1 7) (c.1 2).toNatClampNeg (0 : Int32))).2.1 8) (c.1 2).toNatClampNeg d)).2.2 9) (c.1 2).toNatClampNeg (fX1_told e))).1 2) + (1 : Int32)))
    else
      if (fX0_hasSecond a) = 0 then
        (setI (setL (setA (setA (setA c 6 (upd (c.2.1 6) (c.1 2).toNatClampNeg a)) 7 (upd ((setA c 6 (upd (c.2.1 6) (c.1 2).toNatClampNeg a)).2.1 7) (c.1 2).toNatClampNeg b)) 8 (upd ((setA (setA c 6 (upd (c.2.1 6) (c.1 2).toNatClampNeg a)) 7 (upd ((setA c 6 (upd (c.2.1 6) (c.1 2).toNatClampNeg a)).2.1 7) (c.1 2).toNatClampNeg b)).2.1 8) (c.1 2).toNatClampNeg (0 : Int32))) 9 (vp_updL ((setA (setA (setA c 6 (upd (c.2.1 6) (c.1 2).toNatClampNeg a)) 7 (upd ((setA c 6 (upd (c.2.1 6) (c.1 2).toNatClampNeg a)).2.1 7) (c.1 2).toNatClampNeg b)) 8 (upd ((setA (setA c 6 (upd (c.2.1 6) (c.1 2).toNatClampNeg a)) 7 (upd ((setA c 6 (upd (c.2.1 6) (c.1 2).toNatClampNeg a)).2.1 7) (c.1 2).toNatClampNeg b)).2.1 8) (c.1 2).toNatClampNeg (0 : Int32))).2.2 9) (c.1 2).toNatClampNeg (fX1_told e))) 2 (((setL (setA (setA (setA c 6 (upd (c.2.1 6) (c.1 2).toNatClampNeg a)) 7 (upd ((setA c 6 (upd (c.2.1 6) (c.1 2).toNatClampNeg a)).2.1 7) (c.1 2).toNatClampNeg b)) 8 (upd ((setA (setA c 6 (upd (c.2.1 6) (c.1 2).toNatClampNeg a)) 7 (upd ((setA c 6 (upd (c.2.1 6) (c.1 2).toNatClampNeg a)).2.1 7) (c.1 2).toNatClampNeg b)).2.1 8) (c.1 2).toNatClampNeg (0 : Int32))) 9 (vp_updL ((setA (setA (setA c 6 (upd (c.2.1 6) (c.1 2).toNatClampNeg a)) 7 (upd ((setA c 6 (upd (c.2.1 6) (c.1 2).toNatClampNeg a)).2.1 7) (c.1 2).toNatClampNeg b)) 8 (upd ((setA (setA c 6 (upd (c.2.1 6) (c.1 2).toNatClampNeg a)) 7 (upd ((setA c 6 (upd (c.2.1 6) (c.1 2).toNatClampNeg a)).2.1 7) (c.1 2).toNatClampNeg b)).2.1 8) (c.1 2).toNatClampNeg (0 : Int32))).2.2 9) (c.1 2).toNatClampNeg (fX1_told e))).1 2) + (1 : Int32)))
      else
        (setI (setL (setA (setA (setA c 6 (upd (c.2.1 6) (c.1 2).toNatClampNeg a)) 7 (upd ((setA c 6 (upd (c.2.1 6) (c.1 2).toNatClampNeg a)).2.1 7) (c.1 2).toNatClampNeg b)) 8 (upd ((setA (setA c 6 (upd (c.2.1 6) (c.1 2).toNatClampNeg a)) 7 (upd ((setA c 6 (upd (c.2.1 6) (c.1 2).toNatClampNeg a)).2.1 7) (c.1 2).toNatClampNeg b)).2.1 8) (c.1 2).toNatClampNeg d)) 9 (vp_updL ((setA (setA (setA c 6 (upd (c.2.1 6) (c.1 2).toNatClampNeg a)) 7 (upd ((setA c 6 (upd (c.2.1 6) (c.1 2).toNatClampNeg a)).2.1 7) (c.1 2).toNatClampNeg b)) 8 (upd ((setA (setA c 6 (upd (c.2.1 6) (c.1 2).toNatClampNeg a)) 7 (upd ((setA c 6 (upd (c.2.1 6) (c.1 2).toNatClampNeg a)).2.1 7) (c.1 2).toNatClampNeg b)).2.1 8) (c.1 2).toNatClampNeg d)).2.2 9) (c.1 2).toNatClampNeg (fX1_told e))) 2 (((setL (setA (setA (setA c 6 (upd (c.2.1 6) (c.1 2).toNatClampNeg a)) 7 (upd ((setA c 6 (upd (c.2.1 6) (c.1 2).toNatClampNeg a)).2.1 7) (c.1 2).toNatClampNeg b)) 8 (upd ((setA (setA c 6 (upd (c.2.1 6) (c.1 2).toNatClampNeg a)) 7 (upd ((setA c 6 (upd (c.2.1 6) (c.1 2).toNatClampNeg a)).2.1 7) (c.1 2).toNatClampNeg b)).2.1 8) (c.1 2).toNatClampNeg d)) 9 (vp_updL ((setA (setA (setA c 6 (upd (c.2.1 6) (c.1 2).toNatClampNeg a)) 7 (upd ((setA c 6 (upd (c.2.1 6) (c.1 2).toNatClampNeg a)).2.1 7) (c.1 2).toNatClampNeg b)) 8 (upd ((setA (setA c 6 (upd (c.2.1 6) (c.1 2).toNatClampNeg a)) 7 (upd ((setA c 6 (upd (c.2.1 6) (c.1 2).toNatClampNeg a)).2.1 7) (c.1 2).toNatClampNeg b)).2.1 8) (c.1 2).toNatClampNeg d)).2.2 9) (c.1 2).toNatClampNeg (fX1_told e))).1 2) + (1 : Int32)))
def tX0_add : Tr := fun as σ k => match as with
  | [.ref 3, .int a, .int b, .int d, .long e] => ∃ (c : CS) (M : aS), σ = wC c ++ M ∧ vp_in (c.1 2) 32 ∧ k (some (.int (vX0_add c a b d e))) (wC (gX0_add c a b d e) ++ M)
  | _ => False
def ceX0_add : List (Nat × Nat × Tr) := (2 * 45, 1, tX0_hasSecond) :: (2 * 48, 1, tX1_told) :: (2 * 38, 1, tX0_hasFirst) :: []
theorem coX0_add (l : Launch) : CEok l yX0_add.cls 2 ceX0_add := ce_S (okX0_hasSecond l) (mw 169 (by decide +kernel) rfl) (mw 170 (by decide +kernel) rfl) (mw 2 (by decide +kernel) rfl) (mw 171 (by decide +kernel) rfl) (by decide) ⟨by decide, by decide⟩ (ce_S (okX1_told l) (mw 176 (by decide +kernel) rfl) (mw 177 (by decide +kernel) rfl) (mw 5 (by decide +kernel) rfl) (mw 178 (by decide +kernel) rfl) (by decide) ⟨by decide, by decide⟩ (ce_S (okX0_hasFirst l) (mw 162 (by decide +kernel) rfl) (mw 163 (by decide +kernel) rfl) (mw 2 (by decide +kernel) rfl) (mw 164 (by decide +kernel) rfl) (by decide) ⟨by decide, by decide⟩ (ce_0)))
theorem rcX0_add : ∀ as σ kk, tX0_add as σ kk → ∃ a r fs, as = .ref a :: r ∧ σ[a]? = some (.inr (0, fs)) := by
  intro as σ kk h
  unfold tX0_add at h; split at h
  · obtain ⟨c, M, rfl, -⟩ := h
    exact ⟨_, _, _, rfl, rfl⟩
  · exact h.elim
set_option maxRecDepth 20000 in
set_option maxHeartbeats 4000000 in
theorem okX0_add (l : Launch) : OK l yX0_add cX0_add 7 (some .int) 2 tX0_add := by
  intro D τ ρ A as σ post h
  unfold tX0_add at h; split at h
  · rename_i a b d e; obtain ⟨c, M, rfl, p1, hk⟩ := h
    refine met_of (P := pgX0_add) (CE := ceX0_add) (cut := []) (by decide) kkX0_add (coX0_add l) (Nat.le_of_ble_eq_true rfl) ?_
    intro G hG; refine hG 200 false 0 _ _ _ ?_
    refine And.intro (by first | assumption | (unfold vp_in; decide)) ?_
    refine And.intro (fun (h0 : a = 0) => ?_) (fun (h0 : ¬ a = 0) => ?_)
    · refine And.intro (by first | assumption | (unfold vp_in; decide)) ?_
      refine And.intro (fun (h1 : (fX0_hasSecond a) = 0) => ?_) (fun (h1 : ¬ (fX0_hasSecond a) = 0) => ?_)
      · refine And.intro (by first | assumption | (unfold vp_in; decide)) ?_
        refine And.intro (by first | assumption | (unfold vp_in; decide)) ?_
        exact And.intro trivial (leafS hk (congrArg (fun z => some (Value.int z)) (by unfold vX0_add; first | (rw [if_pos h0, if_pos h1]; done) | (rw [if_pos h0, if_pos h1]; rfl))) (show wC _ ++ M = _ by unfold gX0_add; first | (rw [if_pos h0, if_pos h1]; done) | (rw [if_pos h0, if_pos h1]; rfl)))
      · refine And.intro (by first | assumption | (unfold vp_in; decide)) ?_
        refine And.intro (by first | assumption | (unfold vp_in; decide)) ?_
        exact And.intro trivial (leafS hk (congrArg (fun z => some (Value.int z)) (by unfold vX0_add; first | (rw [if_pos h0, if_neg h1]; done) | (rw [if_pos h0, if_neg h1]; rfl))) (show wC _ ++ M = _ by unfold gX0_add; first | (rw [if_pos h0, if_neg h1]; done) | (rw [if_pos h0, if_neg h1]; rfl)))
    · refine And.intro (fun (h1 : (fX0_hasFirst a) = 0) => ?_) (fun (h1 : ¬ (fX0_hasFirst a) = 0) => ?_)
      · refine And.intro (by first | assumption | (unfold vp_in; decide)) ?_
        refine And.intro (fun (h2 : (fX0_hasSecond a) = 0) => ?_) (fun (h2 : ¬ (fX0_hasSecond a) = 0) => ?_)
        · refine And.intro (by first | assumption | (unfold vp_in; decide)) ?_
          refine And.intro (by first | assumption | (unfold vp_in; decide)) ?_
          exact And.intro trivial (leafS hk (congrArg (fun z => some (Value.int z)) (by unfold vX0_add; first | (rw [if_neg h0, if_pos h1, if_pos h2]; done) | (rw [if_neg h0, if_pos h1, if_pos h2]; rfl))) (show wC _ ++ M = _ by unfold gX0_add; first | (rw [if_neg h0, if_pos h1, if_pos h2]; done) | (rw [if_neg h0, if_pos h1, if_pos h2]; rfl)))
        · refine And.intro (by first | assumption | (unfold vp_in; decide)) ?_
          refine And.intro (by first | assumption | (unfold vp_in; decide)) ?_
          exact And.intro trivial (leafS hk (congrArg (fun z => some (Value.int z)) (by unfold vX0_add; first | (rw [if_neg h0, if_pos h1, if_neg h2]; done) | (rw [if_neg h0, if_pos h1, if_neg h2]; rfl))) (show wC _ ++ M = _ by unfold gX0_add; first | (rw [if_neg h0, if_pos h1, if_neg h2]; done) | (rw [if_neg h0, if_pos h1, if_neg h2]; rfl)))
      · refine And.intro (by first | assumption | (unfold vp_in; decide)) ?_
        refine And.intro (fun (h2 : (fX0_hasSecond a) = 0) => ?_) (fun (h2 : ¬ (fX0_hasSecond a) = 0) => ?_)
        · refine And.intro (by first | assumption | (unfold vp_in; decide)) ?_
          refine And.intro (by first | assumption | (unfold vp_in; decide)) ?_
          exact And.intro trivial (leafS hk (congrArg (fun z => some (Value.int z)) (by unfold vX0_add; first | (rw [if_neg h0, if_neg h1, if_pos h2]; done) | (rw [if_neg h0, if_neg h1, if_pos h2]; rfl))) (show wC _ ++ M = _ by unfold gX0_add; first | (rw [if_neg h0, if_neg h1, if_pos h2]; done) | (rw [if_neg h0, if_neg h1, if_pos h2]; rfl)))
        · refine And.intro (by first | assumption | (unfold vp_in; decide)) ?_
          refine And.intro (by first | assumption | (unfold vp_in; decide)) ?_
          exact And.intro trivial (leafS hk (congrArg (fun z => some (Value.int z)) (by unfold vX0_add; first | (rw [if_neg h0, if_neg h1, if_neg h2]; done) | (rw [if_neg h0, if_neg h1, if_neg h2]; rfl))) (show wC _ ++ M = _ by unfold gX0_add; first | (rw [if_neg h0, if_neg h1, if_neg h2]; done) | (rw [if_neg h0, if_neg h1, if_neg h2]; rfl)))
  · exact h.elim
def gX0_encloseMade (c : CS) (a : Int32) : CS :=
  if (c.2.1 6 a.toNatClampNeg).toInt < 2 ∨ 12 < (c.2.1 6 a.toNatClampNeg).toInt then
    (gX0_put c a (fX0_made (c.2.1 6 a.toNatClampNeg) (c.2.2 4 (c.2.1 7 a.toNatClampNeg).toNatClampNeg) (c.2.2 4 (c.2.1 8 a.toNatClampNeg).toNatClampNeg)) (fX0_made (c.2.1 6 a.toNatClampNeg) (c.2.2 5 (c.2.1 7 a.toNatClampNeg).toNatClampNeg) (c.2.2 5 (c.2.1 8 a.toNatClampNeg).toNatClampNeg)))
  else if (c.2.1 6 a.toNatClampNeg) = (2 : Int32) then
    (gX0_put c a (fX1_down (fX1_plus (c.2.2 4 (c.2.1 7 a.toNatClampNeg).toNatClampNeg) (c.2.2 4 (c.2.1 8 a.toNatClampNeg).toNatClampNeg))) (fX1_up (fX1_plus (c.2.2 5 (c.2.1 7 a.toNatClampNeg).toNatClampNeg) (c.2.2 5 (c.2.1 8 a.toNatClampNeg).toNatClampNeg))))
  else if (c.2.1 6 a.toNatClampNeg) = (3 : Int32) then
    (gX0_put c a (fX1_down (fX1_plus (c.2.2 4 (c.2.1 7 a.toNatClampNeg).toNatClampNeg) (fX1_opposite (c.2.2 5 (c.2.1 8 a.toNatClampNeg).toNatClampNeg)))) (fX1_up (fX1_plus (c.2.2 5 (c.2.1 7 a.toNatClampNeg).toNatClampNeg) (fX1_opposite (c.2.2 4 (c.2.1 8 a.toNatClampNeg).toNatClampNeg)))))
  else if (c.2.1 6 a.toNatClampNeg) = (4 : Int32) then
    (gX0_putFour c a (fX1_times (c.2.2 4 (c.2.1 7 a.toNatClampNeg).toNatClampNeg) (c.2.2 4 (c.2.1 8 a.toNatClampNeg).toNatClampNeg)) (fX1_times (c.2.2 4 (c.2.1 7 a.toNatClampNeg).toNatClampNeg) (c.2.2 5 (c.2.1 8 a.toNatClampNeg).toNatClampNeg)) (fX1_times (c.2.2 5 (c.2.1 7 a.toNatClampNeg).toNatClampNeg) (c.2.2 4 (c.2.1 8 a.toNatClampNeg).toNatClampNeg)) (fX1_times (c.2.2 5 (c.2.1 7 a.toNatClampNeg).toNatClampNeg) (c.2.2 5 (c.2.1 8 a.toNatClampNeg).toNatClampNeg)))
  else if (c.2.1 6 a.toNatClampNeg) = (5 : Int32) then
    if (fX1_isBelow (0 : Int64) (c.2.2 4 (c.2.1 8 a.toNatClampNeg).toNatClampNeg)) = 0 then
      if (fX1_isBelow (c.2.2 5 (c.2.1 8 a.toNatClampNeg).toNatClampNeg) (0 : Int64)) = 0 then
        (gX0_putWholeLine c a)
      else
        (gX0_putFour c a (fX1_over (c.2.2 4 (c.2.1 7 a.toNatClampNeg).toNatClampNeg) (c.2.2 4 (c.2.1 8 a.toNatClampNeg).toNatClampNeg)) (fX1_over (c.2.2 4 (c.2.1 7 a.toNatClampNeg).toNatClampNeg) (c.2.2 5 (c.2.1 8 a.toNatClampNeg).toNatClampNeg)) (fX1_over (c.2.2 5 (c.2.1 7 a.toNatClampNeg).toNatClampNeg) (c.2.2 4 (c.2.1 8 a.toNatClampNeg).toNatClampNeg)) (fX1_over (c.2.2 5 (c.2.1 7 a.toNatClampNeg).toNatClampNeg) (c.2.2 5 (c.2.1 8 a.toNatClampNeg).toNatClampNeg)))
    else
      (gX0_putFour c a (fX1_over (c.2.2 4 (c.2.1 7 a.toNatClampNeg).toNatClampNeg) (c.2.2 4 (c.2.1 8 a.toNatClampNeg).toNatClampNeg)) (fX1_over (c.2.2 4 (c.2.1 7 a.toNatClampNeg).toNatClampNeg) (c.2.2 5 (c.2.1 8 a.toNatClampNeg).toNatClampNeg)) (fX1_over (c.2.2 5 (c.2.1 7 a.toNatClampNeg).toNatClampNeg) (c.2.2 4 (c.2.1 8 a.toNatClampNeg).toNatClampNeg)) (fX1_over (c.2.2 5 (c.2.1 7 a.toNatClampNeg).toNatClampNeg) (c.2.2 5 (c.2.1 8 a.toNatClampNeg).toNatClampNeg)))
  else if (c.2.1 6 a.toNatClampNeg) = (6 : Int32) then
    (gX0_put c a (fX0_made (c.2.1 6 a.toNatClampNeg) (c.2.2 4 (c.2.1 7 a.toNatClampNeg).toNatClampNeg) (c.2.2 4 (c.2.1 8 a.toNatClampNeg).toNatClampNeg)) (fX0_made (c.2.1 6 a.toNatClampNeg) (c.2.2 5 (c.2.1 7 a.toNatClampNeg).toNatClampNeg) (c.2.2 5 (c.2.1 8 a.toNatClampNeg).toNatClampNeg)))
  else if (c.2.1 6 a.toNatClampNeg) = (7 : Int32) then
    (gX0_put c a (fX0_made (c.2.1 6 a.toNatClampNeg) (c.2.2 4 (c.2.1 7 a.toNatClampNeg).toNatClampNeg) (c.2.2 4 (c.2.1 8 a.toNatClampNeg).toNatClampNeg)) (fX0_made (c.2.1 6 a.toNatClampNeg) (c.2.2 5 (c.2.1 7 a.toNatClampNeg).toNatClampNeg) (c.2.2 5 (c.2.1 8 a.toNatClampNeg).toNatClampNeg)))
  else if (c.2.1 6 a.toNatClampNeg) = (8 : Int32) then
    (gX0_putSize c a (c.2.2 4 (c.2.1 7 a.toNatClampNeg).toNatClampNeg) (c.2.2 5 (c.2.1 7 a.toNatClampNeg).toNatClampNeg))
  else if (c.2.1 6 a.toNatClampNeg) = (9 : Int32) then
    (gX0_putRoot c a (c.2.2 4 (c.2.1 7 a.toNatClampNeg).toNatClampNeg) (c.2.2 5 (c.2.1 7 a.toNatClampNeg).toNatClampNeg))
  else if (c.2.1 6 a.toNatClampNeg) = (10 : Int32) then
    (gX0_putSquare (gX0_putSize c a (c.2.2 4 (c.2.1 7 a.toNatClampNeg).toNatClampNeg) (c.2.2 5 (c.2.1 7 a.toNatClampNeg).toNatClampNeg)) a ((gX0_putSize c a (c.2.2 4 (c.2.1 7 a.toNatClampNeg).toNatClampNeg) (c.2.2 5 (c.2.1 7 a.toNatClampNeg).toNatClampNeg)).2.2 4 a.toNatClampNeg) ((gX0_putSize c a (c.2.2 4 (c.2.1 7 a.toNatClampNeg).toNatClampNeg) (c.2.2 5 (c.2.1 7 a.toNatClampNeg).toNatClampNeg)).2.2 5 a.toNatClampNeg))
  else if (c.2.1 6 a.toNatClampNeg) = (11 : Int32) then
    (gX0_put c a (fX0_made (c.2.1 6 a.toNatClampNeg) (c.2.2 4 (c.2.1 7 a.toNatClampNeg).toNatClampNeg) (c.2.2 4 (c.2.1 8 a.toNatClampNeg).toNatClampNeg)) (fX0_made (c.2.1 6 a.toNatClampNeg) (c.2.2 5 (c.2.1 7 a.toNatClampNeg).toNatClampNeg) (c.2.2 5 (c.2.1 8 a.toNatClampNeg).toNatClampNeg)))
  else
    (gX0_put c a (fX1_opposite (c.2.2 5 (c.2.1 7 a.toNatClampNeg).toNatClampNeg)) (fX1_opposite (c.2.2 4 (c.2.1 7 a.toNatClampNeg).toNatClampNeg)))
def tX0_encloseMade : Tr := fun as σ k => match as with
  | [.ref 3, .int a] => ∃ (c : CS) (M : aS), σ = wC c ++ M ∧ vp_in a 32 ∧ vp_in (c.2.1 7 a.toNatClampNeg) 32 ∧ vp_in (c.2.1 8 a.toNatClampNeg) 32 ∧ k none (wC (gX0_encloseMade c a) ++ M)
  | _ => False
def ceX0_encloseMade : List (Nat × Nat × Tr) := (2 * 66, 2, tX1_plus) :: (2 * 119, 1, tX1_down) :: (2 * 122, 1, tX1_up) :: (2 * 111 + 1, 3 + 1, tX0_put) :: (2 * 70, 1, tX1_opposite) :: (2 * 73, 2, tX1_times) :: (2 * 125 + 1, 5 + 1, tX0_putFour) :: (2 * 129, 2, tX1_isBelow) :: (2 * 76, 2, tX1_over) :: (2 * 133 + 1, 1 + 1, tX0_putWholeLine) :: (2 * 62, 3, tX0_made) :: (2 * 136 + 1, 3 + 1, tX0_putSize) :: (2 * 139 + 1, 3 + 1, tX0_putRoot) :: (2 * 142 + 1, 3 + 1, tX0_putSquare) :: []
theorem coX0_encloseMade (l : Launch) : CEok l yX0_encloseMade.cls 5 ceX0_encloseMade := ce_S (okX1_plus l) (mw 223 (by decide +kernel) rfl) (mw 224 (by decide +kernel) rfl) (mw 5 (by decide +kernel) rfl) (mw 225 (by decide +kernel) rfl) (by decide) ⟨by decide, by decide⟩ (ce_S (okX1_down l) (mw 255 (by decide +kernel) rfl) (mw 256 (by decide +kernel) rfl) (mw 5 (by decide +kernel) rfl) (mw 257 (by decide +kernel) rfl) (by decide) ⟨by decide, by decide⟩ (ce_S (okX1_up l) (mw 267 (by decide +kernel) rfl) (mw 262 (by decide +kernel) rfl) (mw 5 (by decide +kernel) rfl) (mw 263 (by decide +kernel) rfl) (by decide) ⟨by decide, by decide⟩ (ce_V (ci := 0) (n := 3) rfl (okX0_put l) rcX0_put (mw 208 (by decide +kernel) rfl) (mw 210 (by decide +kernel) rfl) (ms 2 (by decide +kernel) rfl) (mw 2 (by decide +kernel) rfl) (mw 211 (by decide +kernel) rfl) rfl (by decide) ⟨by decide, by decide⟩ (ce_S (okX1_opposite l) (mw 268 (by decide +kernel) rfl) (mw 259 (by decide +kernel) rfl) (mw 5 (by decide +kernel) rfl) (mw 260 (by decide +kernel) rfl) (by decide) ⟨by decide, by decide⟩ (ce_S (okX1_times l) (mw 269 (by decide +kernel) rfl) (mw 270 (by decide +kernel) rfl) (mw 5 (by decide +kernel) rfl) (mw 271 (by decide +kernel) rfl) (by decide) ⟨by decide, by decide⟩ (ce_V (ci := 0) (n := 5) rfl (okX0_putFour l) rcX0_putFour (mw 278 (by decide +kernel) rfl) (mw 280 (by decide +kernel) rfl) (ms 5 (by decide +kernel) rfl) (mw 2 (by decide +kernel) rfl) (mw 281 (by decide +kernel) rfl) rfl (by decide) ⟨by decide, by decide⟩ (ce_S (okX1_isBelow l) (mw 292 (by decide +kernel) rfl) (mw 134 (by decide +kernel) rfl) (mw 5 (by decide +kernel) rfl) (mw 135 (by decide +kernel) rfl) (by decide) ⟨by decide, by decide⟩ (ce_S (okX1_over l) (mw 293 (by decide +kernel) rfl) (mw 294 (by decide +kernel) rfl) (mw 5 (by decide +kernel) rfl) (mw 295 (by decide +kernel) rfl) (by decide) ⟨by decide, by decide⟩ (ce_V (ci := 0) (n := 1) rfl (okX0_putWholeLine l) rcX0_putWholeLine (mw 213 (by decide +kernel) rfl) (mw 215 (by decide +kernel) rfl) (ms 3 (by decide +kernel) rfl) (mw 2 (by decide +kernel) rfl) (mw 216 (by decide +kernel) rfl) rfl (by decide) ⟨by decide, by decide⟩ (ce_S (okX0_made l) (mw 322 (by decide +kernel) rfl) (mw 323 (by decide +kernel) rfl) (mw 2 (by decide +kernel) rfl) (mw 324 (by decide +kernel) rfl) (by decide) ⟨by decide, by decide⟩ (ce_V (ci := 0) (n := 3) rfl (okX0_putSize l) rcX0_putSize (mw 299 (by decide +kernel) rfl) (mw 301 (by decide +kernel) rfl) (ms 6 (by decide +kernel) rfl) (mw 2 (by decide +kernel) rfl) (mw 302 (by decide +kernel) rfl) rfl (by decide) ⟨by decide, by decide⟩ (ce_V (ci := 0) (n := 3) rfl (okX0_putRoot l) rcX0_putRoot (mw 303 (by decide +kernel) rfl) (mw 305 (by decide +kernel) rfl) (ms 7 (by decide +kernel) rfl) (mw 2 (by decide +kernel) rfl) (mw 306 (by decide +kernel) rfl) rfl (by decide) ⟨by decide, by decide⟩ (ce_V (ci := 0) (n := 3) rfl (okX0_putSquare l) rcX0_putSquare (mw 318 (by decide +kernel) rfl) (mw 320 (by decide +kernel) rfl) (ms 8 (by decide +kernel) rfl) (mw 2 (by decide +kernel) rfl) (mw 321 (by decide +kernel) rfl) rfl (by decide) ⟨by decide, by decide⟩ (ce_0))))))))))))))
theorem rcX0_encloseMade : ∀ as σ kk, tX0_encloseMade as σ kk → ∃ a r fs, as = .ref a :: r ∧ σ[a]? = some (.inr (0, fs)) := by
  intro as σ kk h
  unfold tX0_encloseMade at h; split at h
  · obtain ⟨c, M, rfl, -⟩ := h
    exact ⟨_, _, _, rfl, rfl⟩
  · exact h.elim
set_option maxRecDepth 20000 in
set_option maxHeartbeats 4000000 in
theorem okX0_encloseMade (l : Launch) : OK l yX0_encloseMade cX0_encloseMade 10 none 5 tX0_encloseMade := by
  intro D τ ρ A as σ post h
  unfold tX0_encloseMade at h; split at h
  · rename_i a; obtain ⟨c, M, rfl, p1, p2, p3, hk⟩ := h
    refine met_of (P := pgX0_encloseMade) (CE := ceX0_encloseMade) (cut := []) (by decide) kkX0_encloseMade (coX0_encloseMade l) (Nat.le_of_ble_eq_true rfl) ?_
    intro G hG; refine hG 200 false 0 _ _ _ ?_
    refine And.intro (by first | assumption | (unfold vp_in; decide)) ?_
    refine And.intro (by first | assumption | (unfold vp_in; decide)) ?_
    refine And.intro (by first | assumption | (unfold vp_in; decide)) ?_
    refine And.intro (by first | assumption | (unfold vp_in; decide)) ?_
    refine And.intro (by first | assumption | (unfold vp_in; decide)) ?_
    refine And.intro (by first | assumption | (unfold vp_in; decide)) ?_
    refine And.intro (by first | assumption | (unfold vp_in; decide)) ?_
    refine And.intro (by first | assumption | (unfold vp_in; decide)) ?_
    refine And.intro (by first | assumption | (unfold vp_in; decide)) ?_
    refine And.intro (fun (h0 : (c.2.1 6 a.toNatClampNeg).toInt < 2 ∨ 12 < (c.2.1 6 a.toNatClampNeg).toInt) => ?_) ?_
    · refine And.intro (by first | assumption | (unfold vp_in; decide)) ?_
      refine And.intro (by first | assumption | (unfold vp_in; decide)) ?_
      refine Exists.intro c (Exists.intro M (And.intro rfl (And.intro (by first | assumption | (unfold vp_in; decide)) (?_))))
      exact And.intro trivial (leafS hk rfl (show wC _ ++ M = _ by unfold gX0_encloseMade; first | (rw [if_pos h0]; done) | (rw [if_pos h0]; rfl)))
    refine And.intro (fun (hw2 : (c.2.1 6 a.toNatClampNeg) = (2 : Int32)) => ?_) ?_
    · refine Exists.intro c (Exists.intro M (And.intro rfl (And.intro (by first | assumption | (unfold vp_in; decide)) (?_))))
      exact And.intro trivial (leafS hk rfl (show wC _ ++ M = _ by unfold gX0_encloseMade; first | (rw [hw2, if_neg (show ¬ ((2 : Int32).toInt < 2 ∨ 12 < (2 : Int32).toInt) by decide), if_pos rfl]; done) | (rw [hw2, if_neg (show ¬ ((2 : Int32).toInt < 2 ∨ 12 < (2 : Int32).toInt) by decide), if_pos rfl]; rfl)))
    refine And.intro (fun (hw3 : (c.2.1 6 a.toNatClampNeg) = (3 : Int32)) => ?_) ?_
    · refine Exists.intro c (Exists.intro M (And.intro rfl (And.intro (by first | assumption | (unfold vp_in; decide)) (?_))))
      exact And.intro trivial (leafS hk rfl (show wC _ ++ M = _ by unfold gX0_encloseMade; first | (rw [hw3, if_neg (show ¬ ((3 : Int32).toInt < 2 ∨ 12 < (3 : Int32).toInt) by decide), if_neg (show ¬ ((3 : Int32) = 2) by decide), if_pos rfl]; done) | (rw [hw3, if_neg (show ¬ ((3 : Int32).toInt < 2 ∨ 12 < (3 : Int32).toInt) by decide), if_neg (show ¬ ((3 : Int32) = 2) by decide), if_pos rfl]; rfl)))
    refine And.intro (fun (hw4 : (c.2.1 6 a.toNatClampNeg) = (4 : Int32)) => ?_) ?_
    · refine Exists.intro c (Exists.intro M (And.intro rfl (And.intro (by first | assumption | (unfold vp_in; decide)) (?_))))
      exact And.intro trivial (leafS hk rfl (show wC _ ++ M = _ by unfold gX0_encloseMade; first | (rw [hw4, if_neg (show ¬ ((4 : Int32).toInt < 2 ∨ 12 < (4 : Int32).toInt) by decide), if_neg (show ¬ ((4 : Int32) = 2) by decide), if_neg (show ¬ ((4 : Int32) = 3) by decide), if_pos rfl]; done) | (rw [hw4, if_neg (show ¬ ((4 : Int32).toInt < 2 ∨ 12 < (4 : Int32).toInt) by decide), if_neg (show ¬ ((4 : Int32) = 2) by decide), if_neg (show ¬ ((4 : Int32) = 3) by decide), if_pos rfl]; rfl)))
    refine And.intro (fun (hw5 : (c.2.1 6 a.toNatClampNeg) = (5 : Int32)) => ?_) ?_
    · refine And.intro (fun (h6 : ¬ (fX1_isBelow (0 : Int64) (c.2.2 4 (c.2.1 8 a.toNatClampNeg).toNatClampNeg)) = 0) => ?_) (fun h6q => have h6 : (fX1_isBelow (0 : Int64) (c.2.2 4 (c.2.1 8 a.toNatClampNeg).toNatClampNeg)) = 0 := Classical.not_not.mp h6q; ?_)
      · refine Exists.intro c (Exists.intro M (And.intro rfl (And.intro (by first | assumption | (unfold vp_in; decide)) (?_))))
        exact And.intro trivial (leafS hk rfl (show wC _ ++ M = _ by unfold gX0_encloseMade; first | (rw [hw5, if_neg (show ¬ ((5 : Int32).toInt < 2 ∨ 12 < (5 : Int32).toInt) by decide), if_neg (show ¬ ((5 : Int32) = 2) by decide), if_neg (show ¬ ((5 : Int32) = 3) by decide), if_neg (show ¬ ((5 : Int32) = 4) by decide), if_pos rfl, if_neg h6]; done) | (rw [hw5, if_neg (show ¬ ((5 : Int32).toInt < 2 ∨ 12 < (5 : Int32).toInt) by decide), if_neg (show ¬ ((5 : Int32) = 2) by decide), if_neg (show ¬ ((5 : Int32) = 3) by decide), if_neg (show ¬ ((5 : Int32) = 4) by decide), if_pos rfl, if_neg h6]; rfl)))
      · refine And.intro (fun (h7 : ¬ (fX1_isBelow (c.2.2 5 (c.2.1 8 a.toNatClampNeg).toNatClampNeg) (0 : Int64)) = 0) => ?_) (fun h7q => have h7 : (fX1_isBelow (c.2.2 5 (c.2.1 8 a.toNatClampNeg).toNatClampNeg) (0 : Int64)) = 0 := Classical.not_not.mp h7q; ?_)
        · refine Exists.intro c (Exists.intro M (And.intro rfl (And.intro (by first | assumption | (unfold vp_in; decide)) (?_))))
          exact And.intro trivial (leafS hk rfl (show wC _ ++ M = _ by unfold gX0_encloseMade; first | (rw [hw5, if_neg (show ¬ ((5 : Int32).toInt < 2 ∨ 12 < (5 : Int32).toInt) by decide), if_neg (show ¬ ((5 : Int32) = 2) by decide), if_neg (show ¬ ((5 : Int32) = 3) by decide), if_neg (show ¬ ((5 : Int32) = 4) by decide), if_pos rfl, if_pos h6, if_neg h7]; done) | (rw [hw5, if_neg (show ¬ ((5 : Int32).toInt < 2 ∨ 12 < (5 : Int32).toInt) by decide), if_neg (show ¬ ((5 : Int32) = 2) by decide), if_neg (show ¬ ((5 : Int32) = 3) by decide), if_neg (show ¬ ((5 : Int32) = 4) by decide), if_pos rfl, if_pos h6, if_neg h7]; rfl)))
        · refine Exists.intro c (Exists.intro M (And.intro rfl (And.intro (by first | assumption | (unfold vp_in; decide)) (?_))))
          exact And.intro trivial (leafS hk rfl (show wC _ ++ M = _ by unfold gX0_encloseMade; first | (rw [hw5, if_neg (show ¬ ((5 : Int32).toInt < 2 ∨ 12 < (5 : Int32).toInt) by decide), if_neg (show ¬ ((5 : Int32) = 2) by decide), if_neg (show ¬ ((5 : Int32) = 3) by decide), if_neg (show ¬ ((5 : Int32) = 4) by decide), if_pos rfl, if_pos h6, if_pos h7]; done) | (rw [hw5, if_neg (show ¬ ((5 : Int32).toInt < 2 ∨ 12 < (5 : Int32).toInt) by decide), if_neg (show ¬ ((5 : Int32) = 2) by decide), if_neg (show ¬ ((5 : Int32) = 3) by decide), if_neg (show ¬ ((5 : Int32) = 4) by decide), if_pos rfl, if_pos h6, if_pos h7]; rfl)))
    refine And.intro (fun (hw6 : (c.2.1 6 a.toNatClampNeg) = (6 : Int32)) => ?_) ?_
    · refine And.intro (by first | assumption | (unfold vp_in; decide)) ?_
      refine And.intro (by first | assumption | (unfold vp_in; decide)) ?_
      refine Exists.intro c (Exists.intro M (And.intro rfl (And.intro (by first | assumption | (unfold vp_in; decide)) (?_))))
      exact And.intro trivial (leafS hk rfl (show wC _ ++ M = _ by unfold gX0_encloseMade; first | (rw [hw6, if_neg (show ¬ ((6 : Int32).toInt < 2 ∨ 12 < (6 : Int32).toInt) by decide), if_neg (show ¬ ((6 : Int32) = 2) by decide), if_neg (show ¬ ((6 : Int32) = 3) by decide), if_neg (show ¬ ((6 : Int32) = 4) by decide), if_neg (show ¬ ((6 : Int32) = 5) by decide), if_pos rfl]; done) | (rw [hw6, if_neg (show ¬ ((6 : Int32).toInt < 2 ∨ 12 < (6 : Int32).toInt) by decide), if_neg (show ¬ ((6 : Int32) = 2) by decide), if_neg (show ¬ ((6 : Int32) = 3) by decide), if_neg (show ¬ ((6 : Int32) = 4) by decide), if_neg (show ¬ ((6 : Int32) = 5) by decide), if_pos rfl]; rfl)))
    refine And.intro (fun (hw7 : (c.2.1 6 a.toNatClampNeg) = (7 : Int32)) => ?_) ?_
    · refine And.intro (by first | assumption | (unfold vp_in; decide)) ?_
      refine And.intro (by first | assumption | (unfold vp_in; decide)) ?_
      refine Exists.intro c (Exists.intro M (And.intro rfl (And.intro (by first | assumption | (unfold vp_in; decide)) (?_))))
      exact And.intro trivial (leafS hk rfl (show wC _ ++ M = _ by unfold gX0_encloseMade; first | (rw [hw7, if_neg (show ¬ ((7 : Int32).toInt < 2 ∨ 12 < (7 : Int32).toInt) by decide), if_neg (show ¬ ((7 : Int32) = 2) by decide), if_neg (show ¬ ((7 : Int32) = 3) by decide), if_neg (show ¬ ((7 : Int32) = 4) by decide), if_neg (show ¬ ((7 : Int32) = 5) by decide), if_neg (show ¬ ((7 : Int32) = 6) by decide), if_pos rfl]; done) | (rw [hw7, if_neg (show ¬ ((7 : Int32).toInt < 2 ∨ 12 < (7 : Int32).toInt) by decide), if_neg (show ¬ ((7 : Int32) = 2) by decide), if_neg (show ¬ ((7 : Int32) = 3) by decide), if_neg (show ¬ ((7 : Int32) = 4) by decide), if_neg (show ¬ ((7 : Int32) = 5) by decide), if_neg (show ¬ ((7 : Int32) = 6) by decide), if_pos rfl]; rfl)))
    refine And.intro (fun (hw8 : (c.2.1 6 a.toNatClampNeg) = (8 : Int32)) => ?_) ?_
    · refine Exists.intro c (Exists.intro M (And.intro rfl (And.intro (by first | assumption | (unfold vp_in; decide)) (?_))))
      exact And.intro trivial (leafS hk rfl (show wC _ ++ M = _ by unfold gX0_encloseMade; first | (rw [hw8, if_neg (show ¬ ((8 : Int32).toInt < 2 ∨ 12 < (8 : Int32).toInt) by decide), if_neg (show ¬ ((8 : Int32) = 2) by decide), if_neg (show ¬ ((8 : Int32) = 3) by decide), if_neg (show ¬ ((8 : Int32) = 4) by decide), if_neg (show ¬ ((8 : Int32) = 5) by decide), if_neg (show ¬ ((8 : Int32) = 6) by decide), if_neg (show ¬ ((8 : Int32) = 7) by decide), if_pos rfl]; done) | (rw [hw8, if_neg (show ¬ ((8 : Int32).toInt < 2 ∨ 12 < (8 : Int32).toInt) by decide), if_neg (show ¬ ((8 : Int32) = 2) by decide), if_neg (show ¬ ((8 : Int32) = 3) by decide), if_neg (show ¬ ((8 : Int32) = 4) by decide), if_neg (show ¬ ((8 : Int32) = 5) by decide), if_neg (show ¬ ((8 : Int32) = 6) by decide), if_neg (show ¬ ((8 : Int32) = 7) by decide), if_pos rfl]; rfl)))
    refine And.intro (fun (hw9 : (c.2.1 6 a.toNatClampNeg) = (9 : Int32)) => ?_) ?_
    · refine Exists.intro c (Exists.intro M (And.intro rfl (And.intro (by first | assumption | (unfold vp_in; decide)) (?_))))
      exact And.intro trivial (leafS hk rfl (show wC _ ++ M = _ by unfold gX0_encloseMade; first | (rw [hw9, if_neg (show ¬ ((9 : Int32).toInt < 2 ∨ 12 < (9 : Int32).toInt) by decide), if_neg (show ¬ ((9 : Int32) = 2) by decide), if_neg (show ¬ ((9 : Int32) = 3) by decide), if_neg (show ¬ ((9 : Int32) = 4) by decide), if_neg (show ¬ ((9 : Int32) = 5) by decide), if_neg (show ¬ ((9 : Int32) = 6) by decide), if_neg (show ¬ ((9 : Int32) = 7) by decide), if_neg (show ¬ ((9 : Int32) = 8) by decide), if_pos rfl]; done) | (rw [hw9, if_neg (show ¬ ((9 : Int32).toInt < 2 ∨ 12 < (9 : Int32).toInt) by decide), if_neg (show ¬ ((9 : Int32) = 2) by decide), if_neg (show ¬ ((9 : Int32) = 3) by decide), if_neg (show ¬ ((9 : Int32) = 4) by decide), if_neg (show ¬ ((9 : Int32) = 5) by decide), if_neg (show ¬ ((9 : Int32) = 6) by decide), if_neg (show ¬ ((9 : Int32) = 7) by decide), if_neg (show ¬ ((9 : Int32) = 8) by decide), if_pos rfl]; rfl)))
    refine And.intro (fun (hw10 : (c.2.1 6 a.toNatClampNeg) = (10 : Int32)) => ?_) ?_
    · refine Exists.intro c (Exists.intro M (And.intro rfl (And.intro (by first | assumption | (unfold vp_in; decide)) (?_))))
      refine And.intro (by first | assumption | (unfold vp_in; decide)) ?_
      refine And.intro (by first | assumption | (unfold vp_in; decide)) ?_
      refine Exists.intro (gX0_putSize c a (c.2.2 4 (c.2.1 7 a.toNatClampNeg).toNatClampNeg) (c.2.2 5 (c.2.1 7 a.toNatClampNeg).toNatClampNeg)) (Exists.intro M (And.intro rfl (And.intro (by first | assumption | (unfold vp_in; decide)) (?_))))
      exact And.intro trivial (leafS hk rfl (show wC _ ++ M = _ by unfold gX0_encloseMade; first | (rw [hw10, if_neg (show ¬ ((10 : Int32).toInt < 2 ∨ 12 < (10 : Int32).toInt) by decide), if_neg (show ¬ ((10 : Int32) = 2) by decide), if_neg (show ¬ ((10 : Int32) = 3) by decide), if_neg (show ¬ ((10 : Int32) = 4) by decide), if_neg (show ¬ ((10 : Int32) = 5) by decide), if_neg (show ¬ ((10 : Int32) = 6) by decide), if_neg (show ¬ ((10 : Int32) = 7) by decide), if_neg (show ¬ ((10 : Int32) = 8) by decide), if_neg (show ¬ ((10 : Int32) = 9) by decide), if_pos rfl]; done) | (rw [hw10, if_neg (show ¬ ((10 : Int32).toInt < 2 ∨ 12 < (10 : Int32).toInt) by decide), if_neg (show ¬ ((10 : Int32) = 2) by decide), if_neg (show ¬ ((10 : Int32) = 3) by decide), if_neg (show ¬ ((10 : Int32) = 4) by decide), if_neg (show ¬ ((10 : Int32) = 5) by decide), if_neg (show ¬ ((10 : Int32) = 6) by decide), if_neg (show ¬ ((10 : Int32) = 7) by decide), if_neg (show ¬ ((10 : Int32) = 8) by decide), if_neg (show ¬ ((10 : Int32) = 9) by decide), if_pos rfl]; rfl)))
    refine And.intro (fun (hw11 : (c.2.1 6 a.toNatClampNeg) = (11 : Int32)) => ?_) ?_
    · refine And.intro (by first | assumption | (unfold vp_in; decide)) ?_
      refine And.intro (by first | assumption | (unfold vp_in; decide)) ?_
      refine Exists.intro c (Exists.intro M (And.intro rfl (And.intro (by first | assumption | (unfold vp_in; decide)) (?_))))
      exact And.intro trivial (leafS hk rfl (show wC _ ++ M = _ by unfold gX0_encloseMade; first | (rw [hw11, if_neg (show ¬ ((11 : Int32).toInt < 2 ∨ 12 < (11 : Int32).toInt) by decide), if_neg (show ¬ ((11 : Int32) = 2) by decide), if_neg (show ¬ ((11 : Int32) = 3) by decide), if_neg (show ¬ ((11 : Int32) = 4) by decide), if_neg (show ¬ ((11 : Int32) = 5) by decide), if_neg (show ¬ ((11 : Int32) = 6) by decide), if_neg (show ¬ ((11 : Int32) = 7) by decide), if_neg (show ¬ ((11 : Int32) = 8) by decide), if_neg (show ¬ ((11 : Int32) = 9) by decide), if_neg (show ¬ ((11 : Int32) = 10) by decide), if_pos rfl]; done) | (rw [hw11, if_neg (show ¬ ((11 : Int32).toInt < 2 ∨ 12 < (11 : Int32).toInt) by decide), if_neg (show ¬ ((11 : Int32) = 2) by decide), if_neg (show ¬ ((11 : Int32) = 3) by decide), if_neg (show ¬ ((11 : Int32) = 4) by decide), if_neg (show ¬ ((11 : Int32) = 5) by decide), if_neg (show ¬ ((11 : Int32) = 6) by decide), if_neg (show ¬ ((11 : Int32) = 7) by decide), if_neg (show ¬ ((11 : Int32) = 8) by decide), if_neg (show ¬ ((11 : Int32) = 9) by decide), if_neg (show ¬ ((11 : Int32) = 10) by decide), if_pos rfl]; rfl)))
    refine And.intro (fun (hw12 : (c.2.1 6 a.toNatClampNeg) = (12 : Int32)) => ?_) ?_
    · refine Exists.intro c (Exists.intro M (And.intro rfl (And.intro (by first | assumption | (unfold vp_in; decide)) (?_))))
      exact And.intro trivial (leafS hk rfl (show wC _ ++ M = _ by unfold gX0_encloseMade; first | (rw [hw12, if_neg (show ¬ ((12 : Int32).toInt < 2 ∨ 12 < (12 : Int32).toInt) by decide), if_neg (show ¬ ((12 : Int32) = 2) by decide), if_neg (show ¬ ((12 : Int32) = 3) by decide), if_neg (show ¬ ((12 : Int32) = 4) by decide), if_neg (show ¬ ((12 : Int32) = 5) by decide), if_neg (show ¬ ((12 : Int32) = 6) by decide), if_neg (show ¬ ((12 : Int32) = 7) by decide), if_neg (show ¬ ((12 : Int32) = 8) by decide), if_neg (show ¬ ((12 : Int32) = 9) by decide), if_neg (show ¬ ((12 : Int32) = 10) by decide), if_neg (show ¬ ((12 : Int32) = 11) by decide)]; done) | (rw [hw12, if_neg (show ¬ ((12 : Int32).toInt < 2 ∨ 12 < (12 : Int32).toInt) by decide), if_neg (show ¬ ((12 : Int32) = 2) by decide), if_neg (show ¬ ((12 : Int32) = 3) by decide), if_neg (show ¬ ((12 : Int32) = 4) by decide), if_neg (show ¬ ((12 : Int32) = 5) by decide), if_neg (show ¬ ((12 : Int32) = 6) by decide), if_neg (show ¬ ((12 : Int32) = 7) by decide), if_neg (show ¬ ((12 : Int32) = 8) by decide), if_neg (show ¬ ((12 : Int32) = 9) by decide), if_neg (show ¬ ((12 : Int32) = 10) by decide), if_neg (show ¬ ((12 : Int32) = 11) by decide)]; rfl)))
    exact trivial
  · exact h.elim
def vX2_has (c : CS) (a : Int32) : Int32 :=
  if a < 0 then
    (0 : Int32)
  else
    if (c.1 3) ≤ a then
      (0 : Int32)
    else
      (1 : Int32)
def tX2_has : Tr := fun as σ k => match as with
  | [.ref 11, .int a] => ∃ (c : CS) (M : aS), σ = wC c ++ M ∧ k (some (.int (vX2_has c a))) (wC c ++ M)
  | _ => False
def ceX2_has : List (Nat × Nat × Tr) := []
theorem coX2_has (l : Launch) : CEok l yX2_has.cls 0 ceX2_has := ce_0
theorem rcX2_has : ∀ as σ kk, tX2_has as σ kk → ∃ a r fs, as = .ref a :: r ∧ σ[a]? = some (.inr (1, fs)) := by
  intro as σ kk h
  unfold tX2_has at h; split at h
  · obtain ⟨c, M, rfl, -⟩ := h
    exact ⟨_, _, _, rfl, rfl⟩
  · exact h.elim
set_option maxRecDepth 20000 in
set_option maxHeartbeats 4000000 in
theorem okX2_has (l : Launch) : OK l yX2_has cX2_has 2 (some .boolean) 0 tX2_has := by
  intro D τ ρ A as σ post h
  unfold tX2_has at h; split at h
  · rename_i a; obtain ⟨c, M, rfl, hk⟩ := h
    refine met_of (P := pgX2_has) (CE := ceX2_has) (cut := []) (by decide) kkX2_has (coX2_has l) (Nat.le_of_ble_eq_true rfl) ?_
    intro G hG; refine hG 200 false 0 _ _ _ ?_
    refine And.intro (fun (h0 : a < 0) => ?_) (fun (h0 : ¬ a < 0) => ?_)
    · exact And.intro (Or.inl rfl) (leafS hk (congrArg (fun z => some (Value.int z)) (by unfold vX2_has; first | (rw [if_pos h0]; done) | (rw [if_pos h0]; rfl))) rfl)
    · refine And.intro (fun (h1 : (c.1 3) ≤ a) => ?_) (fun (h1 : ¬ (c.1 3) ≤ a) => ?_)
      · exact And.intro (Or.inl rfl) (leafS hk (congrArg (fun z => some (Value.int z)) (by unfold vX2_has; first | (rw [if_neg h0, if_pos h1]; done) | (rw [if_neg h0, if_pos h1]; rfl))) rfl)
      · exact And.intro (Or.inr rfl) (leafS hk (congrArg (fun z => some (Value.int z)) (by unfold vX2_has; first | (rw [if_neg h0, if_neg h1]; done) | (rw [if_neg h0, if_neg h1]; rfl))) rfl)
  · exact h.elim
def gX2_end (c : CS)  : CS :=
  (setI c 3 (0 : Int32))
def tX2_end : Tr := fun as σ k => match as with
  | [.ref 11] => ∃ (c : CS) (M : aS), σ = wC c ++ M ∧ k none (wC (gX2_end c ) ++ M)
  | _ => False
def ceX2_end : List (Nat × Nat × Tr) := []
theorem coX2_end (l : Launch) : CEok l yX2_end.cls 0 ceX2_end := ce_0
theorem rcX2_end : ∀ as σ kk, tX2_end as σ kk → ∃ a r fs, as = .ref a :: r ∧ σ[a]? = some (.inr (1, fs)) := by
  intro as σ kk h
  unfold tX2_end at h; split at h
  · obtain ⟨c, M, rfl, -⟩ := h
    exact ⟨_, _, _, rfl, rfl⟩
  · exact h.elim
set_option maxRecDepth 20000 in
set_option maxHeartbeats 4000000 in
theorem okX2_end (l : Launch) : OK l yX2_end cX2_end 1 none 0 tX2_end := by
  intro D τ ρ A as σ post h
  unfold tX2_end at h; split at h
  · obtain ⟨c, M, rfl, hk⟩ := h
    refine met_of (P := pgX2_end) (CE := ceX2_end) (cut := []) (by decide) kkX2_end (coX2_end l) (Nat.le_of_ble_eq_true rfl) ?_
    intro G hG; refine hG 200 false 0 _ _ _ ?_
    exact And.intro trivial (leafS hk rfl (show wC _ ++ M = _ by unfold gX2_end; rfl))
  · exact h.elim
