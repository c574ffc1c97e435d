def fX0_isKind (a : Int32) : Int32 :=
  if a < 0 then
    (0 : Int32)
  else
    if (16 : Int32) < a then
      (0 : Int32)
    else
      (1 : Int32)
def tX0_isKind : Tr := fun as σ k => match as with
  | [.int a] => k (some (.int (fX0_isKind a))) σ
  | _ => False
def ceX0_isKind : List (Nat × Nat × Tr) := []
theorem coX0_isKind (l : Launch) : CEok l yX0_isKind.cls 0 ceX0_isKind := ce_0
set_option maxRecDepth 20000 in
theorem okX0_isKind (l : Launch) : OK l yX0_isKind cX0_isKind 1 (some .boolean) 0 tX0_isKind := by
  intro D τ ρ A as σ post h
  unfold tX0_isKind at h; split at h
  · rename_i a; have hk := h
    refine met_of (P := pgX0_isKind) (CE := ceX0_isKind) (cut := []) (by decide) kkX0_isKind (coX0_isKind l) (Nat.le_of_ble_eq_true rfl) ?_
    intro G hG; refine hG 120 false 0 _ _ _ ?_
    refine And.intro (fun (h0 : a < 0) => ?_) (fun (h0 : ¬ a < 0) => ?_)
    · exact And.intro (Or.inl rfl) (leafI hk (by unfold fX0_isKind; first | (rw [if_pos h0]; done) | (rw [if_pos h0]; rfl)))
    · refine And.intro (fun (h1 : (16 : Int32) < a) => ?_) (fun (h1 : ¬ (16 : Int32) < a) => ?_)
      · exact And.intro (Or.inl rfl) (leafI hk (by unfold fX0_isKind; first | (rw [if_neg h0, if_pos h1]; done) | (rw [if_neg h0, if_pos h1]; rfl)))
      · exact And.intro (Or.inr rfl) (leafI hk (by unfold fX0_isKind; first | (rw [if_neg h0, if_neg h1]; done) | (rw [if_neg h0, if_neg h1]; rfl)))
  · exact h.elim
def fX0_hasFirst (a : Int32) : Int32 :=
  if a < (2 : Int32) then
    (0 : Int32)
  else
    (1 : Int32)
def tX0_hasFirst : Tr := fun as σ k => match as with
  | [.int a] => k (some (.int (fX0_hasFirst a))) σ
  | _ => False
def ceX0_hasFirst : List (Nat × Nat × Tr) := []
theorem coX0_hasFirst (l : Launch) : CEok l yX0_hasFirst.cls 0 ceX0_hasFirst := ce_0
set_option maxRecDepth 20000 in
theorem okX0_hasFirst (l : Launch) : OK l yX0_hasFirst cX0_hasFirst 1 (some .boolean) 0 tX0_hasFirst := by
  intro D τ ρ A as σ post h
  unfold tX0_hasFirst at h; split at h
  · rename_i a; have hk := h
    refine met_of (P := pgX0_hasFirst) (CE := ceX0_hasFirst) (cut := []) (by decide) kkX0_hasFirst (coX0_hasFirst l) (Nat.le_of_ble_eq_true rfl) ?_
    intro G hG; refine hG 120 false 0 _ _ _ ?_
    refine And.intro (fun (h0 : a < (2 : Int32)) => ?_) (fun (h0 : ¬ a < (2 : Int32)) => ?_)
    · exact And.intro (Or.inl rfl) (leafI hk (by unfold fX0_hasFirst; first | (rw [if_pos h0]; done) | (rw [if_pos h0]; rfl)))
    · exact And.intro (Or.inr rfl) (leafI hk (by unfold fX0_hasFirst; first | (rw [if_neg h0]; done) | (rw [if_neg h0]; rfl)))
  · exact h.elim
def fX0_hasSecond (a : Int32) : Int32 :=
  if a < (2 : Int32) then
    (0 : Int32)
  else
    if (7 : Int32) < a then
      (0 : Int32)
    else
      (1 : Int32)
def tX0_hasSecond : Tr := fun as σ k => match as with
  | [.int a] => k (some (.int (fX0_hasSecond a))) σ
  | _ => False
def ceX0_hasSecond : List (Nat × Nat × Tr) := []
theorem coX0_hasSecond (l : Launch) : CEok l yX0_hasSecond.cls 0 ceX0_hasSecond := ce_0
set_option maxRecDepth 20000 in
theorem okX0_hasSecond (l : Launch) : OK l yX0_hasSecond cX0_hasSecond 1 (some .boolean) 0 tX0_hasSecond := by
  intro D τ ρ A as σ post h
  unfold tX0_hasSecond at h; split at h
  · rename_i a; have hk := h
    refine met_of (P := pgX0_hasSecond) (CE := ceX0_hasSecond) (cut := []) (by decide) kkX0_hasSecond (coX0_hasSecond l) (Nat.le_of_ble_eq_true rfl) ?_
    intro G hG; refine hG 120 false 0 _ _ _ ?_
    refine And.intro (fun (h0 : a < (2 : Int32)) => ?_) (fun (h0 : ¬ a < (2 : Int32)) => ?_)
    · exact And.intro (Or.inl rfl) (leafI hk (by unfold fX0_hasSecond; first | (rw [if_pos h0]; done) | (rw [if_pos h0]; rfl)))
    · refine And.intro (fun (h1 : (7 : Int32) < a) => ?_) (fun (h1 : ¬ (7 : Int32) < a) => ?_)
      · exact And.intro (Or.inl rfl) (leafI hk (by unfold fX0_hasSecond; first | (rw [if_neg h0, if_pos h1]; done) | (rw [if_neg h0, if_pos h1]; rfl)))
      · exact And.intro (Or.inr rfl) (leafI hk (by unfold fX0_hasSecond; first | (rw [if_neg h0, if_neg h1]; done) | (rw [if_neg h0, if_neg h1]; rfl)))
  · exact h.elim
def fX2_place (a : Int32) (b : Int32) : Int32 :=
  ((a * (6 : Int32)) + ((2 : Int32) * b))
def tX2_place : Tr := fun as σ k => match as with
  | [.int a, .int b] => k (some (.int (fX2_place a b))) σ
  | _ => False
def ceX2_place : List (Nat × Nat × Tr) := []
theorem coX2_place (l : Launch) : CEok l yX2_place.cls 0 ceX2_place := ce_0
set_option maxRecDepth 20000 in
theorem okX2_place (l : Launch) : OK l yX2_place cX2_place 2 (some .int) 0 tX2_place := by
  intro D τ ρ A as σ post h
  unfold tX2_place at h; split at h
  · rename_i a b; have hk := h
    refine met_of (P := pgX2_place) (CE := ceX2_place) (cut := []) (by decide) kkX2_place (coX2_place l) (Nat.le_of_ble_eq_true rfl) ?_
    intro G hG; refine hG 120 false 0 _ _ _ ?_
    exact And.intro trivial (leafI hk (by unfold fX2_place; rfl))
  · exact h.elim
def fX3_isEnd (a : Int32) : Int32 :=
  if a = 0 then
    (1 : Int32)
  else
    if a = (1 : Int32) then
      (1 : Int32)
    else
      (0 : Int32)
def tX3_isEnd : Tr := fun as σ k => match as with
  | [.int a] => k (some (.int (fX3_isEnd a))) σ
  | _ => False
def ceX3_isEnd : List (Nat × Nat × Tr) := []
theorem coX3_isEnd (l : Launch) : CEok l yX3_isEnd.cls 0 ceX3_isEnd := ce_0
set_option maxRecDepth 20000 in
theorem okX3_isEnd (l : Launch) : OK l yX3_isEnd cX3_isEnd 1 (some .boolean) 0 tX3_isEnd := by
  intro D τ ρ A as σ post h
  unfold tX3_isEnd at h; split at h
  · rename_i a; have hk := h
    refine met_of (P := pgX3_isEnd) (CE := ceX3_isEnd) (cut := []) (by decide) kkX3_isEnd (coX3_isEnd l) (Nat.le_of_ble_eq_true rfl) ?_
    intro G hG; refine hG 120 false 0 _ _ _ ?_
    refine And.intro (fun (h0 : a = 0) => ?_) (fun (h0 : ¬ a = 0) => ?_)
    · exact And.intro (Or.inr rfl) (leafI hk (by unfold fX3_isEnd; first | (rw [if_pos h0]; done) | (rw [if_pos h0]; rfl)))
    · refine And.intro (fun (h1 : ¬ a = (1 : Int32)) => ?_) (fun h1q => have h1 : a = (1 : Int32) := Classical.not_not.mp h1q; ?_)
      · exact And.intro (Or.inl rfl) (leafI hk (by unfold fX3_isEnd; first | (rw [if_neg h0, if_neg h1]; done) | (rw [if_neg h0, if_neg h1]; rfl)))
      · exact And.intro (Or.inr rfl) (leafI hk (by unfold fX3_isEnd; first | (rw [if_neg h0, if_pos h1]; done) | (rw [if_neg h0, if_pos h1]; rfl)))
  · exact h.elim
def fX3_isBoxKind (a : Int32) : Int32 :=
  if a < 0 then
    (0 : Int32)
  else
    if (3 : Int32) < a then
      (0 : Int32)
    else
      (1 : Int32)
def tX3_isBoxKind : Tr := fun as σ k => match as with
  | [.int a] => k (some (.int (fX3_isBoxKind a))) σ
  | _ => False
def ceX3_isBoxKind : List (Nat × Nat × Tr) := []
theorem coX3_isBoxKind (l : Launch) : CEok l yX3_isBoxKind.cls 0 ceX3_isBoxKind := ce_0
set_option maxRecDepth 20000 in
theorem okX3_isBoxKind (l : Launch) : OK l yX3_isBoxKind cX3_isBoxKind 1 (some .boolean) 0 tX3_isBoxKind := by
  intro D τ ρ A as σ post h
  unfold tX3_isBoxKind at h; split at h
  · rename_i a; have hk := h
    refine met_of (P := pgX3_isBoxKind) (CE := ceX3_isBoxKind) (cut := []) (by decide) kkX3_isBoxKind (coX3_isBoxKind l) (Nat.le_of_ble_eq_true rfl) ?_
    intro G hG; refine hG 120 false 0 _ _ _ ?_
    refine And.intro (fun (h0 : a < 0) => ?_) (fun (h0 : ¬ a < 0) => ?_)
    · exact And.intro (Or.inl rfl) (leafI hk (by unfold fX3_isBoxKind; first | (rw [if_pos h0]; done) | (rw [if_pos h0]; rfl)))
    · refine And.intro (fun (h1 : (3 : Int32) < a) => ?_) (fun (h1 : ¬ (3 : Int32) < a) => ?_)
      · exact And.intro (Or.inl rfl) (leafI hk (by unfold fX3_isBoxKind; first | (rw [if_neg h0, if_pos h1]; done) | (rw [if_neg h0, if_pos h1]; rfl)))
      · exact And.intro (Or.inr rfl) (leafI hk (by unfold fX3_isBoxKind; first | (rw [if_neg h0, if_neg h1]; done) | (rw [if_neg h0, if_neg h1]; rfl)))
  · exact h.elim
def fX0_made (a : Int32) (b : Int64) (c : Int64) : Int64 :=
  if a.toInt < 2 ∨ 15 < a.toInt then
    (fX1_cut b (-4332462841530417152 : Int64) (4890909195324358656 : Int64))
  else if a = (2 : Int32) then
    (fX1_plus b c)
  else if a = (3 : Int32) then
    (fX1_plus b (fX1_opposite c))
  else if a = (4 : Int32) then
    (fX1_times b c)
  else if a = (5 : Int32) then
    (fX1_over b c)
  else if a = (6 : Int32) then
    (fX1_lesser b c)
  else if a = (7 : Int32) then
    (fX1_greater b c)
  else if a = (8 : Int32) then
    (fX1_size b)
  else if a = (9 : Int32) then
    (fX1_root b)
  else if a = (10 : Int32) then
    (fX1_times b b)
  else if a = (11 : Int32) then
    (fX1_floor b)
  else if a = (12 : Int32) then
    (fX1_opposite b)
  else if a = (13 : Int32) then
    (fX1_throughFloat b)
  else if a = (14 : Int32) then
    (fX1_signum b)
  else
    (fX1_cut b (-4476578029606273024 : Int64) (4746794007244308480 : Int64))
def tX0_made : Tr := fun as σ k => match as with
  | [.int a, .long b, .long c] => k (some (.long (fX0_made a b c))) σ
  | _ => False
def ceX0_made : List (Nat × Nat × Tr) := (2 * 66, 2, tX1_plus) :: (2 * 70, 1, tX1_opposite) :: (2 * 73, 2, tX1_times) :: (2 * 76, 2, tX1_over) :: (2 * 79, 2, tX1_lesser) :: (2 * 82, 2, tX1_greater) :: (2 * 85, 1, tX1_size) :: (2 * 87, 1, tX1_root) :: (2 * 90, 1, tX1_floor) :: (2 * 93, 1, tX1_throughFloat) :: (2 * 96, 1, tX1_signum) :: (2 * 103, 3, tX1_cut) :: []
theorem coX0_made (l : Launch) : CEok l yX0_made.cls 4 ceX0_made := ce_S (okX1_plus l) (mw 223 (by decide +kernel) rfl) (mw 224 (by decide +kernel) rfl) (mw 5 (by decide +kernel) rfl) (mw 225 (by decide +kernel) rfl) (by decide) ⟨by decide, by decide⟩ (ce_S (okX1_opposite l) (mw 268 (by decide +kernel) rfl) (mw 259 (by decide +kernel) rfl) (mw 5 (by decide +kernel) rfl) (mw 260 (by decide +kernel) rfl) (by decide) ⟨by decide, by decide⟩ (ce_S (okX1_times l) (mw 269 (by decide +kernel) rfl) (mw 270 (by decide +kernel) rfl) (mw 5 (by decide +kernel) rfl) (mw 271 (by decide +kernel) rfl) (by decide) ⟨by decide, by decide⟩ (ce_S (okX1_over l) (mw 293 (by decide +kernel) rfl) (mw 294 (by decide +kernel) rfl) (mw 5 (by decide +kernel) rfl) (mw 295 (by decide +kernel) rfl) (by decide) ⟨by decide, by decide⟩ (ce_S (okX1_lesser l) (mw 282 (by decide +kernel) rfl) (mw 283 (by decide +kernel) rfl) (mw 5 (by decide +kernel) rfl) (mw 284 (by decide +kernel) rfl) (by decide) ⟨by decide, by decide⟩ (ce_S (okX1_greater l) (mw 289 (by decide +kernel) rfl) (mw 290 (by decide +kernel) rfl) (mw 5 (by decide +kernel) rfl) (mw 291 (by decide +kernel) rfl) (by decide) ⟨by decide, by decide⟩ (ce_S (okX1_size l) (mw 325 (by decide +kernel) rfl) (mw 326 (by decide +kernel) rfl) (mw 5 (by decide +kernel) rfl) (mw 327 (by decide +kernel) rfl) (by decide) ⟨by decide, by decide⟩ (ce_S (okX1_root l) (mw 307 (by decide +kernel) rfl) (mw 308 (by decide +kernel) rfl) (mw 5 (by decide +kernel) rfl) (mw 309 (by decide +kernel) rfl) (by decide) ⟨by decide, by decide⟩ (ce_S (okX1_floor l) (mw 328 (by decide +kernel) rfl) (mw 329 (by decide +kernel) rfl) (mw 5 (by decide +kernel) rfl) (mw 330 (by decide +kernel) rfl) (by decide) ⟨by decide, by decide⟩ (ce_S (okX1_throughFloat l) (mw 335 (by decide +kernel) rfl) (mw 336 (by decide +kernel) rfl) (mw 5 (by decide +kernel) rfl) (mw 337 (by decide +kernel) rfl) (by decide) ⟨by decide, by decide⟩ (ce_S (okX1_signum l) (mw 340 (by decide +kernel) rfl) (mw 341 (by decide +kernel) rfl) (mw 5 (by decide +kernel) rfl) (mw 342 (by decide +kernel) rfl) (by decide) ⟨by decide, by decide⟩ (ce_S (okX1_cut l) (mw 346 (by decide +kernel) rfl) (mw 347 (by decide +kernel) rfl) (mw 5 (by decide +kernel) rfl) (mw 348 (by decide +kernel) rfl) (by decide) ⟨by decide, by decide⟩ (ce_0))))))))))))
set_option maxRecDepth 20000 in
theorem okX0_made (l : Launch) : OK l yX0_made cX0_made 5 (some .long) 4 tX0_made := by
  intro D τ ρ A as σ post h
  unfold tX0_made at h; split at h
  · rename_i a b c; have hk := h
    refine met_of (P := pgX0_made) (CE := ceX0_made) (cut := []) (by decide) kkX0_made (coX0_made l) (Nat.le_of_ble_eq_true rfl) ?_
    intro G hG; refine hG 120 false 0 _ _ _ ?_
    refine And.intro (fun (h0 : a.toInt < 2 ∨ 15 < a.toInt) => ?_) ?_
    · exact And.intro trivial (leafL hk (by unfold fX0_made; first | (rw [if_pos h0]; done) | (rw [if_pos h0]; rfl)))
    refine And.intro (fun (hsw : a = (2 : Int32)) => ?_) ?_
    · subst hsw
      exact And.intro trivial (leafL hk (by unfold fX0_made; first | (rw [if_neg (show ¬ ((2 : Int32).toInt < 2 ∨ 15 < (2 : Int32).toInt) by decide), if_pos rfl]; done) | (rw [if_neg (show ¬ ((2 : Int32).toInt < 2 ∨ 15 < (2 : Int32).toInt) by decide), if_pos rfl]; rfl)))
    refine And.intro (fun (hsw : a = (3 : Int32)) => ?_) ?_
    · subst hsw
      exact And.intro trivial (leafL hk (by unfold fX0_made; first | (rw [if_neg (show ¬ ((3 : Int32).toInt < 2 ∨ 15 < (3 : Int32).toInt) by decide), if_neg (show ¬ ((3 : Int32) = 2) by decide), if_pos rfl]; done) | (rw [if_neg (show ¬ ((3 : Int32).toInt < 2 ∨ 15 < (3 : Int32).toInt) by decide), if_neg (show ¬ ((3 : Int32) = 2) by decide), if_pos rfl]; rfl)))
    refine And.intro (fun (hsw : a = (4 : Int32)) => ?_) ?_
    · subst hsw
      exact And.intro trivial (leafL hk (by unfold fX0_made; first | (rw [if_neg (show ¬ ((4 : Int32).toInt < 2 ∨ 15 < (4 : Int32).toInt) by decide), if_neg (show ¬ ((4 : Int32) = 2) by decide), if_neg (show ¬ ((4 : Int32) = 3) by decide), if_pos rfl]; done) | (rw [if_neg (show ¬ ((4 : Int32).toInt < 2 ∨ 15 < (4 : Int32).toInt) by decide), if_neg (show ¬ ((4 : Int32) = 2) by decide), if_neg (show ¬ ((4 : Int32) = 3) by decide), if_pos rfl]; rfl)))
    refine And.intro (fun (hsw : a = (5 : Int32)) => ?_) ?_
    · subst hsw
      exact And.intro trivial (leafL hk (by unfold fX0_made; first | (rw [if_neg (show ¬ ((5 : Int32).toInt < 2 ∨ 15 < (5 : Int32).toInt) by decide), if_neg (show ¬ ((5 : Int32) = 2) by decide), if_neg (show ¬ ((5 : Int32) = 3) by decide), if_neg (show ¬ ((5 : Int32) = 4) by decide), if_pos rfl]; done) | (rw [if_neg (show ¬ ((5 : Int32).toInt < 2 ∨ 15 < (5 : Int32).toInt) by decide), if_neg (show ¬ ((5 : Int32) = 2) by decide), if_neg (show ¬ ((5 : Int32) = 3) by decide), if_neg (show ¬ ((5 : Int32) = 4) by decide), if_pos rfl]; rfl)))
    refine And.intro (fun (hsw : a = (6 : Int32)) => ?_) ?_
    · subst hsw
      exact And.intro trivial (leafL hk (by unfold fX0_made; first | (rw [if_neg (show ¬ ((6 : Int32).toInt < 2 ∨ 15 < (6 : Int32).toInt) by decide), if_neg (show ¬ ((6 : Int32) = 2) by decide), if_neg (show ¬ ((6 : Int32) = 3) by decide), if_neg (show ¬ ((6 : Int32) = 4) by decide), if_neg (show ¬ ((6 : Int32) = 5) by decide), if_pos rfl]; done) | (rw [if_neg (show ¬ ((6 : Int32).toInt < 2 ∨ 15 < (6 : Int32).toInt) by decide), if_neg (show ¬ ((6 : Int32) = 2) by decide), if_neg (show ¬ ((6 : Int32) = 3) by decide), if_neg (show ¬ ((6 : Int32) = 4) by decide), if_neg (show ¬ ((6 : Int32) = 5) by decide), if_pos rfl]; rfl)))
    refine And.intro (fun (hsw : a = (7 : Int32)) => ?_) ?_
    · subst hsw
      exact And.intro trivial (leafL hk (by unfold fX0_made; first | (rw [if_neg (show ¬ ((7 : Int32).toInt < 2 ∨ 15 < (7 : Int32).toInt) by decide), if_neg (show ¬ ((7 : Int32) = 2) by decide), if_neg (show ¬ ((7 : Int32) = 3) by decide), if_neg (show ¬ ((7 : Int32) = 4) by decide), if_neg (show ¬ ((7 : Int32) = 5) by decide), if_neg (show ¬ ((7 : Int32) = 6) by decide), if_pos rfl]; done) | (rw [if_neg (show ¬ ((7 : Int32).toInt < 2 ∨ 15 < (7 : Int32).toInt) by decide), if_neg (show ¬ ((7 : Int32) = 2) by decide), if_neg (show ¬ ((7 : Int32) = 3) by decide), if_neg (show ¬ ((7 : Int32) = 4) by decide), if_neg (show ¬ ((7 : Int32) = 5) by decide), if_neg (show ¬ ((7 : Int32) = 6) by decide), if_pos rfl]; rfl)))
    refine And.intro (fun (hsw : a = (8 : Int32)) => ?_) ?_
    · subst hsw
      exact And.intro trivial (leafL hk (by unfold fX0_made; first | (rw [if_neg (show ¬ ((8 : Int32).toInt < 2 ∨ 15 < (8 : Int32).toInt) by decide), if_neg (show ¬ ((8 : Int32) = 2) by decide), if_neg (show ¬ ((8 : Int32) = 3) by decide), if_neg (show ¬ ((8 : Int32) = 4) by decide), if_neg (show ¬ ((8 : Int32) = 5) by decide), if_neg (show ¬ ((8 : Int32) = 6) by decide), if_neg (show ¬ ((8 : Int32) = 7) by decide), if_pos rfl]; done) | (rw [if_neg (show ¬ ((8 : Int32).toInt < 2 ∨ 15 < (8 : Int32).toInt) by decide), if_neg (show ¬ ((8 : Int32) = 2) by decide), if_neg (show ¬ ((8 : Int32) = 3) by decide), if_neg (show ¬ ((8 : Int32) = 4) by decide), if_neg (show ¬ ((8 : Int32) = 5) by decide), if_neg (show ¬ ((8 : Int32) = 6) by decide), if_neg (show ¬ ((8 : Int32) = 7) by decide), if_pos rfl]; rfl)))
    refine And.intro (fun (hsw : a = (9 : Int32)) => ?_) ?_
    · subst hsw
      exact And.intro trivial (leafL hk (by unfold fX0_made; first | (rw [if_neg (show ¬ ((9 : Int32).toInt < 2 ∨ 15 < (9 : Int32).toInt) by decide), if_neg (show ¬ ((9 : Int32) = 2) by decide), if_neg (show ¬ ((9 : Int32) = 3) by decide), if_neg (show ¬ ((9 : Int32) = 4) by decide), if_neg (show ¬ ((9 : Int32) = 5) by decide), if_neg (show ¬ ((9 : Int32) = 6) by decide), if_neg (show ¬ ((9 : Int32) = 7) by decide), if_neg (show ¬ ((9 : Int32) = 8) by decide), if_pos rfl]; done) | (rw [if_neg (show ¬ ((9 : Int32).toInt < 2 ∨ 15 < (9 : Int32).toInt) by decide), if_neg (show ¬ ((9 : Int32) = 2) by decide), if_neg (show ¬ ((9 : Int32) = 3) by decide), if_neg (show ¬ ((9 : Int32) = 4) by decide), if_neg (show ¬ ((9 : Int32) = 5) by decide), if_neg (show ¬ ((9 : Int32) = 6) by decide), if_neg (show ¬ ((9 : Int32) = 7) by decide), if_neg (show ¬ ((9 : Int32) = 8) by decide), if_pos rfl]; rfl)))
    refine And.intro (fun (hsw : a = (10 : Int32)) => ?_) ?_
    · subst hsw
      exact And.intro trivial (leafL hk (by unfold fX0_made; first | (rw [if_neg (show ¬ ((10 : Int32).toInt < 2 ∨ 15 < (10 : Int32).toInt) by decide), if_neg (show ¬ ((10 : Int32) = 2) by decide), if_neg (show ¬ ((10 : Int32) = 3) by decide), if_neg (show ¬ ((10 : Int32) = 4) by decide), if_neg (show ¬ ((10 : Int32) = 5) by decide), if_neg (show ¬ ((10 : Int32) = 6) by decide), if_neg (show ¬ ((10 : Int32) = 7) by decide), if_neg (show ¬ ((10 : Int32) = 8) by decide), if_neg (show ¬ ((10 : Int32) = 9) by decide), if_pos rfl]; done) | (rw [if_neg (show ¬ ((10 : Int32).toInt < 2 ∨ 15 < (10 : Int32).toInt) by decide), if_neg (show ¬ ((10 : Int32) = 2) by decide), if_neg (show ¬ ((10 : Int32) = 3) by decide), if_neg (show ¬ ((10 : Int32) = 4) by decide), if_neg (show ¬ ((10 : Int32) = 5) by decide), if_neg (show ¬ ((10 : Int32) = 6) by decide), if_neg (show ¬ ((10 : Int32) = 7) by decide), if_neg (show ¬ ((10 : Int32) = 8) by decide), if_neg (show ¬ ((10 : Int32) = 9) by decide), if_pos rfl]; rfl)))
    refine And.intro (fun (hsw : a = (11 : Int32)) => ?_) ?_
    · subst hsw
      exact And.intro trivial (leafL hk (by unfold fX0_made; first | (rw [if_neg (show ¬ ((11 : Int32).toInt < 2 ∨ 15 < (11 : Int32).toInt) by decide), if_neg (show ¬ ((11 : Int32) = 2) by decide), if_neg (show ¬ ((11 : Int32) = 3) by decide), if_neg (show ¬ ((11 : Int32) = 4) by decide), if_neg (show ¬ ((11 : Int32) = 5) by decide), if_neg (show ¬ ((11 : Int32) = 6) by decide), if_neg (show ¬ ((11 : Int32) = 7) by decide), if_neg (show ¬ ((11 : Int32) = 8) by decide), if_neg (show ¬ ((11 : Int32) = 9) by decide), if_neg (show ¬ ((11 : Int32) = 10) by decide), if_pos rfl]; done) | (rw [if_neg (show ¬ ((11 : Int32).toInt < 2 ∨ 15 < (11 : Int32).toInt) by decide), if_neg (show ¬ ((11 : Int32) = 2) by decide), if_neg (show ¬ ((11 : Int32) = 3) by decide), if_neg (show ¬ ((11 : Int32) = 4) by decide), if_neg (show ¬ ((11 : Int32) = 5) by decide), if_neg (show ¬ ((11 : Int32) = 6) by decide), if_neg (show ¬ ((11 : Int32) = 7) by decide), if_neg (show ¬ ((11 : Int32) = 8) by decide), if_neg (show ¬ ((11 : Int32) = 9) by decide), if_neg (show ¬ ((11 : Int32) = 10) by decide), if_pos rfl]; rfl)))
    refine And.intro (fun (hsw : a = (12 : Int32)) => ?_) ?_
    · subst hsw
      exact And.intro trivial (leafL hk (by unfold fX0_made; first | (rw [if_neg (show ¬ ((12 : Int32).toInt < 2 ∨ 15 < (12 : Int32).toInt) by decide), if_neg (show ¬ ((12 : Int32) = 2) by decide), if_neg (show ¬ ((12 : Int32) = 3) by decide), if_neg (show ¬ ((12 : Int32) = 4) by decide), if_neg (show ¬ ((12 : Int32) = 5) by decide), if_neg (show ¬ ((12 : Int32) = 6) by decide), if_neg (show ¬ ((12 : Int32) = 7) by decide), if_neg (show ¬ ((12 : Int32) = 8) by decide), if_neg (show ¬ ((12 : Int32) = 9) by decide), if_neg (show ¬ ((12 : Int32) = 10) by decide), if_neg (show ¬ ((12 : Int32) = 11) by decide), if_pos rfl]; done) | (rw [if_neg (show ¬ ((12 : Int32).toInt < 2 ∨ 15 < (12 : Int32).toInt) by decide), if_neg (show ¬ ((12 : Int32) = 2) by decide), if_neg (show ¬ ((12 : Int32) = 3) by decide), if_neg (show ¬ ((12 : Int32) = 4) by decide), if_neg (show ¬ ((12 : Int32) = 5) by decide), if_neg (show ¬ ((12 : Int32) = 6) by decide), if_neg (show ¬ ((12 : Int32) = 7) by decide), if_neg (show ¬ ((12 : Int32) = 8) by decide), if_neg (show ¬ ((12 : Int32) = 9) by decide), if_neg (show ¬ ((12 : Int32) = 10) by decide), if_neg (show ¬ ((12 : Int32) = 11) by decide), if_pos rfl]; rfl)))
    refine And.intro (fun (hsw : a = (13 : Int32)) => ?_) ?_
    · subst hsw
      exact And.intro trivial (leafL hk (by unfold fX0_made; first | (rw [if_neg (show ¬ ((13 : Int32).toInt < 2 ∨ 15 < (13 : Int32).toInt) by decide), if_neg (show ¬ ((13 : Int32) = 2) by decide), if_neg (show ¬ ((13 : Int32) = 3) by decide), if_neg (show ¬ ((13 : Int32) = 4) by decide), if_neg (show ¬ ((13 : Int32) = 5) by decide), if_neg (show ¬ ((13 : Int32) = 6) by decide), if_neg (show ¬ ((13 : Int32) = 7) by decide), if_neg (show ¬ ((13 : Int32) = 8) by decide), if_neg (show ¬ ((13 : Int32) = 9) by decide), if_neg (show ¬ ((13 : Int32) = 10) by decide), if_neg (show ¬ ((13 : Int32) = 11) by decide), if_neg (show ¬ ((13 : Int32) = 12) by decide), if_pos rfl]; done) | (rw [if_neg (show ¬ ((13 : Int32).toInt < 2 ∨ 15 < (13 : Int32).toInt) by decide), if_neg (show ¬ ((13 : Int32) = 2) by decide), if_neg (show ¬ ((13 : Int32) = 3) by decide), if_neg (show ¬ ((13 : Int32) = 4) by decide), if_neg (show ¬ ((13 : Int32) = 5) by decide), if_neg (show ¬ ((13 : Int32) = 6) by decide), if_neg (show ¬ ((13 : Int32) = 7) by decide), if_neg (show ¬ ((13 : Int32) = 8) by decide), if_neg (show ¬ ((13 : Int32) = 9) by decide), if_neg (show ¬ ((13 : Int32) = 10) by decide), if_neg (show ¬ ((13 : Int32) = 11) by decide), if_neg (show ¬ ((13 : Int32) = 12) by decide), if_pos rfl]; rfl)))
    refine And.intro (fun (hsw : a = (14 : Int32)) => ?_) ?_
    · subst hsw
      exact And.intro trivial (leafL hk (by unfold fX0_made; first | (rw [if_neg (show ¬ ((14 : Int32).toInt < 2 ∨ 15 < (14 : Int32).toInt) by decide), if_neg (show ¬ ((14 : Int32) = 2) by decide), if_neg (show ¬ ((14 : Int32) = 3) by decide), if_neg (show ¬ ((14 : Int32) = 4) by decide), if_neg (show ¬ ((14 : Int32) = 5) by decide), if_neg (show ¬ ((14 : Int32) = 6) by decide), if_neg (show ¬ ((14 : Int32) = 7) by decide), if_neg (show ¬ ((14 : Int32) = 8) by decide), if_neg (show ¬ ((14 : Int32) = 9) by decide), if_neg (show ¬ ((14 : Int32) = 10) by decide), if_neg (show ¬ ((14 : Int32) = 11) by decide), if_neg (show ¬ ((14 : Int32) = 12) by decide), if_neg (show ¬ ((14 : Int32) = 13) by decide), if_pos rfl]; done) | (rw [if_neg (show ¬ ((14 : Int32).toInt < 2 ∨ 15 < (14 : Int32).toInt) by decide), if_neg (show ¬ ((14 : Int32) = 2) by decide), if_neg (show ¬ ((14 : Int32) = 3) by decide), if_neg (show ¬ ((14 : Int32) = 4) by decide), if_neg (show ¬ ((14 : Int32) = 5) by decide), if_neg (show ¬ ((14 : Int32) = 6) by decide), if_neg (show ¬ ((14 : Int32) = 7) by decide), if_neg (show ¬ ((14 : Int32) = 8) by decide), if_neg (show ¬ ((14 : Int32) = 9) by decide), if_neg (show ¬ ((14 : Int32) = 10) by decide), if_neg (show ¬ ((14 : Int32) = 11) by decide), if_neg (show ¬ ((14 : Int32) = 12) by decide), if_neg (show ¬ ((14 : Int32) = 13) by decide), if_pos rfl]; rfl)))
    refine And.intro (fun (hsw : a = (15 : Int32)) => ?_) ?_
    · subst hsw
      exact And.intro trivial (leafL hk (by unfold fX0_made; first | (rw [if_neg (show ¬ ((15 : Int32).toInt < 2 ∨ 15 < (15 : Int32).toInt) by decide), if_neg (show ¬ ((15 : Int32) = 2) by decide), if_neg (show ¬ ((15 : Int32) = 3) by decide), if_neg (show ¬ ((15 : Int32) = 4) by decide), if_neg (show ¬ ((15 : Int32) = 5) by decide), if_neg (show ¬ ((15 : Int32) = 6) by decide), if_neg (show ¬ ((15 : Int32) = 7) by decide), if_neg (show ¬ ((15 : Int32) = 8) by decide), if_neg (show ¬ ((15 : Int32) = 9) by decide), if_neg (show ¬ ((15 : Int32) = 10) by decide), if_neg (show ¬ ((15 : Int32) = 11) by decide), if_neg (show ¬ ((15 : Int32) = 12) by decide), if_neg (show ¬ ((15 : Int32) = 13) by decide), if_neg (show ¬ ((15 : Int32) = 14) by decide)]; done) | (rw [if_neg (show ¬ ((15 : Int32).toInt < 2 ∨ 15 < (15 : Int32).toInt) by decide), if_neg (show ¬ ((15 : Int32) = 2) by decide), if_neg (show ¬ ((15 : Int32) = 3) by decide), if_neg (show ¬ ((15 : Int32) = 4) by decide), if_neg (show ¬ ((15 : Int32) = 5) by decide), if_neg (show ¬ ((15 : Int32) = 6) by decide), if_neg (show ¬ ((15 : Int32) = 7) by decide), if_neg (show ¬ ((15 : Int32) = 8) by decide), if_neg (show ¬ ((15 : Int32) = 9) by decide), if_neg (show ¬ ((15 : Int32) = 10) by decide), if_neg (show ¬ ((15 : Int32) = 11) by decide), if_neg (show ¬ ((15 : Int32) = 12) by decide), if_neg (show ¬ ((15 : Int32) = 13) by decide), if_neg (show ¬ ((15 : Int32) = 14) by decide)]; rfl)))
    exact trivial
  · exact h.elim
