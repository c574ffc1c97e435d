def fX1_over (a : Int64) (b : Int64) : Int64 :=
  if (fX1_isNone a) = 0 then
    if (fX1_isNone b) = 0 then
      if (fX1_isInfinite a) = 0 then
        if (fX1_isZero b) = 0 then
          if (fX1_isZero a) = 0 then
            if (fX1_isInfinite b) = 0 then
              (fX1_packed ((a ^^^ b) &&& (-9223372036854775808 : Int64)) (((((fX1_scale a) - (fX1_lack (fX1_fraction a))) - ((fX1_scale b) - (fX1_lack (fX1_fraction b)))) + (1023 : Int32)) - (1 : Int32)) (fX1_quotient ((fX1_fraction a) <<< ((fX1_lack (fX1_fraction a)).toInt64 &&& 63)) ((fX1_fraction b) <<< ((fX1_lack (fX1_fraction b)).toInt64 &&& 63))))
            else
              ((a ^^^ b) &&& (-9223372036854775808 : Int64))
          else
            ((a ^^^ b) &&& (-9223372036854775808 : Int64))
        else
          if (fX1_isZero a) = 0 then
            (((a ^^^ b) &&& (-9223372036854775808 : Int64)) ||| (9218868437227405312 : Int64))
          else
            (9221120237041090560 : Int64)
      else
        if (fX1_isInfinite b) = 0 then
          (((a ^^^ b) &&& (-9223372036854775808 : Int64)) ||| (9218868437227405312 : Int64))
        else
          (9221120237041090560 : Int64)
    else
      (9221120237041090560 : Int64)
  else
    (9221120237041090560 : Int64)
def tX1_over : Tr := fun as σ k => match as with
  | [.long a, .long b] => k (some (.long (fX1_over a b))) σ
  | _ => False
def ceX1_over : List (Nat × Nat × Tr) := (2 * 7, 1, tX1_isNone) :: (2 * 69, 1, tX1_isInfinite) :: (2 * 36, 1, tX1_isZero) :: (2 * 75, 1, tX1_fraction) :: (2 * 82, 1, tX1_lack) :: (2 * 89, 2, tX1_quotient) :: (2 * 72, 1, tX1_scale) :: (2 * 78, 3, tX1_packed) :: []
theorem coX1_over (l : Launch) : CEok l yX1_over.cls 3 ceX1_over := ce_S (okX1_isNone l) (mw 136 (by decide +kernel) rfl) (mw 137 (by decide +kernel) rfl) (mw 5 (by decide +kernel) rfl) (mw 138 (by decide +kernel) rfl) (by decide) ⟨by decide, by decide⟩ (ce_S (okX1_isInfinite l) (mw 226 (by decide +kernel) rfl) (mw 227 (by decide +kernel) rfl) (mw 5 (by decide +kernel) rfl) (mw 228 (by decide +kernel) rfl) (by decide) ⟨by decide, by decide⟩ (ce_S (okX1_isZero l) (mw 264 (by decide +kernel) rfl) (mw 265 (by decide +kernel) rfl) (mw 5 (by decide +kernel) rfl) (mw 266 (by decide +kernel) rfl) (by decide) ⟨by decide, by decide⟩ (ce_S (okX1_fraction l) (mw 232 (by decide +kernel) rfl) (mw 233 (by decide +kernel) rfl) (mw 5 (by decide +kernel) rfl) (mw 234 (by decide +kernel) rfl) (by decide) ⟨by decide, by decide⟩ (ce_S (okX1_lack l) (mw 272 (by decide +kernel) rfl) (mw 273 (by decide +kernel) rfl) (mw 5 (by decide +kernel) rfl) (mw 274 (by decide +kernel) rfl) (by decide) ⟨by decide, by decide⟩ (ce_S (okX1_quotient l) (mw 296 (by decide +kernel) rfl) (mw 297 (by decide +kernel) rfl) (mw 5 (by decide +kernel) rfl) (mw 298 (by decide +kernel) rfl) (by decide) ⟨by decide, by decide⟩ (ce_S (okX1_scale l) (mw 229 (by decide +kernel) rfl) (mw 230 (by decide +kernel) rfl) (mw 5 (by decide +kernel) rfl) (mw 231 (by decide +kernel) rfl) (by decide) ⟨by decide, by decide⟩ (ce_S (okX1_packed l) (mw 240 (by decide +kernel) rfl) (mw 241 (by decide +kernel) rfl) (mw 5 (by decide +kernel) rfl) (mw 242 (by decide +kernel) rfl) (by decide) ⟨by decide, by decide⟩ (ce_0))))))))
set_option maxRecDepth 20000 in
theorem okX1_over (l : Launch) : OK l yX1_over cX1_over 10 (some .long) 3 tX1_over := by
  intro D τ ρ A as σ post h
  unfold tX1_over at h; split at h
  · rename_i a b; have hk := h
    refine met_of (P := pgX1_over) (CE := ceX1_over) (cut := []) (by decide) kkX1_over (coX1_over l) (Nat.le_of_ble_eq_true rfl) ?_
    intro G hG; refine hG 120 false 0 _ _ _ ?_
    refine And.intro (fun (h0 : ¬ (fX1_isNone a) = 0) => ?_) (fun h0q => have h0 : (fX1_isNone a) = 0 := Classical.not_not.mp h0q; ?_)
    · exact And.intro trivial (leafL hk (by unfold fX1_over; first | (rw [if_neg h0]; done) | (rw [if_neg h0]; rfl)))
    · refine And.intro (fun (h1 : (fX1_isNone b) = 0) => ?_) (fun (h1 : ¬ (fX1_isNone b) = 0) => ?_)
      · refine And.intro (fun (h2 : (fX1_isInfinite a) = 0) => ?_) (fun (h2 : ¬ (fX1_isInfinite a) = 0) => ?_)
        · refine And.intro (fun (h3 : (fX1_isZero b) = 0) => ?_) (fun (h3 : ¬ (fX1_isZero b) = 0) => ?_)
          · refine And.intro (fun (h4 : ¬ (fX1_isZero a) = 0) => ?_) (fun h4q => have h4 : (fX1_isZero a) = 0 := Classical.not_not.mp h4q; ?_)
            · exact And.intro trivial (leafL hk (by unfold fX1_over; first | (rw [if_pos h0, if_pos h1, if_pos h2, if_pos h3, if_neg h4]; done) | (rw [if_pos h0, if_pos h1, if_pos h2, if_pos h3, if_neg h4]; rfl)))
            · refine And.intro (fun (h5 : (fX1_isInfinite b) = 0) => ?_) (fun (h5 : ¬ (fX1_isInfinite b) = 0) => ?_)
              · exact And.intro trivial (leafL hk (by unfold fX1_over; first | (rw [if_pos h0, if_pos h1, if_pos h2, if_pos h3, if_pos h4, if_pos h5]; done) | (rw [if_pos h0, if_pos h1, if_pos h2, if_pos h3, if_pos h4, if_pos h5]; rfl)))
              · exact And.intro trivial (leafL hk (by unfold fX1_over; first | (rw [if_pos h0, if_pos h1, if_pos h2, if_pos h3, if_pos h4, if_neg h5]; done) | (rw [if_pos h0, if_pos h1, if_pos h2, if_pos h3, if_pos h4, if_neg h5]; rfl)))
          · refine And.intro (fun (h4 : (fX1_isZero a) = 0) => ?_) (fun (h4 : ¬ (fX1_isZero a) = 0) => ?_)
            · exact And.intro trivial (leafL hk (by unfold fX1_over; first | (rw [if_pos h0, if_pos h1, if_pos h2, if_neg h3, if_pos h4]; done) | (rw [if_pos h0, if_pos h1, if_pos h2, if_neg h3, if_pos h4]; rfl)))
            · exact And.intro trivial (leafL hk (by unfold fX1_over; first | (rw [if_pos h0, if_pos h1, if_pos h2, if_neg h3, if_neg h4]; done) | (rw [if_pos h0, if_pos h1, if_pos h2, if_neg h3, if_neg h4]; rfl)))
        · refine And.intro (fun (h3 : (fX1_isInfinite b) = 0) => ?_) (fun (h3 : ¬ (fX1_isInfinite b) = 0) => ?_)
          · exact And.intro trivial (leafL hk (by unfold fX1_over; first | (rw [if_pos h0, if_pos h1, if_neg h2, if_pos h3]; done) | (rw [if_pos h0, if_pos h1, if_neg h2, if_pos h3]; rfl)))
          · exact And.intro trivial (leafL hk (by unfold fX1_over; first | (rw [if_pos h0, if_pos h1, if_neg h2, if_neg h3]; done) | (rw [if_pos h0, if_pos h1, if_neg h2, if_neg h3]; rfl)))
      · exact And.intro trivial (leafL hk (by unfold fX1_over; first | (rw [if_pos h0, if_neg h1]; done) | (rw [if_pos h0, if_neg h1]; rfl)))
  · exact h.elim
def fX1_root (a : Int64) : Int64 :=
  if (fX1_isNone a) = 0 then
    if (fX1_isZero a) = 0 then
      if (lg_cmp a (9218868437227405312 : Int64)) = 0 then
        a
      else
        if 0 ≤ (lg_cmp a (0 : Int64)) then
          if ((((fX1_scale a) - (fX1_lack (fX1_fraction a))) - (1075 : Int32)) &&& (1 : Int32)) = 0 then
            (fX1_packed (0 : Int64) (((((fX1_scale a) - (fX1_lack (fX1_fraction a))) - (1075 : Int32)) >>> ((1 : Int32) &&& 31)) + (1049 : Int32)) (fX1_wholeRoot ((fX1_fraction a) <<< ((fX1_lack (fX1_fraction a)).toInt64 &&& 63))))
          else
            (fX1_packed (0 : Int64) ((((((fX1_scale a) - (fX1_lack (fX1_fraction a))) - (1075 : Int32)) + (-1 : Int32)) >>> ((1 : Int32) &&& 31)) + (1049 : Int32)) (fX1_wholeRoot (((fX1_fraction a) <<< ((fX1_lack (fX1_fraction a)).toInt64 &&& 63)) <<< ((1 : Int32).toInt64 &&& 63))))
        else
          (9221120237041090560 : Int64)
    else
      a
  else
    a
def tX1_root : Tr := fun as σ k => match as with
  | [.long a] => k (some (.long (fX1_root a))) σ
  | _ => False
def ceX1_root : List (Nat × Nat × Tr) := (2 * 7, 1, tX1_isNone) :: (2 * 36, 1, tX1_isZero) :: (2 * 75, 1, tX1_fraction) :: (2 * 82, 1, tX1_lack) :: (2 * 72, 1, tX1_scale) :: (2 * 92, 1, tX1_wholeRoot) :: (2 * 78, 3, tX1_packed) :: []
theorem coX1_root (l : Launch) : CEok l yX1_root.cls 3 ceX1_root := ce_S (okX1_isNone l) (mw 136 (by decide +kernel) rfl) (mw 137 (by decide +kernel) rfl) (mw 5 (by decide +kernel) rfl) (mw 138 (by decide +kernel) rfl) (by decide) ⟨by decide, by decide⟩ (ce_S (okX1_isZero l) (mw 264 (by decide +kernel) rfl) (mw 265 (by decide +kernel) rfl) (mw 5 (by decide +kernel) rfl) (mw 266 (by decide +kernel) rfl) (by decide) ⟨by decide, by decide⟩ (ce_S (okX1_fraction l) (mw 232 (by decide +kernel) rfl) (mw 233 (by decide +kernel) rfl) (mw 5 (by decide +kernel) rfl) (mw 234 (by decide +kernel) rfl) (by decide) ⟨by decide, by decide⟩ (ce_S (okX1_lack l) (mw 272 (by decide +kernel) rfl) (mw 273 (by decide +kernel) rfl) (mw 5 (by decide +kernel) rfl) (mw 274 (by decide +kernel) rfl) (by decide) ⟨by decide, by decide⟩ (ce_S (okX1_scale l) (mw 229 (by decide +kernel) rfl) (mw 230 (by decide +kernel) rfl) (mw 5 (by decide +kernel) rfl) (mw 231 (by decide +kernel) rfl) (by decide) ⟨by decide, by decide⟩ (ce_S (okX1_wholeRoot l) (mw 310 (by decide +kernel) rfl) (mw 311 (by decide +kernel) rfl) (mw 5 (by decide +kernel) rfl) (mw 312 (by decide +kernel) rfl) (by decide) ⟨by decide, by decide⟩ (ce_S (okX1_packed l) (mw 240 (by decide +kernel) rfl) (mw 241 (by decide +kernel) rfl) (mw 5 (by decide +kernel) rfl) (mw 242 (by decide +kernel) rfl) (by decide) ⟨by decide, by decide⟩ (ce_0)))))))
set_option maxRecDepth 20000 in
theorem okX1_root (l : Launch) : OK l yX1_root cX1_root 6 (some .long) 3 tX1_root := by
  intro D τ ρ A as σ post h
  unfold tX1_root at h; split at h
  · rename_i a; have hk := h
    refine met_of (P := pgX1_root) (CE := ceX1_root) (cut := []) (by decide) kkX1_root (coX1_root l) (Nat.le_of_ble_eq_true rfl) ?_
    intro G hG; refine hG 120 false 0 _ _ _ ?_
    refine And.intro (fun (h0 : ¬ (fX1_isNone a) = 0) => ?_) (fun h0q => have h0 : (fX1_isNone a) = 0 := Classical.not_not.mp h0q; ?_)
    · exact And.intro trivial (leafL hk (by unfold fX1_root; first | (rw [if_neg h0]; done) | (rw [if_neg h0]; rfl)))
    · refine And.intro (fun (h1 : ¬ (fX1_isZero a) = 0) => ?_) (fun h1q => have h1 : (fX1_isZero a) = 0 := Classical.not_not.mp h1q; ?_)
      · exact And.intro trivial (leafL hk (by unfold fX1_root; first | (rw [if_pos h0, if_neg h1]; done) | (rw [if_pos h0, if_neg h1]; rfl)))
      · refine And.intro (fun (h2 : ¬ (lg_cmp a (9218868437227405312 : Int64)) = 0) => ?_) (fun h2q => have h2 : (lg_cmp a (9218868437227405312 : Int64)) = 0 := Classical.not_not.mp h2q; ?_)
        · refine And.intro (fun (h3 : 0 ≤ (lg_cmp a (0 : Int64))) => ?_) (fun (h3 : ¬ 0 ≤ (lg_cmp a (0 : Int64))) => ?_)
          · refine And.intro (fun (h4 : ((((fX1_scale a) - (fX1_lack (fX1_fraction a))) - (1075 : Int32)) &&& (1 : Int32)) = 0) => ?_) (fun (h4 : ¬ ((((fX1_scale a) - (fX1_lack (fX1_fraction a))) - (1075 : Int32)) &&& (1 : Int32)) = 0) => ?_)
            · exact And.intro trivial (leafL hk (by unfold fX1_root; first | (rw [if_pos h0, if_pos h1, if_neg h2, if_pos h3, if_pos h4]; done) | (rw [if_pos h0, if_pos h1, if_neg h2, if_pos h3, if_pos h4]; rfl)))
            · exact And.intro trivial (leafL hk (by unfold fX1_root; first | (rw [if_pos h0, if_pos h1, if_neg h2, if_pos h3, if_neg h4]; done) | (rw [if_pos h0, if_pos h1, if_neg h2, if_pos h3, if_neg h4]; rfl)))
          · exact And.intro trivial (leafL hk (by unfold fX1_root; first | (rw [if_pos h0, if_pos h1, if_neg h2, if_neg h3]; done) | (rw [if_pos h0, if_pos h1, if_neg h2, if_neg h3]; rfl)))
        · exact And.intro trivial (leafL hk (by unfold fX1_root; first | (rw [if_pos h0, if_pos h1, if_pos h2]; done) | (rw [if_pos h0, if_pos h1, if_pos h2]; rfl)))
  · exact h.elim
