theorem leafL {post : Option Value → aS → Prop} {σ : aS} {x y : Int64} (h : post (some (.long x)) σ) (e : x = y) : post (some (.long y)) σ := e ▸ h
theorem leafI {post : Option Value → aS → Prop} {σ : aS} {x y : Int32} (h : post (some (.int x)) σ) (e : x = y) : post (some (.int y)) σ := e ▸ h
theorem leafD {post : Option Value → aS → Prop} {σ : aS} {x y : UInt64} (h : post (some (.double x)) σ) (e : x = y) : post (some (.double y)) σ := e ▸ h
def fJ6_numberOfLeadingZeros_0f7a4 (a : Int32) : Int32 :=
  if 0 < a then
    if a < (65536 : Int32) then
      if a < (256 : Int32) then
        if a < (16 : Int32) then
          if a < (4 : Int32) then
            ((31 : Int32) - (a.toUInt32 >>> ((1 : Int32).toUInt32 &&& Int32.toUInt32 31)).toInt32)
          else
            (((31 : Int32) + (-2 : Int32)) - ((a.toUInt32 >>> ((2 : Int32).toUInt32 &&& Int32.toUInt32 31)).toInt32.toUInt32 >>> ((1 : Int32).toUInt32 &&& Int32.toUInt32 31)).toInt32)
        else
          if (a.toUInt32 >>> ((4 : Int32).toUInt32 &&& Int32.toUInt32 31)).toInt32 < (4 : Int32) then
            (((31 : Int32) + (-4 : Int32)) - ((a.toUInt32 >>> ((4 : Int32).toUInt32 &&& Int32.toUInt32 31)).toInt32.toUInt32 >>> ((1 : Int32).toUInt32 &&& Int32.toUInt32 31)).toInt32)
          else
            ((((31 : Int32) + (-4 : Int32)) + (-2 : Int32)) - (((a.toUInt32 >>> ((4 : Int32).toUInt32 &&& Int32.toUInt32 31)).toInt32.toUInt32 >>> ((2 : Int32).toUInt32 &&& Int32.toUInt32 31)).toInt32.toUInt32 >>> ((1 : Int32).toUInt32 &&& Int32.toUInt32 31)).toInt32)
      else
        if (a.toUInt32 >>> ((8 : Int32).toUInt32 &&& Int32.toUInt32 31)).toInt32 < (16 : Int32) then
          if (a.toUInt32 >>> ((8 : Int32).toUInt32 &&& Int32.toUInt32 31)).toInt32 < (4 : Int32) then
            (((31 : Int32) + (-8 : Int32)) - ((a.toUInt32 >>> ((8 : Int32).toUInt32 &&& Int32.toUInt32 31)).toInt32.toUInt32 >>> ((1 : Int32).toUInt32 &&& Int32.toUInt32 31)).toInt32)
          else
            ((((31 : Int32) + (-8 : Int32)) + (-2 : Int32)) - (((a.toUInt32 >>> ((8 : Int32).toUInt32 &&& Int32.toUInt32 31)).toInt32.toUInt32 >>> ((2 : Int32).toUInt32 &&& Int32.toUInt32 31)).toInt32.toUInt32 >>> ((1 : Int32).toUInt32 &&& Int32.toUInt32 31)).toInt32)
        else
          if ((a.toUInt32 >>> ((8 : Int32).toUInt32 &&& Int32.toUInt32 31)).toInt32.toUInt32 >>> ((4 : Int32).toUInt32 &&& Int32.toUInt32 31)).toInt32 < (4 : Int32) then
            ((((31 : Int32) + (-8 : Int32)) + (-4 : Int32)) - (((a.toUInt32 >>> ((8 : Int32).toUInt32 &&& Int32.toUInt32 31)).toInt32.toUInt32 >>> ((4 : Int32).toUInt32 &&& Int32.toUInt32 31)).toInt32.toUInt32 >>> ((1 : Int32).toUInt32 &&& Int32.toUInt32 31)).toInt32)
          else
            (((((31 : Int32) + (-8 : Int32)) + (-4 : Int32)) + (-2 : Int32)) - ((((a.toUInt32 >>> ((8 : Int32).toUInt32 &&& Int32.toUInt32 31)).toInt32.toUInt32 >>> ((4 : Int32).toUInt32 &&& Int32.toUInt32 31)).toInt32.toUInt32 >>> ((2 : Int32).toUInt32 &&& Int32.toUInt32 31)).toInt32.toUInt32 >>> ((1 : Int32).toUInt32 &&& Int32.toUInt32 31)).toInt32)
    else
      if (a.toUInt32 >>> ((16 : Int32).toUInt32 &&& Int32.toUInt32 31)).toInt32 < (256 : Int32) then
        if (a.toUInt32 >>> ((16 : Int32).toUInt32 &&& Int32.toUInt32 31)).toInt32 < (16 : Int32) then
          if (a.toUInt32 >>> ((16 : Int32).toUInt32 &&& Int32.toUInt32 31)).toInt32 < (4 : Int32) then
            (((31 : Int32) + (-16 : Int32)) - ((a.toUInt32 >>> ((16 : Int32).toUInt32 &&& Int32.toUInt32 31)).toInt32.toUInt32 >>> ((1 : Int32).toUInt32 &&& Int32.toUInt32 31)).toInt32)
          else
            ((((31 : Int32) + (-16 : Int32)) + (-2 : Int32)) - (((a.toUInt32 >>> ((16 : Int32).toUInt32 &&& Int32.toUInt32 31)).toInt32.toUInt32 >>> ((2 : Int32).toUInt32 &&& Int32.toUInt32 31)).toInt32.toUInt32 >>> ((1 : Int32).toUInt32 &&& Int32.toUInt32 31)).toInt32)
        else
          if ((a.toUInt32 >>> ((16 : Int32).toUInt32 &&& Int32.toUInt32 31)).toInt32.toUInt32 >>> ((4 : Int32).toUInt32 &&& Int32.toUInt32 31)).toInt32 < (4 : Int32) then
            ((((31 : Int32) + (-16 : Int32)) + (-4 : Int32)) - (((a.toUInt32 >>> ((16 : Int32).toUInt32 &&& Int32.toUInt32 31)).toInt32.toUInt32 >>> ((4 : Int32).toUInt32 &&& Int32.toUInt32 31)).toInt32.toUInt32 >>> ((1 : Int32).toUInt32 &&& Int32.toUInt32 31)).toInt32)
          else
            (((((31 : Int32) + (-16 : Int32)) + (-4 : Int32)) + (-2 : Int32)) - ((((a.toUInt32 >>> ((16 : Int32).toUInt32 &&& Int32.toUInt32 31)).toInt32.toUInt32 >>> ((4 : Int32).toUInt32 &&& Int32.toUInt32 31)).toInt32.toUInt32 >>> ((2 : Int32).toUInt32 &&& Int32.toUInt32 31)).toInt32.toUInt32 >>> ((1 : Int32).toUInt32 &&& Int32.toUInt32 31)).toInt32)
      else
        if ((a.toUInt32 >>> ((16 : Int32).toUInt32 &&& Int32.toUInt32 31)).toInt32.toUInt32 >>> ((8 : Int32).toUInt32 &&& Int32.toUInt32 31)).toInt32 < (16 : Int32) then
          if ((a.toUInt32 >>> ((16 : Int32).toUInt32 &&& Int32.toUInt32 31)).toInt32.toUInt32 >>> ((8 : Int32).toUInt32 &&& Int32.toUInt32 31)).toInt32 < (4 : Int32) then
            ((((31 : Int32) + (-16 : Int32)) + (-8 : Int32)) - (((a.toUInt32 >>> ((16 : Int32).toUInt32 &&& Int32.toUInt32 31)).toInt32.toUInt32 >>> ((8 : Int32).toUInt32 &&& Int32.toUInt32 31)).toInt32.toUInt32 >>> ((1 : Int32).toUInt32 &&& Int32.toUInt32 31)).toInt32)
          else
            (((((31 : Int32) + (-16 : Int32)) + (-8 : Int32)) + (-2 : Int32)) - ((((a.toUInt32 >>> ((16 : Int32).toUInt32 &&& Int32.toUInt32 31)).toInt32.toUInt32 >>> ((8 : Int32).toUInt32 &&& Int32.toUInt32 31)).toInt32.toUInt32 >>> ((2 : Int32).toUInt32 &&& Int32.toUInt32 31)).toInt32.toUInt32 >>> ((1 : Int32).toUInt32 &&& Int32.toUInt32 31)).toInt32)
        else
          if (((a.toUInt32 >>> ((16 : Int32).toUInt32 &&& Int32.toUInt32 31)).toInt32.toUInt32 >>> ((8 : Int32).toUInt32 &&& Int32.toUInt32 31)).toInt32.toUInt32 >>> ((4 : Int32).toUInt32 &&& Int32.toUInt32 31)).toInt32 < (4 : Int32) then
            (((((31 : Int32) + (-16 : Int32)) + (-8 : Int32)) + (-4 : Int32)) - ((((a.toUInt32 >>> ((16 : Int32).toUInt32 &&& Int32.toUInt32 31)).toInt32.toUInt32 >>> ((8 : Int32).toUInt32 &&& Int32.toUInt32 31)).toInt32.toUInt32 >>> ((4 : Int32).toUInt32 &&& Int32.toUInt32 31)).toInt32.toUInt32 >>> ((1 : Int32).toUInt32 &&& Int32.toUInt32 31)).toInt32)
          else
            ((((((31 : Int32) + (-16 : Int32)) + (-8 : Int32)) + (-4 : Int32)) + (-2 : Int32)) - (((((a.toUInt32 >>> ((16 : Int32).toUInt32 &&& Int32.toUInt32 31)).toInt32.toUInt32 >>> ((8 : Int32).toUInt32 &&& Int32.toUInt32 31)).toInt32.toUInt32 >>> ((4 : Int32).toUInt32 &&& Int32.toUInt32 31)).toInt32.toUInt32 >>> ((2 : Int32).toUInt32 &&& Int32.toUInt32 31)).toInt32.toUInt32 >>> ((1 : Int32).toUInt32 &&& Int32.toUInt32 31)).toInt32)
  else
    if a = 0 then
      (32 : Int32)
    else
      (0 : Int32)
def tJ6_numberOfLeadingZeros_0f7a4 : Tr := fun as σ k => match as with
  | [.int a] => k (some (.int (fJ6_numberOfLeadingZeros_0f7a4 a))) σ
  | _ => False
def ceJ6_numberOfLeadingZeros_0f7a4 : List (Nat × Nat × Tr) := []
theorem coJ6_numberOfLeadingZeros_0f7a4 (l : Launch) : CEok l yJ6_numberOfLeadingZeros_0f7a4.cls 0 ceJ6_numberOfLeadingZeros_0f7a4 := ce_0
set_option maxRecDepth 20000 in
theorem okJ6_numberOfLeadingZeros_0f7a4 (l : Launch) : OK l yJ6_numberOfLeadingZeros_0f7a4 cJ6_numberOfLeadingZeros_0f7a4 2 (some .int) 0 tJ6_numberOfLeadingZeros_0f7a4 := by
  intro D τ ρ A as σ post h
  unfold tJ6_numberOfLeadingZeros_0f7a4 at h; split at h
  · rename_i a; have hk := h
    refine met_of (P := pgJ6_numberOfLeadingZeros_0f7a4) (CE := ceJ6_numberOfLeadingZeros_0f7a4) (cut := []) (by decide) kkJ6_numberOfLeadingZeros_0f7a4 (coJ6_numberOfLeadingZeros_0f7a4 l) (Nat.le_of_ble_eq_true rfl) ?_
    intro G hG; refine hG 120 false 0 _ _ _ ?_
    refine And.intro (fun (h0 : 0 < a) => ?_) (fun (h0 : ¬ 0 < a) => ?_)
    · refine And.intro (fun (h1 : a < (65536 : Int32)) => ?_) (fun (h1 : ¬ a < (65536 : Int32)) => ?_)
      · refine And.intro (fun (h2 : a < (256 : Int32)) => ?_) (fun (h2 : ¬ a < (256 : Int32)) => ?_)
        · refine And.intro (fun (h3 : a < (16 : Int32)) => ?_) (fun (h3 : ¬ a < (16 : Int32)) => ?_)
          · refine And.intro (fun (h4 : a < (4 : Int32)) => ?_) (fun (h4 : ¬ a < (4 : Int32)) => ?_)
            · exact And.intro trivial (leafI hk (by unfold fJ6_numberOfLeadingZeros_0f7a4; first | (rw [if_pos h0, if_pos h1, if_pos h2, if_pos h3, if_pos h4]; done) | (rw [if_pos h0, if_pos h1, if_pos h2, if_pos h3, if_pos h4]; rfl)))
            · exact And.intro trivial (leafI hk (by unfold fJ6_numberOfLeadingZeros_0f7a4; first | (rw [if_pos h0, if_pos h1, if_pos h2, if_pos h3, if_neg h4]; done) | (rw [if_pos h0, if_pos h1, if_pos h2, if_pos h3, if_neg h4]; rfl)))
          · refine And.intro (fun (h4 : (a.toUInt32 >>> ((4 : Int32).toUInt32 &&& Int32.toUInt32 31)).toInt32 < (4 : Int32)) => ?_) (fun (h4 : ¬ (a.toUInt32 >>> ((4 : Int32).toUInt32 &&& Int32.toUInt32 31)).toInt32 < (4 : Int32)) => ?_)
            · exact And.intro trivial (leafI hk (by unfold fJ6_numberOfLeadingZeros_0f7a4; first | (rw [if_pos h0, if_pos h1, if_pos h2, if_neg h3, if_pos h4]; done) | (rw [if_pos h0, if_pos h1, if_pos h2, if_neg h3, if_pos h4]; rfl)))
            · exact And.intro trivial (leafI hk (by unfold fJ6_numberOfLeadingZeros_0f7a4; first | (rw [if_pos h0, if_pos h1, if_pos h2, if_neg h3, if_neg h4]; done) | (rw [if_pos h0, if_pos h1, if_pos h2, if_neg h3, if_neg h4]; rfl)))
        · refine And.intro (fun (h3 : (a.toUInt32 >>> ((8 : Int32).toUInt32 &&& Int32.toUInt32 31)).toInt32 < (16 : Int32)) => ?_) (fun (h3 : ¬ (a.toUInt32 >>> ((8 : Int32).toUInt32 &&& Int32.toUInt32 31)).toInt32 < (16 : Int32)) => ?_)
          · refine And.intro (fun (h4 : (a.toUInt32 >>> ((8 : Int32).toUInt32 &&& Int32.toUInt32 31)).toInt32 < (4 : Int32)) => ?_) (fun (h4 : ¬ (a.toUInt32 >>> ((8 : Int32).toUInt32 &&& Int32.toUInt32 31)).toInt32 < (4 : Int32)) => ?_)
            · exact And.intro trivial (leafI hk (by unfold fJ6_numberOfLeadingZeros_0f7a4; first | (rw [if_pos h0, if_pos h1, if_neg h2, if_pos h3, if_pos h4]; done) | (rw [if_pos h0, if_pos h1, if_neg h2, if_pos h3, if_pos h4]; rfl)))
            · exact And.intro trivial (leafI hk (by unfold fJ6_numberOfLeadingZeros_0f7a4; first | (rw [if_pos h0, if_pos h1, if_neg h2, if_pos h3, if_neg h4]; done) | (rw [if_pos h0, if_pos h1, if_neg h2, if_pos h3, if_neg h4]; rfl)))
          · refine And.intro (fun (h4 : ((a.toUInt32 >>> ((8 : Int32).toUInt32 &&& Int32.toUInt32 31)).toInt32.toUInt32 >>> ((4 : Int32).toUInt32 &&& Int32.toUInt32 31)).toInt32 < (4 : Int32)) => ?_) (fun (h4 : ¬ ((a.toUInt32 >>> ((8 : Int32).toUInt32 &&& Int32.toUInt32 31)).toInt32.toUInt32 >>> ((4 : Int32).toUInt32 &&& Int32.toUInt32 31)).toInt32 < (4 : Int32)) => ?_)
            · exact And.intro trivial (leafI hk (by unfold fJ6_numberOfLeadingZeros_0f7a4; first | (rw [if_pos h0, if_pos h1, if_neg h2, if_neg h3, if_pos h4]; done) | (rw [if_pos h0, if_pos h1, if_neg h2, if_neg h3, if_pos h4]; rfl)))
            · exact And.intro trivial (leafI hk (by unfold fJ6_numberOfLeadingZeros_0f7a4; first | (rw [if_pos h0, if_pos h1, if_neg h2, if_neg h3, if_neg h4]; done) | (rw [if_pos h0, if_pos h1, if_neg h2, if_neg h3, if_neg h4]; rfl)))
      · refine And.intro (fun (h2 : (a.toUInt32 >>> ((16 : Int32).toUInt32 &&& Int32.toUInt32 31)).toInt32 < (256 : Int32)) => ?_) (fun (h2 : ¬ (a.toUInt32 >>> ((16 : Int32).toUInt32 &&& Int32.toUInt32 31)).toInt32 < (256 : Int32)) => ?_)
        · refine And.intro (fun (h3 : (a.toUInt32 >>> ((16 : Int32).toUInt32 &&& Int32.toUInt32 31)).toInt32 < (16 : Int32)) => ?_) (fun (h3 : ¬ (a.toUInt32 >>> ((16 : Int32).toUInt32 &&& Int32.toUInt32 31)).toInt32 < (16 : Int32)) => ?_)
          · refine And.intro (fun (h4 : (a.toUInt32 >>> ((16 : Int32).toUInt32 &&& Int32.toUInt32 31)).toInt32 < (4 : Int32)) => ?_) (fun (h4 : ¬ (a.toUInt32 >>> ((16 : Int32).toUInt32 &&& Int32.toUInt32 31)).toInt32 < (4 : Int32)) => ?_)
            · exact And.intro trivial (leafI hk (by unfold fJ6_numberOfLeadingZeros_0f7a4; first | (rw [if_pos h0, if_neg h1, if_pos h2, if_pos h3, if_pos h4]; done) | (rw [if_pos h0, if_neg h1, if_pos h2, if_pos h3, if_pos h4]; rfl)))
            · exact And.intro trivial (leafI hk (by unfold fJ6_numberOfLeadingZeros_0f7a4; first | (rw [if_pos h0, if_neg h1, if_pos h2, if_pos h3, if_neg h4]; done) | (rw [if_pos h0, if_neg h1, if_pos h2, if_pos h3, if_neg h4]; rfl)))
          · refine And.intro (fun (h4 : ((a.toUInt32 >>> ((16 : Int32).toUInt32 &&& Int32.toUInt32 31)).toInt32.toUInt32 >>> ((4 : Int32).toUInt32 &&& Int32.toUInt32 31)).toInt32 < (4 : Int32)) => ?_) (fun (h4 : ¬ ((a.toUInt32 >>> ((16 : Int32).toUInt32 &&& Int32.toUInt32 31)).toInt32.toUInt32 >>> ((4 : Int32).toUInt32 &&& Int32.toUInt32 31)).toInt32 < (4 : Int32)) => ?_)
            · exact And.intro trivial (leafI hk (by unfold fJ6_numberOfLeadingZeros_0f7a4; first | (rw [if_pos h0, if_neg h1, if_pos h2, if_neg h3, if_pos h4]; done) | (rw [if_pos h0, if_neg h1, if_pos h2, if_neg h3, if_pos h4]; rfl)))
            · exact And.intro trivial (leafI hk (by unfold fJ6_numberOfLeadingZeros_0f7a4; first | (rw [if_pos h0, if_neg h1, if_pos h2, if_neg h3, if_neg h4]; done) | (rw [if_pos h0, if_neg h1, if_pos h2, if_neg h3, if_neg h4]; rfl)))
        · refine And.intro (fun (h3 : ((a.toUInt32 >>> ((16 : Int32).toUInt32 &&& Int32.toUInt32 31)).toInt32.toUInt32 >>> ((8 : Int32).toUInt32 &&& Int32.toUInt32 31)).toInt32 < (16 : Int32)) => ?_) (fun (h3 : ¬ ((a.toUInt32 >>> ((16 : Int32).toUInt32 &&& Int32.toUInt32 31)).toInt32.toUInt32 >>> ((8 : Int32).toUInt32 &&& Int32.toUInt32 31)).toInt32 < (16 : Int32)) => ?_)
          · refine And.intro (fun (h4 : ((a.toUInt32 >>> ((16 : Int32).toUInt32 &&& Int32.toUInt32 31)).toInt32.toUInt32 >>> ((8 : Int32).toUInt32 &&& Int32.toUInt32 31)).toInt32 < (4 : Int32)) => ?_) (fun (h4 : ¬ ((a.toUInt32 >>> ((16 : Int32).toUInt32 &&& Int32.toUInt32 31)).toInt32.toUInt32 >>> ((8 : Int32).toUInt32 &&& Int32.toUInt32 31)).toInt32 < (4 : Int32)) => ?_)
            · exact And.intro trivial (leafI hk (by unfold fJ6_numberOfLeadingZeros_0f7a4; first | (rw [if_pos h0, if_neg h1, if_neg h2, if_pos h3, if_pos h4]; done) | (rw [if_pos h0, if_neg h1, if_neg h2, if_pos h3, if_pos h4]; rfl)))
            · exact And.intro trivial (leafI hk (by unfold fJ6_numberOfLeadingZeros_0f7a4; first | (rw [if_pos h0, if_neg h1, if_neg h2, if_pos h3, if_neg h4]; done) | (rw [if_pos h0, if_neg h1, if_neg h2, if_pos h3, if_neg h4]; rfl)))
          · refine And.intro (fun (h4 : (((a.toUInt32 >>> ((16 : Int32).toUInt32 &&& Int32.toUInt32 31)).toInt32.toUInt32 >>> ((8 : Int32).toUInt32 &&& Int32.toUInt32 31)).toInt32.toUInt32 >>> ((4 : Int32).toUInt32 &&& Int32.toUInt32 31)).toInt32 < (4 : Int32)) => ?_) (fun (h4 : ¬ (((a.toUInt32 >>> ((16 : Int32).toUInt32 &&& Int32.toUInt32 31)).toInt32.toUInt32 >>> ((8 : Int32).toUInt32 &&& Int32.toUInt32 31)).toInt32.toUInt32 >>> ((4 : Int32).toUInt32 &&& Int32.toUInt32 31)).toInt32 < (4 : Int32)) => ?_)
            · exact And.intro trivial (leafI hk (by unfold fJ6_numberOfLeadingZeros_0f7a4; first | (rw [if_pos h0, if_neg h1, if_neg h2, if_neg h3, if_pos h4]; done) | (rw [if_pos h0, if_neg h1, if_neg h2, if_neg h3, if_pos h4]; rfl)))
            · exact And.intro trivial (leafI hk (by unfold fJ6_numberOfLeadingZeros_0f7a4; first | (rw [if_pos h0, if_neg h1, if_neg h2, if_neg h3, if_neg h4]; done) | (rw [if_pos h0, if_neg h1, if_neg h2, if_neg h3, if_neg h4]; rfl)))
    · refine And.intro (fun (h1 : ¬ a = 0) => ?_) (fun h1q => have h1 : a = 0 := Classical.not_not.mp h1q; ?_)
      · exact And.intro trivial (leafI hk (by unfold fJ6_numberOfLeadingZeros_0f7a4; first | (rw [if_neg h0, if_neg h1]; done) | (rw [if_neg h0, if_neg h1]; rfl)))
      · exact And.intro trivial (leafI hk (by unfold fJ6_numberOfLeadingZeros_0f7a4; first | (rw [if_neg h0, if_pos h1]; done) | (rw [if_neg h0, if_pos h1]; rfl)))
  · exact h.elim
def fJ13_numberOfLeadingZeros_95d88 (a : Int64) : Int32 :=
  if (a.toUInt64 >>> ((32 : Int32).toInt64.toUInt64 &&& Int64.toUInt64 63)).toInt64.toInt32 = 0 then
    ((32 : Int32) + (fJ6_numberOfLeadingZeros_0f7a4 a.toInt32))
  else
    (fJ6_numberOfLeadingZeros_0f7a4 (a.toUInt64 >>> ((32 : Int32).toInt64.toUInt64 &&& Int64.toUInt64 63)).toInt64.toInt32)
def tJ13_numberOfLeadingZeros_95d88 : Tr := fun as σ k => match as with
  | [.long a] => k (some (.int (fJ13_numberOfLeadingZeros_95d88 a))) σ
  | _ => False
def ceJ13_numberOfLeadingZeros_95d88 : List (Nat × Nat × Tr) := (2 * 308, 1, tJ6_numberOfLeadingZeros_0f7a4) :: []
theorem coJ13_numberOfLeadingZeros_95d88 (l : Launch) : CEok l yJ13_numberOfLeadingZeros_95d88.cls 1 ceJ13_numberOfLeadingZeros_95d88 := ce_S (okJ6_numberOfLeadingZeros_0f7a4 l) (mw 246 (by decide +kernel) rfl) (mw 247 (by decide +kernel) rfl) (mw 8 (by decide +kernel) rfl) (mw 248 (by decide +kernel) rfl) (by decide) ⟨by decide, by decide⟩ (ce_0)
set_option maxRecDepth 20000 in
theorem okJ13_numberOfLeadingZeros_95d88 (l : Launch) : OK l yJ13_numberOfLeadingZeros_95d88 cJ13_numberOfLeadingZeros_95d88 3 (some .int) 1 tJ13_numberOfLeadingZeros_95d88 := by
  intro D τ ρ A as σ post h
  unfold tJ13_numberOfLeadingZeros_95d88 at h; split at h
  · rename_i a; have hk := h
    refine met_of (P := pgJ13_numberOfLeadingZeros_95d88) (CE := ceJ13_numberOfLeadingZeros_95d88) (cut := []) (by decide) kkJ13_numberOfLeadingZeros_95d88 (coJ13_numberOfLeadingZeros_95d88 l) (Nat.le_of_ble_eq_true rfl) ?_
    intro G hG; refine hG 120 false 0 _ _ _ ?_
    refine And.intro (fun (h0 : ¬ (a.toUInt64 >>> ((32 : Int32).toInt64.toUInt64 &&& Int64.toUInt64 63)).toInt64.toInt32 = 0) => ?_) (fun h0q => have h0 : (a.toUInt64 >>> ((32 : Int32).toInt64.toUInt64 &&& Int64.toUInt64 63)).toInt64.toInt32 = 0 := Classical.not_not.mp h0q; ?_)
    · exact And.intro trivial (leafI hk (by unfold fJ13_numberOfLeadingZeros_95d88; first | (rw [if_neg h0]; done) | (rw [if_neg h0]; rfl)))
    · exact And.intro trivial (leafI hk (by unfold fJ13_numberOfLeadingZeros_95d88; first | (rw [if_pos h0]; done) | (rw [if_pos h0]; rfl)))
  · exact h.elim
def fX1_isNone (a : Int64) : Int32 :=
  if (lg_cmp (a &&& (9223372036854775807 : Int64)) (9218868437227405312 : Int64)) ≤ 0 then
    (0 : Int32)
  else
    (1 : Int32)
def tX1_isNone : Tr := fun as σ k => match as with
  | [.long a] => k (some (.int (fX1_isNone a))) σ
  | _ => False
def ceX1_isNone : List (Nat × Nat × Tr) := []
theorem coX1_isNone (l : Launch) : CEok l yX1_isNone.cls 0 ceX1_isNone := ce_0
set_option maxRecDepth 20000 in
theorem okX1_isNone (l : Launch) : OK l yX1_isNone cX1_isNone 2 (some .boolean) 0 tX1_isNone := by
  intro D τ ρ A as σ post h
  unfold tX1_isNone at h; split at h
  · rename_i a; have hk := h
    refine met_of (P := pgX1_isNone) (CE := ceX1_isNone) (cut := []) (by decide) kkX1_isNone (coX1_isNone l) (Nat.le_of_ble_eq_true rfl) ?_
    intro G hG; refine hG 120 false 0 _ _ _ ?_
    refine And.intro (fun (h0 : (lg_cmp (a &&& (9223372036854775807 : Int64)) (9218868437227405312 : Int64)) ≤ 0) => ?_) (fun (h0 : ¬ (lg_cmp (a &&& (9223372036854775807 : Int64)) (9218868437227405312 : Int64)) ≤ 0) => ?_)
    · exact And.intro (Or.inl rfl) (leafI hk (by unfold fX1_isNone; first | (rw [if_pos h0]; done) | (rw [if_pos h0]; rfl)))
    · exact And.intro (Or.inr rfl) (leafI hk (by unfold fX1_isNone; first | (rw [if_neg h0]; done) | (rw [if_neg h0]; rfl)))
  · exact h.elim
def fX1_told (a : Int64) : Int64 :=
  if (fX1_isNone a) = 0 then
    a
  else
    (9221120237041090560 : Int64)
def tX1_told : Tr := fun as σ k => match as with
  | [.long a] => k (some (.long (fX1_told a))) σ
  | _ => False
def ceX1_told : List (Nat × Nat × Tr) := (2 * 7, 1, tX1_isNone) :: []
theorem coX1_told (l : Launch) : CEok l yX1_told.cls 1 ceX1_told := ce_S (okX1_isNone l) (mw 136 (by decide +kernel) rfl) (mw 137 (by decide +kernel) rfl) (mw 5 (by decide +kernel) rfl) (mw 138 (by decide +kernel) rfl) (by decide) ⟨by decide, by decide⟩ (ce_0)
set_option maxRecDepth 20000 in
theorem okX1_told (l : Launch) : OK l yX1_told cX1_told 2 (some .long) 1 tX1_told := by
  intro D τ ρ A as σ post h
  unfold tX1_told at h; split at h
  · rename_i a; have hk := h
    refine met_of (P := pgX1_told) (CE := ceX1_told) (cut := []) (by decide) kkX1_told (coX1_told l) (Nat.le_of_ble_eq_true rfl) ?_
    intro G hG; refine hG 120 false 0 _ _ _ ?_
    refine And.intro (fun (h0 : (fX1_isNone a) = 0) => ?_) (fun (h0 : ¬ (fX1_isNone a) = 0) => ?_)
    · exact And.intro trivial (leafL hk (by unfold fX1_told; first | (rw [if_pos h0]; done) | (rw [if_pos h0]; rfl)))
    · exact And.intro trivial (leafL hk (by unfold fX1_told; first | (rw [if_neg h0]; done) | (rw [if_neg h0]; rfl)))
  · exact h.elim
def fX1_ofThree (a : Int32) (b : Int64) (c : Int64) (d : Int64) : Int64 :=
  if a = 0 then
    b
  else
    if a = (1 : Int32) then
      c
    else
      d
def tX1_ofThree : Tr := fun as σ k => match as with
  | [.int a, .long b, .long c, .long d] => k (some (.long (fX1_ofThree a b c d))) σ
  | _ => False
def ceX1_ofThree : List (Nat × Nat × Tr) := []
theorem coX1_ofThree (l : Launch) : CEok l yX1_ofThree.cls 0 ceX1_ofThree := ce_0
set_option maxRecDepth 20000 in
theorem okX1_ofThree (l : Launch) : OK l yX1_ofThree cX1_ofThree 7 (some .long) 0 tX1_ofThree := by
  intro D τ ρ A as σ post h
  unfold tX1_ofThree at h; split at h
  · rename_i a b c d; have hk := h
    refine met_of (P := pgX1_ofThree) (CE := ceX1_ofThree) (cut := []) (by decide) kkX1_ofThree (coX1_ofThree l) (Nat.le_of_ble_eq_true rfl) ?_
    intro G hG; refine hG 120 false 0 _ _ _ ?_
    refine And.intro (fun (h0 : ¬ a = 0) => ?_) (fun h0q => have h0 : a = 0 := Classical.not_not.mp h0q; ?_)
    · refine And.intro (fun (h1 : ¬ a = (1 : Int32)) => ?_) (fun h1q => have h1 : a = (1 : Int32) := Classical.not_not.mp h1q; ?_)
      · exact And.intro trivial (leafL hk (by unfold fX1_ofThree; first | (rw [if_neg h0, if_neg h1]; done) | (rw [if_neg h0, if_neg h1]; rfl)))
      · exact And.intro trivial (leafL hk (by unfold fX1_ofThree; first | (rw [if_neg h0, if_pos h1]; done) | (rw [if_neg h0, if_pos h1]; rfl)))
    · exact And.intro trivial (leafL hk (by unfold fX1_ofThree; first | (rw [if_pos h0]; done) | (rw [if_pos h0]; rfl)))
  · exact h.elim
def fX1_isFinite (a : Int64) : Int32 :=
  if 0 ≤ (lg_cmp (a &&& (9223372036854775807 : Int64)) (9218868437227405312 : Int64)) then
    (0 : Int32)
  else
    (1 : Int32)
def tX1_isFinite : Tr := fun as σ k => match as with
  | [.long a] => k (some (.int (fX1_isFinite a))) σ
  | _ => False
def ceX1_isFinite : List (Nat × Nat × Tr) := []
theorem coX1_isFinite (l : Launch) : CEok l yX1_isFinite.cls 0 ceX1_isFinite := ce_0
set_option maxRecDepth 20000 in
theorem okX1_isFinite (l : Launch) : OK l yX1_isFinite cX1_isFinite 2 (some .boolean) 0 tX1_isFinite := by
  intro D τ ρ A as σ post h
  unfold tX1_isFinite at h; split at h
  · rename_i a; have hk := h
    refine met_of (P := pgX1_isFinite) (CE := ceX1_isFinite) (cut := []) (by decide) kkX1_isFinite (coX1_isFinite l) (Nat.le_of_ble_eq_true rfl) ?_
    intro G hG; refine hG 120 false 0 _ _ _ ?_
    refine And.intro (fun (h0 : 0 ≤ (lg_cmp (a &&& (9223372036854775807 : Int64)) (9218868437227405312 : Int64))) => ?_) (fun (h0 : ¬ 0 ≤ (lg_cmp (a &&& (9223372036854775807 : Int64)) (9218868437227405312 : Int64))) => ?_)
    · exact And.intro (Or.inl rfl) (leafI hk (by unfold fX1_isFinite; first | (rw [if_pos h0]; done) | (rw [if_pos h0]; rfl)))
    · exact And.intro (Or.inr rfl) (leafI hk (by unfold fX1_isFinite; first | (rw [if_neg h0]; done) | (rw [if_neg h0]; rfl)))
  · exact h.elim
def fX1_isInfinite (a : Int64) : Int32 :=
  if (lg_cmp (a &&& (9223372036854775807 : Int64)) (9218868437227405312 : Int64)) = 0 then
    (1 : Int32)
  else
    (0 : Int32)
def tX1_isInfinite : Tr := fun as σ k => match as with
  | [.long a] => k (some (.int (fX1_isInfinite a))) σ
  | _ => False
def ceX1_isInfinite : List (Nat × Nat × Tr) := []
theorem coX1_isInfinite (l : Launch) : CEok l yX1_isInfinite.cls 0 ceX1_isInfinite := ce_0
set_option maxRecDepth 20000 in
theorem okX1_isInfinite (l : Launch) : OK l yX1_isInfinite cX1_isInfinite 2 (some .boolean) 0 tX1_isInfinite := by
  intro D τ ρ A as σ post h
  unfold tX1_isInfinite at h; split at h
  · rename_i a; have hk := h
    refine met_of (P := pgX1_isInfinite) (CE := ceX1_isInfinite) (cut := []) (by decide) kkX1_isInfinite (coX1_isInfinite l) (Nat.le_of_ble_eq_true rfl) ?_
    intro G hG; refine hG 120 false 0 _ _ _ ?_
    refine And.intro (fun (h0 : ¬ (lg_cmp (a &&& (9223372036854775807 : Int64)) (9218868437227405312 : Int64)) = 0) => ?_) (fun h0q => have h0 : (lg_cmp (a &&& (9223372036854775807 : Int64)) (9218868437227405312 : Int64)) = 0 := Classical.not_not.mp h0q; ?_)
    · exact And.intro (Or.inl rfl) (leafI hk (by unfold fX1_isInfinite; first | (rw [if_neg h0]; done) | (rw [if_neg h0]; rfl)))
    · exact And.intro (Or.inr rfl) (leafI hk (by unfold fX1_isInfinite; first | (rw [if_pos h0]; done) | (rw [if_pos h0]; rfl)))
  · exact h.elim
def fX1_isZero (a : Int64) : Int32 :=
  if (lg_cmp (a &&& (9223372036854775807 : Int64)) (0 : Int64)) = 0 then
    (1 : Int32)
  else
    (0 : Int32)
def tX1_isZero : Tr := fun as σ k => match as with
  | [.long a] => k (some (.int (fX1_isZero a))) σ
  | _ => False
def ceX1_isZero : List (Nat × Nat × Tr) := []
theorem coX1_isZero (l : Launch) : CEok l yX1_isZero.cls 0 ceX1_isZero := ce_0
set_option maxRecDepth 20000 in
theorem okX1_isZero (l : Launch) : OK l yX1_isZero cX1_isZero 2 (some .boolean) 0 tX1_isZero := by
  intro D τ ρ A as σ post h
  unfold tX1_isZero at h; split at h
  · rename_i a; have hk := h
    refine met_of (P := pgX1_isZero) (CE := ceX1_isZero) (cut := []) (by decide) kkX1_isZero (coX1_isZero l) (Nat.le_of_ble_eq_true rfl) ?_
    intro G hG; refine hG 120 false 0 _ _ _ ?_
    refine And.intro (fun (h0 : ¬ (lg_cmp (a &&& (9223372036854775807 : Int64)) (0 : Int64)) = 0) => ?_) (fun h0q => have h0 : (lg_cmp (a &&& (9223372036854775807 : Int64)) (0 : Int64)) = 0 := Classical.not_not.mp h0q; ?_)
    · exact And.intro (Or.inl rfl) (leafI hk (by unfold fX1_isZero; first | (rw [if_neg h0]; done) | (rw [if_neg h0]; rfl)))
    · exact And.intro (Or.inr rfl) (leafI hk (by unfold fX1_isZero; first | (rw [if_pos h0]; done) | (rw [if_pos h0]; rfl)))
  · exact h.elim
def fX1_rank (a : Int64) : Int64 :=
  if (lg_cmp a (0 : Int64)) < 0 then
    ((-9223372036854775808 : Int64) - a)
  else
    a
def tX1_rank : Tr := fun as σ k => match as with
  | [.long a] => k (some (.long (fX1_rank a))) σ
  | _ => False
def ceX1_rank : List (Nat × Nat × Tr) := []
theorem coX1_rank (l : Launch) : CEok l yX1_rank.cls 0 ceX1_rank := ce_0
set_option maxRecDepth 20000 in
theorem okX1_rank (l : Launch) : OK l yX1_rank cX1_rank 2 (some .long) 0 tX1_rank := by
  intro D τ ρ A as σ post h
  unfold tX1_rank at h; split at h
  · rename_i a; have hk := h
    refine met_of (P := pgX1_rank) (CE := ceX1_rank) (cut := []) (by decide) kkX1_rank (coX1_rank l) (Nat.le_of_ble_eq_true rfl) ?_
    intro G hG; refine hG 120 false 0 _ _ _ ?_
    refine And.intro (fun (h0 : (lg_cmp a (0 : Int64)) < 0) => ?_) (fun (h0 : ¬ (lg_cmp a (0 : Int64)) < 0) => ?_)
    · exact And.intro trivial (leafL hk (by unfold fX1_rank; first | (rw [if_pos h0]; done) | (rw [if_pos h0]; rfl)))
    · exact And.intro trivial (leafL hk (by unfold fX1_rank; first | (rw [if_neg h0]; done) | (rw [if_neg h0]; rfl)))
  · exact h.elim
def fX1_isBelow (a : Int64) (b : Int64) : Int32 :=
  if (fX1_isNone a) = 0 then
    if (fX1_isNone b) = 0 then
      if 0 ≤ (lg_cmp (fX1_rank a) (fX1_rank b)) then
        (0 : Int32)
      else
        (1 : Int32)
    else
      (0 : Int32)
  else
    (0 : Int32)
def tX1_isBelow : Tr := fun as σ k => match as with
  | [.long a, .long b] => k (some (.int (fX1_isBelow a b))) σ
  | _ => False
def ceX1_isBelow : List (Nat × Nat × Tr) := (2 * 7, 1, tX1_isNone) :: (2 * 21, 1, tX1_rank) :: []
theorem coX1_isBelow (l : Launch) : CEok l yX1_isBelow.cls 1 ceX1_isBelow := ce_S (okX1_isNone l) (mw 136 (by decide +kernel) rfl) (mw 137 (by decide +kernel) rfl) (mw 5 (by decide +kernel) rfl) (mw 138 (by decide +kernel) rfl) (by decide) ⟨by decide, by decide⟩ (ce_S (okX1_rank l) (mw 139 (by decide +kernel) rfl) (mw 140 (by decide +kernel) rfl) (mw 5 (by decide +kernel) rfl) (mw 141 (by decide +kernel) rfl) (by decide) ⟨by decide, by decide⟩ (ce_0))
set_option maxRecDepth 20000 in
theorem okX1_isBelow (l : Launch) : OK l yX1_isBelow cX1_isBelow 4 (some .boolean) 1 tX1_isBelow := by
  intro D τ ρ A as σ post h
  unfold tX1_isBelow at h; split at h
  · rename_i a b; have hk := h
    refine met_of (P := pgX1_isBelow) (CE := ceX1_isBelow) (cut := []) (by decide) kkX1_isBelow (coX1_isBelow l) (Nat.le_of_ble_eq_true rfl) ?_
    intro G hG; refine hG 120 false 0 _ _ _ ?_
    refine And.intro (fun (h0 : ¬ (fX1_isNone a) = 0) => ?_) (fun h0q => have h0 : (fX1_isNone a) = 0 := Classical.not_not.mp h0q; ?_)
    · exact And.intro (Or.inl rfl) (leafI hk (by unfold fX1_isBelow; first | (rw [if_neg h0]; done) | (rw [if_neg h0]; rfl)))
    · refine And.intro (fun (h1 : ¬ (fX1_isNone b) = 0) => ?_) (fun h1q => have h1 : (fX1_isNone b) = 0 := Classical.not_not.mp h1q; ?_)
      · exact And.intro (Or.inl rfl) (leafI hk (by unfold fX1_isBelow; first | (rw [if_pos h0, if_neg h1]; done) | (rw [if_pos h0, if_neg h1]; rfl)))
      · refine And.intro (fun (h2 : 0 ≤ (lg_cmp (fX1_rank a) (fX1_rank b))) => ?_) (fun (h2 : ¬ 0 ≤ (lg_cmp (fX1_rank a) (fX1_rank b))) => ?_)
        · exact And.intro (Or.inl rfl) (leafI hk (by unfold fX1_isBelow; first | (rw [if_pos h0, if_pos h1, if_pos h2]; done) | (rw [if_pos h0, if_pos h1, if_pos h2]; rfl)))
        · exact And.intro (Or.inr rfl) (leafI hk (by unfold fX1_isBelow; first | (rw [if_pos h0, if_pos h1, if_neg h2]; done) | (rw [if_pos h0, if_pos h1, if_neg h2]; rfl)))
  · exact h.elim
def fX1_isFromTo (a : Int64) (b : Int64) (c : Int64) : Int32 :=
  if (fX1_isNone a) = 0 then
    if 0 < (lg_cmp (fX1_rank b) (fX1_rank a)) then
      (0 : Int32)
    else
      if 0 < (lg_cmp (fX1_rank a) (fX1_rank c)) then
        (0 : Int32)
      else
        (1 : Int32)
  else
    (0 : Int32)
def tX1_isFromTo : Tr := fun as σ k => match as with
  | [.long a, .long b, .long c] => k (some (.int (fX1_isFromTo a b c))) σ
  | _ => False
def ceX1_isFromTo : List (Nat × Nat × Tr) := (2 * 7, 1, tX1_isNone) :: (2 * 21, 1, tX1_rank) :: []
theorem coX1_isFromTo (l : Launch) : CEok l yX1_isFromTo.cls 1 ceX1_isFromTo := ce_S (okX1_isNone l) (mw 136 (by decide +kernel) rfl) (mw 137 (by decide +kernel) rfl) (mw 5 (by decide +kernel) rfl) (mw 138 (by decide +kernel) rfl) (by decide) ⟨by decide, by decide⟩ (ce_S (okX1_rank l) (mw 139 (by decide +kernel) rfl) (mw 140 (by decide +kernel) rfl) (mw 5 (by decide +kernel) rfl) (mw 141 (by decide +kernel) rfl) (by decide) ⟨by decide, by decide⟩ (ce_0))
set_option maxRecDepth 20000 in
theorem okX1_isFromTo (l : Launch) : OK l yX1_isFromTo cX1_isFromTo 6 (some .boolean) 1 tX1_isFromTo := by
  intro D τ ρ A as σ post h
  unfold tX1_isFromTo at h; split at h
  · rename_i a b c; have hk := h
    refine met_of (P := pgX1_isFromTo) (CE := ceX1_isFromTo) (cut := []) (by decide) kkX1_isFromTo (coX1_isFromTo l) (Nat.le_of_ble_eq_true rfl) ?_
    intro G hG; refine hG 120 false 0 _ _ _ ?_
    refine And.intro (fun (h0 : ¬ (fX1_isNone a) = 0) => ?_) (fun h0q => have h0 : (fX1_isNone a) = 0 := Classical.not_not.mp h0q; ?_)
    · exact And.intro (Or.inl rfl) (leafI hk (by unfold fX1_isFromTo; first | (rw [if_neg h0]; done) | (rw [if_neg h0]; rfl)))
    · refine And.intro (fun (h1 : 0 < (lg_cmp (fX1_rank b) (fX1_rank a))) => ?_) (fun (h1 : ¬ 0 < (lg_cmp (fX1_rank b) (fX1_rank a))) => ?_)
      · exact And.intro (Or.inl rfl) (leafI hk (by unfold fX1_isFromTo; first | (rw [if_pos h0, if_pos h1]; done) | (rw [if_pos h0, if_pos h1]; rfl)))
      · refine And.intro (fun (h2 : 0 < (lg_cmp (fX1_rank a) (fX1_rank c))) => ?_) (fun (h2 : ¬ 0 < (lg_cmp (fX1_rank a) (fX1_rank c))) => ?_)
        · exact And.intro (Or.inl rfl) (leafI hk (by unfold fX1_isFromTo; first | (rw [if_pos h0, if_neg h1, if_pos h2]; done) | (rw [if_pos h0, if_neg h1, if_pos h2]; rfl)))
        · exact And.intro (Or.inr rfl) (leafI hk (by unfold fX1_isFromTo; first | (rw [if_pos h0, if_neg h1, if_neg h2]; done) | (rw [if_pos h0, if_neg h1, if_neg h2]; rfl)))
  · exact h.elim
def fX1_strictRank (a : Int64) : Int64 :=
  if (lg_cmp a (0 : Int64)) < 0 then
    ((a &&& (9223372036854775807 : Int64)) ^^^ (-1 : Int64))
  else
    a
def tX1_strictRank : Tr := fun as σ k => match as with
  | [.long a] => k (some (.long (fX1_strictRank a))) σ
  | _ => False
def ceX1_strictRank : List (Nat × Nat × Tr) := []
theorem coX1_strictRank (l : Launch) : CEok l yX1_strictRank.cls 0 ceX1_strictRank := ce_0
set_option maxRecDepth 20000 in
theorem okX1_strictRank (l : Launch) : OK l yX1_strictRank cX1_strictRank 2 (some .long) 0 tX1_strictRank := by
  intro D τ ρ A as σ post h
  unfold tX1_strictRank at h; split at h
  · rename_i a; have hk := h
    refine met_of (P := pgX1_strictRank) (CE := ceX1_strictRank) (cut := []) (by decide) kkX1_strictRank (coX1_strictRank l) (Nat.le_of_ble_eq_true rfl) ?_
    intro G hG; refine hG 120 false 0 _ _ _ ?_
    refine And.intro (fun (h0 : (lg_cmp a (0 : Int64)) < 0) => ?_) (fun (h0 : ¬ (lg_cmp a (0 : Int64)) < 0) => ?_)
    · exact And.intro trivial (leafL hk (by unfold fX1_strictRank; first | (rw [if_pos h0]; done) | (rw [if_pos h0]; rfl)))
    · exact And.intro trivial (leafL hk (by unfold fX1_strictRank; first | (rw [if_neg h0]; done) | (rw [if_neg h0]; rfl)))
  · exact h.elim
def fX1_lesser (a : Int64) (b : Int64) : Int64 :=
  if (fX1_isNone a) = 0 then
    if (fX1_isNone b) = 0 then
      if 0 < (lg_cmp (fX1_strictRank a) (fX1_strictRank b)) then
        b
      else
        a
    else
      (9221120237041090560 : Int64)
  else
    (9221120237041090560 : Int64)
def tX1_lesser : Tr := fun as σ k => match as with
  | [.long a, .long b] => k (some (.long (fX1_lesser a b))) σ
  | _ => False
def ceX1_lesser : List (Nat × Nat × Tr) := (2 * 7, 1, tX1_isNone) :: (2 * 27, 1, tX1_strictRank) :: []
theorem coX1_lesser (l : Launch) : CEok l yX1_lesser.cls 1 ceX1_lesser := ce_S (okX1_isNone l) (mw 136 (by decide +kernel) rfl) (mw 137 (by decide +kernel) rfl) (mw 5 (by decide +kernel) rfl) (mw 138 (by decide +kernel) rfl) (by decide) ⟨by decide, by decide⟩ (ce_S (okX1_strictRank l) (mw 285 (by decide +kernel) rfl) (mw 286 (by decide +kernel) rfl) (mw 5 (by decide +kernel) rfl) (mw 287 (by decide +kernel) rfl) (by decide) ⟨by decide, by decide⟩ (ce_0))
set_option maxRecDepth 20000 in
theorem okX1_lesser (l : Launch) : OK l yX1_lesser cX1_lesser 4 (some .long) 1 tX1_lesser := by
  intro D τ ρ A as σ post h
  unfold tX1_lesser at h; split at h
  · rename_i a b; have hk := h
    refine met_of (P := pgX1_lesser) (CE := ceX1_lesser) (cut := []) (by decide) kkX1_lesser (coX1_lesser l) (Nat.le_of_ble_eq_true rfl) ?_
    intro G hG; refine hG 120 false 0 _ _ _ ?_
    refine And.intro (fun (h0 : ¬ (fX1_isNone a) = 0) => ?_) (fun h0q => have h0 : (fX1_isNone a) = 0 := Classical.not_not.mp h0q; ?_)
    · exact And.intro trivial (leafL hk (by unfold fX1_lesser; first | (rw [if_neg h0]; done) | (rw [if_neg h0]; rfl)))
    · refine And.intro (fun (h1 : (fX1_isNone b) = 0) => ?_) (fun (h1 : ¬ (fX1_isNone b) = 0) => ?_)
      · refine And.intro (fun (h2 : 0 < (lg_cmp (fX1_strictRank a) (fX1_strictRank b))) => ?_) (fun (h2 : ¬ 0 < (lg_cmp (fX1_strictRank a) (fX1_strictRank b))) => ?_)
        · exact And.intro trivial (leafL hk (by unfold fX1_lesser; first | (rw [if_pos h0, if_pos h1, if_pos h2]; done) | (rw [if_pos h0, if_pos h1, if_pos h2]; rfl)))
        · exact And.intro trivial (leafL hk (by unfold fX1_lesser; first | (rw [if_pos h0, if_pos h1, if_neg h2]; done) | (rw [if_pos h0, if_pos h1, if_neg h2]; rfl)))
      · exact And.intro trivial (leafL hk (by unfold fX1_lesser; first | (rw [if_pos h0, if_neg h1]; done) | (rw [if_pos h0, if_neg h1]; rfl)))
  · exact h.elim
def fX1_greater (a : Int64) (b : Int64) : Int64 :=
  if (fX1_isNone a) = 0 then
    if (fX1_isNone b) = 0 then
      if (lg_cmp (fX1_strictRank a) (fX1_strictRank b)) < 0 then
        b
      else
        a
    else
      (9221120237041090560 : Int64)
  else
    (9221120237041090560 : Int64)
def tX1_greater : Tr := fun as σ k => match as with
  | [.long a, .long b] => k (some (.long (fX1_greater a b))) σ
  | _ => False
def ceX1_greater : List (Nat × Nat × Tr) := (2 * 7, 1, tX1_isNone) :: (2 * 27, 1, tX1_strictRank) :: []
theorem coX1_greater (l : Launch) : CEok l yX1_greater.cls 1 ceX1_greater := ce_S (okX1_isNone l) (mw 136 (by decide +kernel) rfl) (mw 137 (by decide +kernel) rfl) (mw 5 (by decide +kernel) rfl) (mw 138 (by decide +kernel) rfl) (by decide) ⟨by decide, by decide⟩ (ce_S (okX1_strictRank l) (mw 285 (by decide +kernel) rfl) (mw 286 (by decide +kernel) rfl) (mw 5 (by decide +kernel) rfl) (mw 287 (by decide +kernel) rfl) (by decide) ⟨by decide, by decide⟩ (ce_0))
set_option maxRecDepth 20000 in
theorem okX1_greater (l : Launch) : OK l yX1_greater cX1_greater 4 (some .long) 1 tX1_greater := by
  intro D τ ρ A as σ post h
  unfold tX1_greater at h; split at h
  · rename_i a b; have hk := h
    refine met_of (P := pgX1_greater) (CE := ceX1_greater) (cut := []) (by decide) kkX1_greater (coX1_greater l) (Nat.le_of_ble_eq_true rfl) ?_
    intro G hG; refine hG 120 false 0 _ _ _ ?_
    refine And.intro (fun (h0 : ¬ (fX1_isNone a) = 0) => ?_) (fun h0q => have h0 : (fX1_isNone a) = 0 := Classical.not_not.mp h0q; ?_)
    · exact And.intro trivial (leafL hk (by unfold fX1_greater; first | (rw [if_neg h0]; done) | (rw [if_neg h0]; rfl)))
    · refine And.intro (fun (h1 : (fX1_isNone b) = 0) => ?_) (fun (h1 : ¬ (fX1_isNone b) = 0) => ?_)
      · refine And.intro (fun (h2 : (lg_cmp (fX1_strictRank a) (fX1_strictRank b)) < 0) => ?_) (fun (h2 : ¬ (lg_cmp (fX1_strictRank a) (fX1_strictRank b)) < 0) => ?_)
        · exact And.intro trivial (leafL hk (by unfold fX1_greater; first | (rw [if_pos h0, if_pos h1, if_pos h2]; done) | (rw [if_pos h0, if_pos h1, if_pos h2]; rfl)))
        · exact And.intro trivial (leafL hk (by unfold fX1_greater; first | (rw [if_pos h0, if_pos h1, if_neg h2]; done) | (rw [if_pos h0, if_pos h1, if_neg h2]; rfl)))
      · exact And.intro trivial (leafL hk (by unfold fX1_greater; first | (rw [if_pos h0, if_neg h1]; done) | (rw [if_pos h0, if_neg h1]; rfl)))
  · exact h.elim
def fX1_zeroIfLess (a : Int64) : Int64 :=
  if (fX1_isNone a) = 0 then
    if (fX1_isBelow a (0 : Int64)) = 0 then
      a
    else
      (0 : Int64)
  else
    (0 : Int64)
def tX1_zeroIfLess : Tr := fun as σ k => match as with
  | [.long a] => k (some (.long (fX1_zeroIfLess a))) σ
  | _ => False
def ceX1_zeroIfLess : List (Nat × Nat × Tr) := (2 * 7, 1, tX1_isNone) :: (2 * 30, 2, tX1_isBelow) :: []
theorem coX1_zeroIfLess (l : Launch) : CEok l yX1_zeroIfLess.cls 2 ceX1_zeroIfLess := ce_S (okX1_isNone l) (mw 136 (by decide +kernel) rfl) (mw 137 (by decide +kernel) rfl) (mw 5 (by decide +kernel) rfl) (mw 138 (by decide +kernel) rfl) (by decide) ⟨by decide, by decide⟩ (ce_S (okX1_isBelow l) (mw 317 (by decide +kernel) rfl) (mw 134 (by decide +kernel) rfl) (mw 5 (by decide +kernel) rfl) (mw 135 (by decide +kernel) rfl) (by decide) ⟨by decide, by decide⟩ (ce_0))
set_option maxRecDepth 20000 in
theorem okX1_zeroIfLess (l : Launch) : OK l yX1_zeroIfLess cX1_zeroIfLess 2 (some .long) 2 tX1_zeroIfLess := by
  intro D τ ρ A as σ post h
  unfold tX1_zeroIfLess at h; split at h
  · rename_i a; have hk := h
    refine met_of (P := pgX1_zeroIfLess) (CE := ceX1_zeroIfLess) (cut := []) (by decide) kkX1_zeroIfLess (coX1_zeroIfLess l) (Nat.le_of_ble_eq_true rfl) ?_
    intro G hG; refine hG 120 false 0 _ _ _ ?_
    refine And.intro (fun (h0 : ¬ (fX1_isNone a) = 0) => ?_) (fun h0q => have h0 : (fX1_isNone a) = 0 := Classical.not_not.mp h0q; ?_)
    · exact And.intro trivial (leafL hk (by unfold fX1_zeroIfLess; first | (rw [if_neg h0]; done) | (rw [if_neg h0]; rfl)))
    · refine And.intro (fun (h1 : (fX1_isBelow a (0 : Int64)) = 0) => ?_) (fun (h1 : ¬ (fX1_isBelow a (0 : Int64)) = 0) => ?_)
      · exact And.intro trivial (leafL hk (by unfold fX1_zeroIfLess; first | (rw [if_pos h0, if_pos h1]; done) | (rw [if_pos h0, if_pos h1]; rfl)))
      · exact And.intro trivial (leafL hk (by unfold fX1_zeroIfLess; first | (rw [if_pos h0, if_neg h1]; done) | (rw [if_pos h0, if_neg h1]; rfl)))
  · exact h.elim
def fX1_oneIfMore (a : Int64) : Int64 :=
  if (fX1_isNone a) = 0 then
    if (fX1_isBelow (4607182418800017408 : Int64) a) = 0 then
      a
    else
      (4607182418800017408 : Int64)
  else
    (4607182418800017408 : Int64)
def tX1_oneIfMore : Tr := fun as σ k => match as with
  | [.long a] => k (some (.long (fX1_oneIfMore a))) σ
  | _ => False
def ceX1_oneIfMore : List (Nat × Nat × Tr) := (2 * 7, 1, tX1_isNone) :: (2 * 30, 2, tX1_isBelow) :: []
theorem coX1_oneIfMore (l : Launch) : CEok l yX1_oneIfMore.cls 2 ceX1_oneIfMore := ce_S (okX1_isNone l) (mw 136 (by decide +kernel) rfl) (mw 137 (by decide +kernel) rfl) (mw 5 (by decide +kernel) rfl) (mw 138 (by decide +kernel) rfl) (by decide) ⟨by decide, by decide⟩ (ce_S (okX1_isBelow l) (mw 317 (by decide +kernel) rfl) (mw 134 (by decide +kernel) rfl) (mw 5 (by decide +kernel) rfl) (mw 135 (by decide +kernel) rfl) (by decide) ⟨by decide, by decide⟩ (ce_0))
set_option maxRecDepth 20000 in
theorem okX1_oneIfMore (l : Launch) : OK l yX1_oneIfMore cX1_oneIfMore 2 (some .long) 2 tX1_oneIfMore := by
  intro D τ ρ A as σ post h
  unfold tX1_oneIfMore at h; split at h
  · rename_i a; have hk := h
    refine met_of (P := pgX1_oneIfMore) (CE := ceX1_oneIfMore) (cut := []) (by decide) kkX1_oneIfMore (coX1_oneIfMore l) (Nat.le_of_ble_eq_true rfl) ?_
    intro G hG; refine hG 120 false 0 _ _ _ ?_
    refine And.intro (fun (h0 : ¬ (fX1_isNone a) = 0) => ?_) (fun h0q => have h0 : (fX1_isNone a) = 0 := Classical.not_not.mp h0q; ?_)
    · exact And.intro trivial (leafL hk (by unfold fX1_oneIfMore; first | (rw [if_neg h0]; done) | (rw [if_neg h0]; rfl)))
    · refine And.intro (fun (h1 : (fX1_isBelow (4607182418800017408 : Int64) a) = 0) => ?_) (fun (h1 : ¬ (fX1_isBelow (4607182418800017408 : Int64) a) = 0) => ?_)
      · exact And.intro trivial (leafL hk (by unfold fX1_oneIfMore; first | (rw [if_pos h0, if_pos h1]; done) | (rw [if_pos h0, if_pos h1]; rfl)))
      · exact And.intro trivial (leafL hk (by unfold fX1_oneIfMore; first | (rw [if_pos h0, if_neg h1]; done) | (rw [if_pos h0, if_neg h1]; rfl)))
  · exact h.elim
def fX1_opposite (a : Int64) : Int64 :=
  if (fX1_isNone a) = 0 then
    (a ^^^ (-9223372036854775808 : Int64))
  else
    (9221120237041090560 : Int64)
def tX1_opposite : Tr := fun as σ k => match as with
  | [.long a] => k (some (.long (fX1_opposite a))) σ
  | _ => False
def ceX1_opposite : List (Nat × Nat × Tr) := (2 * 7, 1, tX1_isNone) :: []
theorem coX1_opposite (l : Launch) : CEok l yX1_opposite.cls 1 ceX1_opposite := ce_S (okX1_isNone l) (mw 136 (by decide +kernel) rfl) (mw 137 (by decide +kernel) rfl) (mw 5 (by decide +kernel) rfl) (mw 138 (by decide +kernel) rfl) (by decide) ⟨by decide, by decide⟩ (ce_0)
set_option maxRecDepth 20000 in
theorem okX1_opposite (l : Launch) : OK l yX1_opposite cX1_opposite 2 (some .long) 1 tX1_opposite := by
  intro D τ ρ A as σ post h
  unfold tX1_opposite at h; split at h
  · rename_i a; have hk := h
    refine met_of (P := pgX1_opposite) (CE := ceX1_opposite) (cut := []) (by decide) kkX1_opposite (coX1_opposite l) (Nat.le_of_ble_eq_true rfl) ?_
    intro G hG; refine hG 120 false 0 _ _ _ ?_
    refine And.intro (fun (h0 : (fX1_isNone a) = 0) => ?_) (fun (h0 : ¬ (fX1_isNone a) = 0) => ?_)
    · exact And.intro trivial (leafL hk (by unfold fX1_opposite; first | (rw [if_pos h0]; done) | (rw [if_pos h0]; rfl)))
    · exact And.intro trivial (leafL hk (by unfold fX1_opposite; first | (rw [if_neg h0]; done) | (rw [if_neg h0]; rfl)))
  · exact h.elim
def fX1_size (a : Int64) : Int64 :=
  if (fX1_isNone a) = 0 then
    (a &&& (9223372036854775807 : Int64))
  else
    (9221120237041090560 : Int64)
def tX1_size : Tr := fun as σ k => match as with
  | [.long a] => k (some (.long (fX1_size a))) σ
  | _ => False
def ceX1_size : List (Nat × Nat × Tr) := (2 * 7, 1, tX1_isNone) :: []
theorem coX1_size (l : Launch) : CEok l yX1_size.cls 1 ceX1_size := ce_S (okX1_isNone l) (mw 136 (by decide +kernel) rfl) (mw 137 (by decide +kernel) rfl) (mw 5 (by decide +kernel) rfl) (mw 138 (by decide +kernel) rfl) (by decide) ⟨by decide, by decide⟩ (ce_0)
set_option maxRecDepth 20000 in
theorem okX1_size (l : Launch) : OK l yX1_size cX1_size 2 (some .long) 1 tX1_size := by
  intro D τ ρ A as σ post h
  unfold tX1_size at h; split at h
  · rename_i a; have hk := h
    refine met_of (P := pgX1_size) (CE := ceX1_size) (cut := []) (by decide) kkX1_size (coX1_size l) (Nat.le_of_ble_eq_true rfl) ?_
    intro G hG; refine hG 120 false 0 _ _ _ ?_
    refine And.intro (fun (h0 : (fX1_isNone a) = 0) => ?_) (fun (h0 : ¬ (fX1_isNone a) = 0) => ?_)
    · exact And.intro trivial (leafL hk (by unfold fX1_size; first | (rw [if_pos h0]; done) | (rw [if_pos h0]; rfl)))
    · exact And.intro trivial (leafL hk (by unfold fX1_size; first | (rw [if_neg h0]; done) | (rw [if_neg h0]; rfl)))
  · exact h.elim
def fX1_signum (a : Int64) : Int64 :=
  if (fX1_isNone a) = 0 then
    if (fX1_isZero a) = 0 then
      ((a &&& (-9223372036854775808 : Int64)) ||| (4607182418800017408 : Int64))
    else
      a
  else
    a
def tX1_signum : Tr := fun as σ k => match as with
  | [.long a] => k (some (.long (fX1_signum a))) σ
  | _ => False
def ceX1_signum : List (Nat × Nat × Tr) := (2 * 7, 1, tX1_isNone) :: (2 * 36, 1, tX1_isZero) :: []
theorem coX1_signum (l : Launch) : CEok l yX1_signum.cls 1 ceX1_signum := ce_S (okX1_isNone l) (mw 136 (by decide +kernel) rfl) (mw 137 (by decide +kernel) rfl) (mw 5 (by decide +kernel) rfl) (mw 138 (by decide +kernel) rfl) (by decide) ⟨by decide, by decide⟩ (ce_S (okX1_isZero l) (mw 264 (by decide +kernel) rfl) (mw 265 (by decide +kernel) rfl) (mw 5 (by decide +kernel) rfl) (mw 266 (by decide +kernel) rfl) (by decide) ⟨by decide, by decide⟩ (ce_0))
set_option maxRecDepth 20000 in
theorem okX1_signum (l : Launch) : OK l yX1_signum cX1_signum 2 (some .long) 1 tX1_signum := by
  intro D τ ρ A as σ post h
  unfold tX1_signum at h; split at h
  · rename_i a; have hk := h
    refine met_of (P := pgX1_signum) (CE := ceX1_signum) (cut := []) (by decide) kkX1_signum (coX1_signum l) (Nat.le_of_ble_eq_true rfl) ?_
    intro G hG; refine hG 120 false 0 _ _ _ ?_
    refine And.intro (fun (h0 : ¬ (fX1_isNone a) = 0) => ?_) (fun h0q => have h0 : (fX1_isNone a) = 0 := Classical.not_not.mp h0q; ?_)
    · exact And.intro trivial (leafL hk (by unfold fX1_signum; first | (rw [if_neg h0]; done) | (rw [if_neg h0]; rfl)))
    · refine And.intro (fun (h1 : (fX1_isZero a) = 0) => ?_) (fun (h1 : ¬ (fX1_isZero a) = 0) => ?_)
      · exact And.intro trivial (leafL hk (by unfold fX1_signum; first | (rw [if_pos h0, if_pos h1]; done) | (rw [if_pos h0, if_pos h1]; rfl)))
      · exact And.intro trivial (leafL hk (by unfold fX1_signum; first | (rw [if_pos h0, if_neg h1]; done) | (rw [if_pos h0, if_neg h1]; rfl)))
  · exact h.elim
def fX1_up (a : Int64) : Int64 :=
  if (fX1_isNone a) = 0 then
    if (lg_cmp a (9218868437227405312 : Int64)) = 0 then
      a
    else
      if (fX1_isZero a) = 0 then
        if (lg_cmp a (0 : Int64)) ≤ 0 then
          (a - (1 : Int64))
        else
          (a + (1 : Int64))
      else
        (1 : Int64)
  else
    a
def tX1_up : Tr := fun as σ k => match as with
  | [.long a] => k (some (.long (fX1_up a))) σ
  | _ => False
def ceX1_up : List (Nat × Nat × Tr) := (2 * 7, 1, tX1_isNone) :: (2 * 36, 1, tX1_isZero) :: []
theorem coX1_up (l : Launch) : CEok l yX1_up.cls 1 ceX1_up := ce_S (okX1_isNone l) (mw 136 (by decide +kernel) rfl) (mw 137 (by decide +kernel) rfl) (mw 5 (by decide +kernel) rfl) (mw 138 (by decide +kernel) rfl) (by decide) ⟨by decide, by decide⟩ (ce_S (okX1_isZero l) (mw 264 (by decide +kernel) rfl) (mw 265 (by decide +kernel) rfl) (mw 5 (by decide +kernel) rfl) (mw 266 (by decide +kernel) rfl) (by decide) ⟨by decide, by decide⟩ (ce_0))
set_option maxRecDepth 20000 in
theorem okX1_up (l : Launch) : OK l yX1_up cX1_up 2 (some .long) 1 tX1_up := by
  intro D τ ρ A as σ post h
  unfold tX1_up at h; split at h
  · rename_i a; have hk := h
    refine met_of (P := pgX1_up) (CE := ceX1_up) (cut := []) (by decide) kkX1_up (coX1_up l) (Nat.le_of_ble_eq_true rfl) ?_
    intro G hG; refine hG 120 false 0 _ _ _ ?_
    refine And.intro (fun (h0 : ¬ (fX1_isNone a) = 0) => ?_) (fun h0q => have h0 : (fX1_isNone a) = 0 := Classical.not_not.mp h0q; ?_)
    · exact And.intro trivial (leafL hk (by unfold fX1_up; first | (rw [if_neg h0]; done) | (rw [if_neg h0]; rfl)))
    · refine And.intro (fun (h1 : ¬ (lg_cmp a (9218868437227405312 : Int64)) = 0) => ?_) (fun h1q => have h1 : (lg_cmp a (9218868437227405312 : Int64)) = 0 := Classical.not_not.mp h1q; ?_)
      · refine And.intro (fun (h2 : (fX1_isZero a) = 0) => ?_) (fun (h2 : ¬ (fX1_isZero a) = 0) => ?_)
        · refine And.intro (fun (h3 : (lg_cmp a (0 : Int64)) ≤ 0) => ?_) (fun (h3 : ¬ (lg_cmp a (0 : Int64)) ≤ 0) => ?_)
          · exact And.intro trivial (leafL hk (by unfold fX1_up; first | (rw [if_pos h0, if_neg h1, if_pos h2, if_pos h3]; done) | (rw [if_pos h0, if_neg h1, if_pos h2, if_pos h3]; rfl)))
          · exact And.intro trivial (leafL hk (by unfold fX1_up; first | (rw [if_pos h0, if_neg h1, if_pos h2, if_neg h3]; done) | (rw [if_pos h0, if_neg h1, if_pos h2, if_neg h3]; rfl)))
        · exact And.intro trivial (leafL hk (by unfold fX1_up; first | (rw [if_pos h0, if_neg h1, if_neg h2]; done) | (rw [if_pos h0, if_neg h1, if_neg h2]; rfl)))
      · exact And.intro trivial (leafL hk (by unfold fX1_up; first | (rw [if_pos h0, if_pos h1]; done) | (rw [if_pos h0, if_pos h1]; rfl)))
  · exact h.elim
def fX1_down (a : Int64) : Int64 :=
  (fX1_opposite (fX1_up (fX1_opposite a)))
def tX1_down : Tr := fun as σ k => match as with
  | [.long a] => k (some (.long (fX1_down a))) σ
  | _ => False
def ceX1_down : List (Nat × Nat × Tr) := (2 * 39, 1, tX1_opposite) :: (2 * 42, 1, tX1_up) :: []
theorem coX1_down (l : Launch) : CEok l yX1_down.cls 2 ceX1_down := ce_S (okX1_opposite l) (mw 258 (by decide +kernel) rfl) (mw 259 (by decide +kernel) rfl) (mw 5 (by decide +kernel) rfl) (mw 260 (by decide +kernel) rfl) (by decide) ⟨by decide, by decide⟩ (ce_S (okX1_up l) (mw 261 (by decide +kernel) rfl) (mw 262 (by decide +kernel) rfl) (mw 5 (by decide +kernel) rfl) (mw 263 (by decide +kernel) rfl) (by decide) ⟨by decide, by decide⟩ (ce_0))
set_option maxRecDepth 20000 in
theorem okX1_down (l : Launch) : OK l yX1_down cX1_down 2 (some .long) 2 tX1_down := by
  intro D τ ρ A as σ post h
  unfold tX1_down at h; split at h
  · rename_i a; have hk := h
    refine met_of (P := pgX1_down) (CE := ceX1_down) (cut := []) (by decide) kkX1_down (coX1_down l) (Nat.le_of_ble_eq_true rfl) ?_
    intro G hG; refine hG 120 false 0 _ _ _ ?_
    exact And.intro trivial (leafL hk (by unfold fX1_down; rfl))
  · exact h.elim
def fX1_scale (a : Int64) : Int32 :=
  if ((a &&& (9218868437227405312 : Int64)).toUInt64 >>> ((52 : Int32).toInt64.toUInt64 &&& Int64.toUInt64 63)).toInt64.toInt32 = 0 then
    (1 : Int32)
  else
    ((a &&& (9218868437227405312 : Int64)).toUInt64 >>> ((52 : Int32).toInt64.toUInt64 &&& Int64.toUInt64 63)).toInt64.toInt32
def tX1_scale : Tr := fun as σ k => match as with
  | [.long a] => k (some (.int (fX1_scale a))) σ
  | _ => False
def ceX1_scale : List (Nat × Nat × Tr) := []
theorem coX1_scale (l : Launch) : CEok l yX1_scale.cls 0 ceX1_scale := ce_0
set_option maxRecDepth 20000 in
theorem okX1_scale (l : Launch) : OK l yX1_scale cX1_scale 3 (some .int) 0 tX1_scale := by
  intro D τ ρ A as σ post h
  unfold tX1_scale at h; split at h
  · rename_i a; have hk := h
    refine met_of (P := pgX1_scale) (CE := ceX1_scale) (cut := []) (by decide) kkX1_scale (coX1_scale l) (Nat.le_of_ble_eq_true rfl) ?_
    intro G hG; refine hG 120 false 0 _ _ _ ?_
    refine And.intro (fun (h0 : ¬ ((a &&& (9218868437227405312 : Int64)).toUInt64 >>> ((52 : Int32).toInt64.toUInt64 &&& Int64.toUInt64 63)).toInt64.toInt32 = 0) => ?_) (fun h0q => have h0 : ((a &&& (9218868437227405312 : Int64)).toUInt64 >>> ((52 : Int32).toInt64.toUInt64 &&& Int64.toUInt64 63)).toInt64.toInt32 = 0 := Classical.not_not.mp h0q; ?_)
    · exact And.intro trivial (leafI hk (by unfold fX1_scale; first | (rw [if_neg h0]; done) | (rw [if_neg h0]; rfl)))
    · exact And.intro trivial (leafI hk (by unfold fX1_scale; first | (rw [if_pos h0]; done) | (rw [if_pos h0]; rfl)))
  · exact h.elim
def fX1_fraction (a : Int64) : Int64 :=
  if (lg_cmp (a &&& (9218868437227405312 : Int64)) (0 : Int64)) = 0 then
    (a &&& (4503599627370495 : Int64))
  else
    ((a &&& (4503599627370495 : Int64)) ||| (4503599627370496 : Int64))
def tX1_fraction : Tr := fun as σ k => match as with
  | [.long a] => k (some (.long (fX1_fraction a))) σ
  | _ => False
def ceX1_fraction : List (Nat × Nat × Tr) := []
theorem coX1_fraction (l : Launch) : CEok l yX1_fraction.cls 0 ceX1_fraction := ce_0
set_option maxRecDepth 20000 in
theorem okX1_fraction (l : Launch) : OK l yX1_fraction cX1_fraction 4 (some .long) 0 tX1_fraction := by
  intro D τ ρ A as σ post h
  unfold tX1_fraction at h; split at h
  · rename_i a; have hk := h
    refine met_of (P := pgX1_fraction) (CE := ceX1_fraction) (cut := []) (by decide) kkX1_fraction (coX1_fraction l) (Nat.le_of_ble_eq_true rfl) ?_
    intro G hG; refine hG 120 false 0 _ _ _ ?_
    refine And.intro (fun (h0 : ¬ (lg_cmp (a &&& (9218868437227405312 : Int64)) (0 : Int64)) = 0) => ?_) (fun h0q => have h0 : (lg_cmp (a &&& (9218868437227405312 : Int64)) (0 : Int64)) = 0 := Classical.not_not.mp h0q; ?_)
    · exact And.intro trivial (leafL hk (by unfold fX1_fraction; first | (rw [if_neg h0]; done) | (rw [if_neg h0]; rfl)))
    · exact And.intro trivial (leafL hk (by unfold fX1_fraction; first | (rw [if_pos h0]; done) | (rw [if_pos h0]; rfl)))
  · exact h.elim
def fX1_lack (a : Int64) : Int32 :=
  ((fJ13_numberOfLeadingZeros_95d88 a) - (11 : Int32))
def tX1_lack : Tr := fun as σ k => match as with
  | [.long a] => k (some (.int (fX1_lack a))) σ
  | _ => False
def ceX1_lack : List (Nat × Nat × Tr) := (2 * 49, 1, tJ13_numberOfLeadingZeros_95d88) :: []
theorem coX1_lack (l : Launch) : CEok l yX1_lack.cls 2 ceX1_lack := ce_S (okJ13_numberOfLeadingZeros_95d88 l) (mw 243 (by decide +kernel) rfl) (mw 244 (by decide +kernel) rfl) (mw 7 (by decide +kernel) rfl) (mw 245 (by decide +kernel) rfl) (by decide) ⟨by decide, by decide⟩ (ce_0)
set_option maxRecDepth 20000 in
theorem okX1_lack (l : Launch) : OK l yX1_lack cX1_lack 2 (some .int) 2 tX1_lack := by
  intro D τ ρ A as σ post h
  unfold tX1_lack at h; split at h
  · rename_i a; have hk := h
    refine met_of (P := pgX1_lack) (CE := ceX1_lack) (cut := []) (by decide) kkX1_lack (coX1_lack l) (Nat.le_of_ble_eq_true rfl) ?_
    intro G hG; refine hG 120 false 0 _ _ _ ?_
    exact And.intro trivial (leafI hk (by unfold fX1_lack; rfl))
  · exact h.elim
def fX1_moved (a : Int64) (b : Int32) : Int64 :=
  if b < (63 : Int32) then
    if (lg_cmp ((a.toUInt64 >>> (b.toInt64.toUInt64 &&& Int64.toUInt64 63)).toInt64 <<< (b.toInt64 &&& 63)) a) = 0 then
      (a.toUInt64 >>> (b.toInt64.toUInt64 &&& Int64.toUInt64 63)).toInt64
    else
      ((a.toUInt64 >>> (b.toInt64.toUInt64 &&& Int64.toUInt64 63)).toInt64 ||| (1 : Int64))
  else
    if (lg_cmp a (0 : Int64)) = 0 then
      (0 : Int64)
    else
      (1 : Int64)
def tX1_moved : Tr := fun as σ k => match as with
  | [.long a, .int b] => k (some (.long (fX1_moved a b))) σ
  | _ => False
def ceX1_moved : List (Nat × Nat × Tr) := []
theorem coX1_moved (l : Launch) : CEok l yX1_moved.cls 0 ceX1_moved := ce_0
set_option maxRecDepth 20000 in
theorem okX1_moved (l : Launch) : OK l yX1_moved cX1_moved 5 (some .long) 0 tX1_moved := by
  intro D τ ρ A as σ post h
  unfold tX1_moved at h; split at h
  · rename_i a b; have hk := h
    refine met_of (P := pgX1_moved) (CE := ceX1_moved) (cut := []) (by decide) kkX1_moved (coX1_moved l) (Nat.le_of_ble_eq_true rfl) ?_
    intro G hG; refine hG 120 false 0 _ _ _ ?_
    refine And.intro (fun (h0 : b < (63 : Int32)) => ?_) (fun (h0 : ¬ b < (63 : Int32)) => ?_)
    · refine And.intro (fun (h1 : ¬ (lg_cmp ((a.toUInt64 >>> (b.toInt64.toUInt64 &&& Int64.toUInt64 63)).toInt64 <<< (b.toInt64 &&& 63)) a) = 0) => ?_) (fun h1q => have h1 : (lg_cmp ((a.toUInt64 >>> (b.toInt64.toUInt64 &&& Int64.toUInt64 63)).toInt64 <<< (b.toInt64 &&& 63)) a) = 0 := Classical.not_not.mp h1q; ?_)
      · exact And.intro trivial (leafL hk (by unfold fX1_moved; first | (rw [if_pos h0, if_neg h1]; done) | (rw [if_pos h0, if_neg h1]; rfl)))
      · exact And.intro trivial (leafL hk (by unfold fX1_moved; first | (rw [if_pos h0, if_pos h1]; done) | (rw [if_pos h0, if_pos h1]; rfl)))
    · refine And.intro (fun (h1 : ¬ (lg_cmp a (0 : Int64)) = 0) => ?_) (fun h1q => have h1 : (lg_cmp a (0 : Int64)) = 0 := Classical.not_not.mp h1q; ?_)
      · exact And.intro trivial (leafL hk (by unfold fX1_moved; first | (rw [if_neg h0, if_neg h1]; done) | (rw [if_neg h0, if_neg h1]; rfl)))
      · exact And.intro trivial (leafL hk (by unfold fX1_moved; first | (rw [if_neg h0, if_pos h1]; done) | (rw [if_neg h0, if_pos h1]; rfl)))
  · exact h.elim
def fX1_packed (a : Int64) (b : Int32) (c : Int64) : Int64 :=
  if (lg_cmp c (0 : Int64)) = 0 then
    a
  else
    if (b + (fJ9_max_7cf53 (((64 : Int32) - (fJ13_numberOfLeadingZeros_95d88 c)) - (56 : Int32)) ((1 : Int32) - b))) ≤ (2046 : Int32) then
      if (fJ9_max_7cf53 (((64 : Int32) - (fJ13_numberOfLeadingZeros_95d88 c)) - (56 : Int32)) ((1 : Int32) - b)) < 0 then
        if 0 < (lg_cmp ((c <<< ((-(fJ9_max_7cf53 (((64 : Int32) - (fJ13_numberOfLeadingZeros_95d88 c)) - (56 : Int32)) ((1 : Int32) - b))).toInt64 &&& 63)) &&& (7 : Int64)) (4 : Int64)) then
          (a ||| ((((b + (fJ9_max_7cf53 (((64 : Int32) - (fJ13_numberOfLeadingZeros_95d88 c)) - (56 : Int32)) ((1 : Int32) - b))) - (1 : Int32)).toInt64 <<< ((52 : Int32).toInt64 &&& 63)) + (((c <<< ((-(fJ9_max_7cf53 (((64 : Int32) - (fJ13_numberOfLeadingZeros_95d88 c)) - (56 : Int32)) ((1 : Int32) - b))).toInt64 &&& 63)).toUInt64 >>> ((3 : Int32).toInt64.toUInt64 &&& Int64.toUInt64 63)).toInt64 + (1 : Int64))))
        else
          if (lg_cmp ((c <<< ((-(fJ9_max_7cf53 (((64 : Int32) - (fJ13_numberOfLeadingZeros_95d88 c)) - (56 : Int32)) ((1 : Int32) - b))).toInt64 &&& 63)) &&& (7 : Int64)) (4 : Int64)) = 0 then
            if (lg_cmp (((c <<< ((-(fJ9_max_7cf53 (((64 : Int32) - (fJ13_numberOfLeadingZeros_95d88 c)) - (56 : Int32)) ((1 : Int32) - b))).toInt64 &&& 63)).toUInt64 >>> ((3 : Int32).toInt64.toUInt64 &&& Int64.toUInt64 63)).toInt64 &&& (1 : Int64)) (0 : Int64)) = 0 then
              (a ||| ((((b + (fJ9_max_7cf53 (((64 : Int32) - (fJ13_numberOfLeadingZeros_95d88 c)) - (56 : Int32)) ((1 : Int32) - b))) - (1 : Int32)).toInt64 <<< ((52 : Int32).toInt64 &&& 63)) + ((c <<< ((-(fJ9_max_7cf53 (((64 : Int32) - (fJ13_numberOfLeadingZeros_95d88 c)) - (56 : Int32)) ((1 : Int32) - b))).toInt64 &&& 63)).toUInt64 >>> ((3 : Int32).toInt64.toUInt64 &&& Int64.toUInt64 63)).toInt64))
            else
              (a ||| ((((b + (fJ9_max_7cf53 (((64 : Int32) - (fJ13_numberOfLeadingZeros_95d88 c)) - (56 : Int32)) ((1 : Int32) - b))) - (1 : Int32)).toInt64 <<< ((52 : Int32).toInt64 &&& 63)) + (((c <<< ((-(fJ9_max_7cf53 (((64 : Int32) - (fJ13_numberOfLeadingZeros_95d88 c)) - (56 : Int32)) ((1 : Int32) - b))).toInt64 &&& 63)).toUInt64 >>> ((3 : Int32).toInt64.toUInt64 &&& Int64.toUInt64 63)).toInt64 + (1 : Int64))))
          else
            (a ||| ((((b + (fJ9_max_7cf53 (((64 : Int32) - (fJ13_numberOfLeadingZeros_95d88 c)) - (56 : Int32)) ((1 : Int32) - b))) - (1 : Int32)).toInt64 <<< ((52 : Int32).toInt64 &&& 63)) + ((c <<< ((-(fJ9_max_7cf53 (((64 : Int32) - (fJ13_numberOfLeadingZeros_95d88 c)) - (56 : Int32)) ((1 : Int32) - b))).toInt64 &&& 63)).toUInt64 >>> ((3 : Int32).toInt64.toUInt64 &&& Int64.toUInt64 63)).toInt64))
      else
        if 0 < (lg_cmp ((fX1_moved c (fJ9_max_7cf53 (((64 : Int32) - (fJ13_numberOfLeadingZeros_95d88 c)) - (56 : Int32)) ((1 : Int32) - b))) &&& (7 : Int64)) (4 : Int64)) then
          (a ||| ((((b + (fJ9_max_7cf53 (((64 : Int32) - (fJ13_numberOfLeadingZeros_95d88 c)) - (56 : Int32)) ((1 : Int32) - b))) - (1 : Int32)).toInt64 <<< ((52 : Int32).toInt64 &&& 63)) + (((fX1_moved c (fJ9_max_7cf53 (((64 : Int32) - (fJ13_numberOfLeadingZeros_95d88 c)) - (56 : Int32)) ((1 : Int32) - b))).toUInt64 >>> ((3 : Int32).toInt64.toUInt64 &&& Int64.toUInt64 63)).toInt64 + (1 : Int64))))
        else
          if (lg_cmp ((fX1_moved c (fJ9_max_7cf53 (((64 : Int32) - (fJ13_numberOfLeadingZeros_95d88 c)) - (56 : Int32)) ((1 : Int32) - b))) &&& (7 : Int64)) (4 : Int64)) = 0 then
            if (lg_cmp (((fX1_moved c (fJ9_max_7cf53 (((64 : Int32) - (fJ13_numberOfLeadingZeros_95d88 c)) - (56 : Int32)) ((1 : Int32) - b))).toUInt64 >>> ((3 : Int32).toInt64.toUInt64 &&& Int64.toUInt64 63)).toInt64 &&& (1 : Int64)) (0 : Int64)) = 0 then
              (a ||| ((((b + (fJ9_max_7cf53 (((64 : Int32) - (fJ13_numberOfLeadingZeros_95d88 c)) - (56 : Int32)) ((1 : Int32) - b))) - (1 : Int32)).toInt64 <<< ((52 : Int32).toInt64 &&& 63)) + ((fX1_moved c (fJ9_max_7cf53 (((64 : Int32) - (fJ13_numberOfLeadingZeros_95d88 c)) - (56 : Int32)) ((1 : Int32) - b))).toUInt64 >>> ((3 : Int32).toInt64.toUInt64 &&& Int64.toUInt64 63)).toInt64))
            else
              (a ||| ((((b + (fJ9_max_7cf53 (((64 : Int32) - (fJ13_numberOfLeadingZeros_95d88 c)) - (56 : Int32)) ((1 : Int32) - b))) - (1 : Int32)).toInt64 <<< ((52 : Int32).toInt64 &&& 63)) + (((fX1_moved c (fJ9_max_7cf53 (((64 : Int32) - (fJ13_numberOfLeadingZeros_95d88 c)) - (56 : Int32)) ((1 : Int32) - b))).toUInt64 >>> ((3 : Int32).toInt64.toUInt64 &&& Int64.toUInt64 63)).toInt64 + (1 : Int64))))
          else
            (a ||| ((((b + (fJ9_max_7cf53 (((64 : Int32) - (fJ13_numberOfLeadingZeros_95d88 c)) - (56 : Int32)) ((1 : Int32) - b))) - (1 : Int32)).toInt64 <<< ((52 : Int32).toInt64 &&& 63)) + ((fX1_moved c (fJ9_max_7cf53 (((64 : Int32) - (fJ13_numberOfLeadingZeros_95d88 c)) - (56 : Int32)) ((1 : Int32) - b))).toUInt64 >>> ((3 : Int32).toInt64.toUInt64 &&& Int64.toUInt64 63)).toInt64))
    else
      (a ||| (9218868437227405312 : Int64))
def tX1_packed : Tr := fun as σ k => match as with
  | [.long a, .int b, .long c] => k (some (.long (fX1_packed a b c))) σ
  | _ => False
def ceX1_packed : List (Nat × Nat × Tr) := (2 * 49, 1, tJ13_numberOfLeadingZeros_95d88) :: (2 * 55, 2, tJ9_max_7cf53) :: (2 * 61, 2, tX1_moved) :: []
theorem coX1_packed (l : Launch) : CEok l yX1_packed.cls 2 ceX1_packed := ce_S (okJ13_numberOfLeadingZeros_95d88 l) (mw 243 (by decide +kernel) rfl) (mw 244 (by decide +kernel) rfl) (mw 7 (by decide +kernel) rfl) (mw 245 (by decide +kernel) rfl) (by decide) ⟨by decide, by decide⟩ (ce_max (mw 250 (by decide +kernel) rfl) (mw 251 (by decide +kernel) rfl) (mw 9 (by decide +kernel) rfl) (mw 252 (by decide +kernel) rfl) (by decide) (ce_S (okX1_moved l) (mw 237 (by decide +kernel) rfl) (mw 238 (by decide +kernel) rfl) (mw 5 (by decide +kernel) rfl) (mw 239 (by decide +kernel) rfl) (by decide) ⟨by decide, by decide⟩ (ce_0)))
set_option maxRecDepth 20000 in
theorem okX1_packed (l : Launch) : OK l yX1_packed cX1_packed 14 (some .long) 2 tX1_packed := by
  intro D τ ρ A as σ post h
  unfold tX1_packed at h; split at h
  · rename_i a b c; have hk := h
    refine met_of (P := pgX1_packed) (CE := ceX1_packed) (cut := []) (by decide) kkX1_packed (coX1_packed l) (Nat.le_of_ble_eq_true rfl) ?_
    intro G hG; refine hG 120 false 0 _ _ _ ?_
    refine And.intro (fun (h0 : ¬ (lg_cmp c (0 : Int64)) = 0) => ?_) (fun h0q => have h0 : (lg_cmp c (0 : Int64)) = 0 := Classical.not_not.mp h0q; ?_)
    · refine And.intro (fun (h1 : (b + (fJ9_max_7cf53 (((64 : Int32) - (fJ13_numberOfLeadingZeros_95d88 c)) - (56 : Int32)) ((1 : Int32) - b))) ≤ (2046 : Int32)) => ?_) (fun (h1 : ¬ (b + (fJ9_max_7cf53 (((64 : Int32) - (fJ13_numberOfLeadingZeros_95d88 c)) - (56 : Int32)) ((1 : Int32) - b))) ≤ (2046 : Int32)) => ?_)
      · refine And.intro (fun (h2 : (fJ9_max_7cf53 (((64 : Int32) - (fJ13_numberOfLeadingZeros_95d88 c)) - (56 : Int32)) ((1 : Int32) - b)) < 0) => ?_) (fun (h2 : ¬ (fJ9_max_7cf53 (((64 : Int32) - (fJ13_numberOfLeadingZeros_95d88 c)) - (56 : Int32)) ((1 : Int32) - b)) < 0) => ?_)
        · refine And.intro (fun (h3 : 0 < (lg_cmp ((c <<< ((-(fJ9_max_7cf53 (((64 : Int32) - (fJ13_numberOfLeadingZeros_95d88 c)) - (56 : Int32)) ((1 : Int32) - b))).toInt64 &&& 63)) &&& (7 : Int64)) (4 : Int64))) => ?_) (fun (h3 : ¬ 0 < (lg_cmp ((c <<< ((-(fJ9_max_7cf53 (((64 : Int32) - (fJ13_numberOfLeadingZeros_95d88 c)) - (56 : Int32)) ((1 : Int32) - b))).toInt64 &&& 63)) &&& (7 : Int64)) (4 : Int64))) => ?_)
          · exact And.intro trivial (leafL hk (by unfold fX1_packed; first | (rw [if_neg h0, if_pos h1, if_pos h2, if_pos h3]; done) | (rw [if_neg h0, if_pos h1, if_pos h2, if_pos h3]; rfl)))
          · refine And.intro (fun (h4 : ¬ (lg_cmp ((c <<< ((-(fJ9_max_7cf53 (((64 : Int32) - (fJ13_numberOfLeadingZeros_95d88 c)) - (56 : Int32)) ((1 : Int32) - b))).toInt64 &&& 63)) &&& (7 : Int64)) (4 : Int64)) = 0) => ?_) (fun h4q => have h4 : (lg_cmp ((c <<< ((-(fJ9_max_7cf53 (((64 : Int32) - (fJ13_numberOfLeadingZeros_95d88 c)) - (56 : Int32)) ((1 : Int32) - b))).toInt64 &&& 63)) &&& (7 : Int64)) (4 : Int64)) = 0 := Classical.not_not.mp h4q; ?_)
            · exact And.intro trivial (leafL hk (by unfold fX1_packed; first | (rw [if_neg h0, if_pos h1, if_pos h2, if_neg h3, if_neg h4]; done) | (rw [if_neg h0, if_pos h1, if_pos h2, if_neg h3, if_neg h4]; rfl)))
            · refine And.intro (fun (h5 : (lg_cmp (((c <<< ((-(fJ9_max_7cf53 (((64 : Int32) - (fJ13_numberOfLeadingZeros_95d88 c)) - (56 : Int32)) ((1 : Int32) - b))).toInt64 &&& 63)).toUInt64 >>> ((3 : Int32).toInt64.toUInt64 &&& Int64.toUInt64 63)).toInt64 &&& (1 : Int64)) (0 : Int64)) = 0) => ?_) (fun (h5 : ¬ (lg_cmp (((c <<< ((-(fJ9_max_7cf53 (((64 : Int32) - (fJ13_numberOfLeadingZeros_95d88 c)) - (56 : Int32)) ((1 : Int32) - b))).toInt64 &&& 63)).toUInt64 >>> ((3 : Int32).toInt64.toUInt64 &&& Int64.toUInt64 63)).toInt64 &&& (1 : Int64)) (0 : Int64)) = 0) => ?_)
              · exact And.intro trivial (leafL hk (by unfold fX1_packed; first | (rw [if_neg h0, if_pos h1, if_pos h2, if_neg h3, if_pos h4, if_pos h5]; done) | (rw [if_neg h0, if_pos h1, if_pos h2, if_neg h3, if_pos h4, if_pos h5]; rfl)))
              · exact And.intro trivial (leafL hk (by unfold fX1_packed; first | (rw [if_neg h0, if_pos h1, if_pos h2, if_neg h3, if_pos h4, if_neg h5]; done) | (rw [if_neg h0, if_pos h1, if_pos h2, if_neg h3, if_pos h4, if_neg h5]; rfl)))
        · refine And.intro (fun (h3 : 0 < (lg_cmp ((fX1_moved c (fJ9_max_7cf53 (((64 : Int32) - (fJ13_numberOfLeadingZeros_95d88 c)) - (56 : Int32)) ((1 : Int32) - b))) &&& (7 : Int64)) (4 : Int64))) => ?_) (fun (h3 : ¬ 0 < (lg_cmp ((fX1_moved c (fJ9_max_7cf53 (((64 : Int32) - (fJ13_numberOfLeadingZeros_95d88 c)) - (56 : Int32)) ((1 : Int32) - b))) &&& (7 : Int64)) (4 : Int64))) => ?_)
          · exact And.intro trivial (leafL hk (by unfold fX1_packed; first | (rw [if_neg h0, if_pos h1, if_neg h2, if_pos h3]; done) | (rw [if_neg h0, if_pos h1, if_neg h2, if_pos h3]; rfl)))
          · refine And.intro (fun (h4 : ¬ (lg_cmp ((fX1_moved c (fJ9_max_7cf53 (((64 : Int32) - (fJ13_numberOfLeadingZeros_95d88 c)) - (56 : Int32)) ((1 : Int32) - b))) &&& (7 : Int64)) (4 : Int64)) = 0) => ?_) (fun h4q => have h4 : (lg_cmp ((fX1_moved c (fJ9_max_7cf53 (((64 : Int32) - (fJ13_numberOfLeadingZeros_95d88 c)) - (56 : Int32)) ((1 : Int32) - b))) &&& (7 : Int64)) (4 : Int64)) = 0 := Classical.not_not.mp h4q; ?_)
            · exact And.intro trivial (leafL hk (by unfold fX1_packed; first | (rw [if_neg h0, if_pos h1, if_neg h2, if_neg h3, if_neg h4]; done) | (rw [if_neg h0, if_pos h1, if_neg h2, if_neg h3, if_neg h4]; rfl)))
            · refine And.intro (fun (h5 : (lg_cmp (((fX1_moved c (fJ9_max_7cf53 (((64 : Int32) - (fJ13_numberOfLeadingZeros_95d88 c)) - (56 : Int32)) ((1 : Int32) - b))).toUInt64 >>> ((3 : Int32).toInt64.toUInt64 &&& Int64.toUInt64 63)).toInt64 &&& (1 : Int64)) (0 : Int64)) = 0) => ?_) (fun (h5 : ¬ (lg_cmp (((fX1_moved c (fJ9_max_7cf53 (((64 : Int32) - (fJ13_numberOfLeadingZeros_95d88 c)) - (56 : Int32)) ((1 : Int32) - b))).toUInt64 >>> ((3 : Int32).toInt64.toUInt64 &&& Int64.toUInt64 63)).toInt64 &&& (1 : Int64)) (0 : Int64)) = 0) => ?_)
              · exact And.intro trivial (leafL hk (by unfold fX1_packed; first | (rw [if_neg h0, if_pos h1, if_neg h2, if_neg h3, if_pos h4, if_pos h5]; done) | (rw [if_neg h0, if_pos h1, if_neg h2, if_neg h3, if_pos h4, if_pos h5]; rfl)))
              · exact And.intro trivial (leafL hk (by unfold fX1_packed; first | (rw [if_neg h0, if_pos h1, if_neg h2, if_neg h3, if_pos h4, if_neg h5]; done) | (rw [if_neg h0, if_pos h1, if_neg h2, if_neg h3, if_pos h4, if_neg h5]; rfl)))
      · exact And.intro trivial (leafL hk (by unfold fX1_packed; first | (rw [if_neg h0, if_neg h1]; done) | (rw [if_neg h0, if_neg h1]; rfl)))
    · exact And.intro trivial (leafL hk (by unfold fX1_packed; first | (rw [if_pos h0]; done) | (rw [if_pos h0]; rfl)))
  · exact h.elim
def fX1_plus (a : Int64) (b : Int64) : Int64 :=
  if (fX1_isNone a) = 0 then
    if (fX1_isNone b) = 0 then
      if (fX1_isInfinite a) = 0 then
        if (fX1_isInfinite b) = 0 then
          if (lg_cmp (a &&& (9223372036854775807 : Int64)) (b &&& (9223372036854775807 : Int64))) < 0 then
            if (lg_cmp ((a ^^^ b) &&& (-9223372036854775808 : Int64)) (0 : Int64)) = 0 then
              (fX1_packed (a &&& (-9223372036854775808 : Int64)) (fX1_scale b) (((fX1_fraction b) <<< ((3 : Int32).toInt64 &&& 63)) + (fX1_moved ((fX1_fraction a) <<< ((3 : Int32).toInt64 &&& 63)) ((fX1_scale b) - (fX1_scale a)))))
            else
              if (lg_cmp ((fX1_fraction b) <<< ((3 : Int32).toInt64 &&& 63)) (fX1_moved ((fX1_fraction a) <<< ((3 : Int32).toInt64 &&& 63)) ((fX1_scale b) - (fX1_scale a)))) = 0 then
                (0 : Int64)
              else
                (fX1_packed (b &&& (-9223372036854775808 : Int64)) (fX1_scale b) (((fX1_fraction b) <<< ((3 : Int32).toInt64 &&& 63)) - (fX1_moved ((fX1_fraction a) <<< ((3 : Int32).toInt64 &&& 63)) ((fX1_scale b) - (fX1_scale a)))))
          else
            if (lg_cmp ((a ^^^ b) &&& (-9223372036854775808 : Int64)) (0 : Int64)) = 0 then
              (fX1_packed (a &&& (-9223372036854775808 : Int64)) (fX1_scale a) (((fX1_fraction a) <<< ((3 : Int32).toInt64 &&& 63)) + (fX1_moved ((fX1_fraction b) <<< ((3 : Int32).toInt64 &&& 63)) ((fX1_scale a) - (fX1_scale b)))))
            else
              if (lg_cmp ((fX1_fraction a) <<< ((3 : Int32).toInt64 &&& 63)) (fX1_moved ((fX1_fraction b) <<< ((3 : Int32).toInt64 &&& 63)) ((fX1_scale a) - (fX1_scale b)))) = 0 then
                (0 : Int64)
              else
                (fX1_packed (a &&& (-9223372036854775808 : Int64)) (fX1_scale a) (((fX1_fraction a) <<< ((3 : Int32).toInt64 &&& 63)) - (fX1_moved ((fX1_fraction b) <<< ((3 : Int32).toInt64 &&& 63)) ((fX1_scale a) - (fX1_scale b)))))
        else
          b
      else
        if (lg_cmp b (a ^^^ (-9223372036854775808 : Int64))) = 0 then
          (9221120237041090560 : Int64)
        else
          a
    else
      (9221120237041090560 : Int64)
  else
    (9221120237041090560 : Int64)
def tX1_plus : Tr := fun as σ k => match as with
  | [.long a, .long b] => k (some (.long (fX1_plus a b))) σ
  | _ => False
def ceX1_plus : List (Nat × Nat × Tr) := (2 * 7, 1, tX1_isNone) :: (2 * 69, 1, tX1_isInfinite) :: (2 * 72, 1, tX1_scale) :: (2 * 75, 1, tX1_fraction) :: (2 * 61, 2, tX1_moved) :: (2 * 78, 3, tX1_packed) :: []
theorem coX1_plus (l : Launch) : CEok l yX1_plus.cls 3 ceX1_plus := ce_S (okX1_isNone l) (mw 136 (by decide +kernel) rfl) (mw 137 (by decide +kernel) rfl) (mw 5 (by decide +kernel) rfl) (mw 138 (by decide +kernel) rfl) (by decide) ⟨by decide, by decide⟩ (ce_S (okX1_isInfinite l) (mw 226 (by decide +kernel) rfl) (mw 227 (by decide +kernel) rfl) (mw 5 (by decide +kernel) rfl) (mw 228 (by decide +kernel) rfl) (by decide) ⟨by decide, by decide⟩ (ce_S (okX1_scale l) (mw 229 (by decide +kernel) rfl) (mw 230 (by decide +kernel) rfl) (mw 5 (by decide +kernel) rfl) (mw 231 (by decide +kernel) rfl) (by decide) ⟨by decide, by decide⟩ (ce_S (okX1_fraction l) (mw 232 (by decide +kernel) rfl) (mw 233 (by decide +kernel) rfl) (mw 5 (by decide +kernel) rfl) (mw 234 (by decide +kernel) rfl) (by decide) ⟨by decide, by decide⟩ (ce_S (okX1_moved l) (mw 237 (by decide +kernel) rfl) (mw 238 (by decide +kernel) rfl) (mw 5 (by decide +kernel) rfl) (mw 239 (by decide +kernel) rfl) (by decide) ⟨by decide, by decide⟩ (ce_S (okX1_packed l) (mw 240 (by decide +kernel) rfl) (mw 241 (by decide +kernel) rfl) (mw 5 (by decide +kernel) rfl) (mw 242 (by decide +kernel) rfl) (by decide) ⟨by decide, by decide⟩ (ce_0))))))
set_option maxRecDepth 20000 in
theorem okX1_plus (l : Launch) : OK l yX1_plus cX1_plus 14 (some .long) 3 tX1_plus := by
  intro D τ ρ A as σ post h
  unfold tX1_plus at h; split at h
  · rename_i a b; have hk := h
    refine met_of (P := pgX1_plus) (CE := ceX1_plus) (cut := []) (by decide) kkX1_plus (coX1_plus l) (Nat.le_of_ble_eq_true rfl) ?_
    intro G hG; refine hG 120 false 0 _ _ _ ?_
    refine And.intro (fun (h0 : ¬ (fX1_isNone a) = 0) => ?_) (fun h0q => have h0 : (fX1_isNone a) = 0 := Classical.not_not.mp h0q; ?_)
    · exact And.intro trivial (leafL hk (by unfold fX1_plus; first | (rw [if_neg h0]; done) | (rw [if_neg h0]; rfl)))
    · refine And.intro (fun (h1 : (fX1_isNone b) = 0) => ?_) (fun (h1 : ¬ (fX1_isNone b) = 0) => ?_)
      · refine And.intro (fun (h2 : (fX1_isInfinite a) = 0) => ?_) (fun (h2 : ¬ (fX1_isInfinite a) = 0) => ?_)
        · refine And.intro (fun (h3 : (fX1_isInfinite b) = 0) => ?_) (fun (h3 : ¬ (fX1_isInfinite b) = 0) => ?_)
          · refine And.intro (fun (h4 : (lg_cmp (a &&& (9223372036854775807 : Int64)) (b &&& (9223372036854775807 : Int64))) < 0) => ?_) (fun (h4 : ¬ (lg_cmp (a &&& (9223372036854775807 : Int64)) (b &&& (9223372036854775807 : Int64))) < 0) => ?_)
            · refine And.intro (fun _ => ?_) (fun h => absurd (show (0 : Int32) = (0 : Int32) by decide) h)
              refine And.intro (fun _ => ?_) (fun h => absurd (show (0 : Int32) = (0 : Int32) by decide) h)
              refine And.intro (fun (h5 : ¬ (lg_cmp ((a ^^^ b) &&& (-9223372036854775808 : Int64)) (0 : Int64)) = 0) => ?_) (fun h5q => have h5 : (lg_cmp ((a ^^^ b) &&& (-9223372036854775808 : Int64)) (0 : Int64)) = 0 := Classical.not_not.mp h5q; ?_)
              · refine And.intro (fun (h6 : ¬ (lg_cmp ((fX1_fraction b) <<< ((3 : Int32).toInt64 &&& 63)) (fX1_moved ((fX1_fraction a) <<< ((3 : Int32).toInt64 &&& 63)) ((fX1_scale b) - (fX1_scale a)))) = 0) => ?_) (fun h6q => have h6 : (lg_cmp ((fX1_fraction b) <<< ((3 : Int32).toInt64 &&& 63)) (fX1_moved ((fX1_fraction a) <<< ((3 : Int32).toInt64 &&& 63)) ((fX1_scale b) - (fX1_scale a)))) = 0 := Classical.not_not.mp h6q; ?_)
                · exact And.intro trivial (leafL hk (by unfold fX1_plus; first | (rw [if_pos h0, if_pos h1, if_pos h2, if_pos h3, if_pos h4, if_neg h5, if_neg h6]; done) | (rw [if_pos h0, if_pos h1, if_pos h2, if_pos h3, if_pos h4, if_neg h5, if_neg h6]; rfl)))
                · exact And.intro trivial (leafL hk (by unfold fX1_plus; first | (rw [if_pos h0, if_pos h1, if_pos h2, if_pos h3, if_pos h4, if_neg h5, if_pos h6]; done) | (rw [if_pos h0, if_pos h1, if_pos h2, if_pos h3, if_pos h4, if_neg h5, if_pos h6]; rfl)))
              · exact And.intro trivial (leafL hk (by unfold fX1_plus; first | (rw [if_pos h0, if_pos h1, if_pos h2, if_pos h3, if_pos h4, if_pos h5]; done) | (rw [if_pos h0, if_pos h1, if_pos h2, if_pos h3, if_pos h4, if_pos h5]; rfl)))
            · refine And.intro (fun h => absurd (show (1 : Int32) = (0 : Int32) from h) (by decide)) (fun _ => ?_)
              refine And.intro (fun h => absurd (show (1 : Int32) = (0 : Int32) from h) (by decide)) (fun _ => ?_)
              refine And.intro (fun (h5 : ¬ (lg_cmp ((a ^^^ b) &&& (-9223372036854775808 : Int64)) (0 : Int64)) = 0) => ?_) (fun h5q => have h5 : (lg_cmp ((a ^^^ b) &&& (-9223372036854775808 : Int64)) (0 : Int64)) = 0 := Classical.not_not.mp h5q; ?_)
              · refine And.intro (fun (h6 : ¬ (lg_cmp ((fX1_fraction a) <<< ((3 : Int32).toInt64 &&& 63)) (fX1_moved ((fX1_fraction b) <<< ((3 : Int32).toInt64 &&& 63)) ((fX1_scale a) - (fX1_scale b)))) = 0) => ?_) (fun h6q => have h6 : (lg_cmp ((fX1_fraction a) <<< ((3 : Int32).toInt64 &&& 63)) (fX1_moved ((fX1_fraction b) <<< ((3 : Int32).toInt64 &&& 63)) ((fX1_scale a) - (fX1_scale b)))) = 0 := Classical.not_not.mp h6q; ?_)
                · exact And.intro trivial (leafL hk (by unfold fX1_plus; first | (rw [if_pos h0, if_pos h1, if_pos h2, if_pos h3, if_neg h4, if_neg h5, if_neg h6]; done) | (rw [if_pos h0, if_pos h1, if_pos h2, if_pos h3, if_neg h4, if_neg h5, if_neg h6]; rfl)))
                · exact And.intro trivial (leafL hk (by unfold fX1_plus; first | (rw [if_pos h0, if_pos h1, if_pos h2, if_pos h3, if_neg h4, if_neg h5, if_pos h6]; done) | (rw [if_pos h0, if_pos h1, if_pos h2, if_pos h3, if_neg h4, if_neg h5, if_pos h6]; rfl)))
              · exact And.intro trivial (leafL hk (by unfold fX1_plus; first | (rw [if_pos h0, if_pos h1, if_pos h2, if_pos h3, if_neg h4, if_pos h5]; done) | (rw [if_pos h0, if_pos h1, if_pos h2, if_pos h3, if_neg h4, if_pos h5]; rfl)))
          · exact And.intro trivial (leafL hk (by unfold fX1_plus; first | (rw [if_pos h0, if_pos h1, if_pos h2, if_neg h3]; done) | (rw [if_pos h0, if_pos h1, if_pos h2, if_neg h3]; rfl)))
        · refine And.intro (fun (h3 : ¬ (lg_cmp b (a ^^^ (-9223372036854775808 : Int64))) = 0) => ?_) (fun h3q => have h3 : (lg_cmp b (a ^^^ (-9223372036854775808 : Int64))) = 0 := Classical.not_not.mp h3q; ?_)
          · exact And.intro trivial (leafL hk (by unfold fX1_plus; first | (rw [if_pos h0, if_pos h1, if_neg h2, if_neg h3]; done) | (rw [if_pos h0, if_pos h1, if_neg h2, if_neg h3]; rfl)))
          · exact And.intro trivial (leafL hk (by unfold fX1_plus; first | (rw [if_pos h0, if_pos h1, if_neg h2, if_pos h3]; done) | (rw [if_pos h0, if_pos h1, if_neg h2, if_pos h3]; rfl)))
      · exact And.intro trivial (leafL hk (by unfold fX1_plus; first | (rw [if_pos h0, if_neg h1]; done) | (rw [if_pos h0, if_neg h1]; rfl)))
  · exact h.elim
def fX1_topOfProduct (a : Int64) (b : Int64) : Int64 :=
  (((((a.toUInt64 >>> ((27 : Int32).toInt64.toUInt64 &&& Int64.toUInt64 63)).toInt64 * (b.toUInt64 >>> ((27 : Int32).toInt64.toUInt64 &&& Int64.toUInt64 63)).toInt64) + (((((a.toUInt64 >>> ((27 : Int32).toInt64.toUInt64 &&& Int64.toUInt64 63)).toInt64 * (b &&& (((1 : Int64) <<< ((27 : Int32).toInt64 &&& 63)) - (1 : Int64)))) + ((a &&& (((1 : Int64) <<< ((27 : Int32).toInt64 &&& 63)) - (1 : Int64))) * (b.toUInt64 >>> ((27 : Int32).toInt64.toUInt64 &&& Int64.toUInt64 63)).toInt64)) + (((a &&& (((1 : Int64) <<< ((27 : Int32).toInt64 &&& 63)) - (1 : Int64))) * (b &&& (((1 : Int64) <<< ((27 : Int32).toInt64 &&& 63)) - (1 : Int64)))).toUInt64 >>> ((27 : Int32).toInt64.toUInt64 &&& Int64.toUInt64 63)).toInt64).toUInt64 >>> ((27 : Int32).toInt64.toUInt64 &&& Int64.toUInt64 63)).toInt64) <<< ((5 : Int32).toInt64 &&& 63)) ||| (fX1_moved (((((((a.toUInt64 >>> ((27 : Int32).toInt64.toUInt64 &&& Int64.toUInt64 63)).toInt64 * (b &&& (((1 : Int64) <<< ((27 : Int32).toInt64 &&& 63)) - (1 : Int64)))) + ((a &&& (((1 : Int64) <<< ((27 : Int32).toInt64 &&& 63)) - (1 : Int64))) * (b.toUInt64 >>> ((27 : Int32).toInt64.toUInt64 &&& Int64.toUInt64 63)).toInt64)) + (((a &&& (((1 : Int64) <<< ((27 : Int32).toInt64 &&& 63)) - (1 : Int64))) * (b &&& (((1 : Int64) <<< ((27 : Int32).toInt64 &&& 63)) - (1 : Int64)))).toUInt64 >>> ((27 : Int32).toInt64.toUInt64 &&& Int64.toUInt64 63)).toInt64) &&& (((1 : Int64) <<< ((27 : Int32).toInt64 &&& 63)) - (1 : Int64))) <<< ((27 : Int32).toInt64 &&& 63)) ||| (((a &&& (((1 : Int64) <<< ((27 : Int32).toInt64 &&& 63)) - (1 : Int64))) * (b &&& (((1 : Int64) <<< ((27 : Int32).toInt64 &&& 63)) - (1 : Int64)))) &&& (((1 : Int64) <<< ((27 : Int32).toInt64 &&& 63)) - (1 : Int64)))) (49 : Int32)))
def tX1_topOfProduct : Tr := fun as σ k => match as with
  | [.long a, .long b] => k (some (.long (fX1_topOfProduct a b))) σ
  | _ => False
def ceX1_topOfProduct : List (Nat × Nat × Tr) := (2 * 61, 2, tX1_moved) :: []
theorem coX1_topOfProduct (l : Launch) : CEok l yX1_topOfProduct.cls 1 ceX1_topOfProduct := ce_S (okX1_moved l) (mw 237 (by decide +kernel) rfl) (mw 238 (by decide +kernel) rfl) (mw 5 (by decide +kernel) rfl) (mw 239 (by decide +kernel) rfl) (by decide) ⟨by decide, by decide⟩ (ce_0)
set_option maxRecDepth 20000 in
theorem okX1_topOfProduct (l : Launch) : OK l yX1_topOfProduct cX1_topOfProduct 23 (some .long) 1 tX1_topOfProduct := by
  intro D τ ρ A as σ post h
  unfold tX1_topOfProduct at h; split at h
  · rename_i a b; have hk := h
    refine met_of (P := pgX1_topOfProduct) (CE := ceX1_topOfProduct) (cut := []) (by decide) kkX1_topOfProduct (coX1_topOfProduct l) (Nat.le_of_ble_eq_true rfl) ?_
    intro G hG; refine hG 120 false 0 _ _ _ ?_
    exact And.intro trivial (leafL hk (by unfold fX1_topOfProduct; rfl))
  · exact h.elim
def fX1_times (a : Int64) (b : Int64) : Int64 :=
  if (fX1_isNone a) = 0 then
    if (fX1_isNone b) = 0 then
      if (fX1_isInfinite a) = 0 then
        if (fX1_isInfinite b) = 0 then
          if (fX1_isZero a) = 0 then
            if (fX1_isZero b) = 0 then
              (fX1_packed ((a ^^^ b) &&& (-9223372036854775808 : Int64)) (((((fX1_scale a) - (fX1_lack (fX1_fraction a))) + (fX1_scale b)) - (fX1_lack (fX1_fraction b))) - (1023 : Int32)) (fX1_topOfProduct ((fX1_fraction a) <<< ((fX1_lack (fX1_fraction a)).toInt64 &&& 63)) ((fX1_fraction b) <<< ((fX1_lack (fX1_fraction b)).toInt64 &&& 63))))
            else
              ((a ^^^ b) &&& (-9223372036854775808 : Int64))
          else
            ((a ^^^ b) &&& (-9223372036854775808 : Int64))
        else
          if (fX1_isZero a) = 0 then
            if (fX1_isZero b) = 0 then
              (((a ^^^ b) &&& (-9223372036854775808 : Int64)) ||| (9218868437227405312 : Int64))
            else
              (9221120237041090560 : Int64)
          else
            (9221120237041090560 : Int64)
      else
        if (fX1_isZero a) = 0 then
          if (fX1_isZero b) = 0 then
            (((a ^^^ b) &&& (-9223372036854775808 : Int64)) ||| (9218868437227405312 : Int64))
          else
            (9221120237041090560 : Int64)
        else
          (9221120237041090560 : Int64)
    else
      (9221120237041090560 : Int64)
  else
    (9221120237041090560 : Int64)
def tX1_times : Tr := fun as σ k => match as with
  | [.long a, .long b] => k (some (.long (fX1_times a b))) σ
  | _ => False
def ceX1_times : List (Nat × Nat × Tr) := (2 * 7, 1, tX1_isNone) :: (2 * 69, 1, tX1_isInfinite) :: (2 * 36, 1, tX1_isZero) :: (2 * 75, 1, tX1_fraction) :: (2 * 82, 1, tX1_lack) :: (2 * 85, 2, tX1_topOfProduct) :: (2 * 72, 1, tX1_scale) :: (2 * 78, 3, tX1_packed) :: []
theorem coX1_times (l : Launch) : CEok l yX1_times.cls 3 ceX1_times := ce_S (okX1_isNone l) (mw 136 (by decide +kernel) rfl) (mw 137 (by decide +kernel) rfl) (mw 5 (by decide +kernel) rfl) (mw 138 (by decide +kernel) rfl) (by decide) ⟨by decide, by decide⟩ (ce_S (okX1_isInfinite l) (mw 226 (by decide +kernel) rfl) (mw 227 (by decide +kernel) rfl) (mw 5 (by decide +kernel) rfl) (mw 228 (by decide +kernel) rfl) (by decide) ⟨by decide, by decide⟩ (ce_S (okX1_isZero l) (mw 264 (by decide +kernel) rfl) (mw 265 (by decide +kernel) rfl) (mw 5 (by decide +kernel) rfl) (mw 266 (by decide +kernel) rfl) (by decide) ⟨by decide, by decide⟩ (ce_S (okX1_fraction l) (mw 232 (by decide +kernel) rfl) (mw 233 (by decide +kernel) rfl) (mw 5 (by decide +kernel) rfl) (mw 234 (by decide +kernel) rfl) (by decide) ⟨by decide, by decide⟩ (ce_S (okX1_lack l) (mw 272 (by decide +kernel) rfl) (mw 273 (by decide +kernel) rfl) (mw 5 (by decide +kernel) rfl) (mw 274 (by decide +kernel) rfl) (by decide) ⟨by decide, by decide⟩ (ce_S (okX1_topOfProduct l) (mw 275 (by decide +kernel) rfl) (mw 276 (by decide +kernel) rfl) (mw 5 (by decide +kernel) rfl) (mw 277 (by decide +kernel) rfl) (by decide) ⟨by decide, by decide⟩ (ce_S (okX1_scale l) (mw 229 (by decide +kernel) rfl) (mw 230 (by decide +kernel) rfl) (mw 5 (by decide +kernel) rfl) (mw 231 (by decide +kernel) rfl) (by decide) ⟨by decide, by decide⟩ (ce_S (okX1_packed l) (mw 240 (by decide +kernel) rfl) (mw 241 (by decide +kernel) rfl) (mw 5 (by decide +kernel) rfl) (mw 242 (by decide +kernel) rfl) (by decide) ⟨by decide, by decide⟩ (ce_0))))))))
set_option maxRecDepth 20000 in
theorem okX1_times (l : Launch) : OK l yX1_times cX1_times 10 (some .long) 3 tX1_times := by
  intro D τ ρ A as σ post h
  unfold tX1_times at h; split at h
  · rename_i a b; have hk := h
    refine met_of (P := pgX1_times) (CE := ceX1_times) (cut := []) (by decide) kkX1_times (coX1_times l) (Nat.le_of_ble_eq_true rfl) ?_
    intro G hG; refine hG 120 false 0 _ _ _ ?_
    refine And.intro (fun (h0 : ¬ (fX1_isNone a) = 0) => ?_) (fun h0q => have h0 : (fX1_isNone a) = 0 := Classical.not_not.mp h0q; ?_)
    · exact And.intro trivial (leafL hk (by unfold fX1_times; first | (rw [if_neg h0]; done) | (rw [if_neg h0]; rfl)))
    · refine And.intro (fun (h1 : (fX1_isNone b) = 0) => ?_) (fun (h1 : ¬ (fX1_isNone b) = 0) => ?_)
      · refine And.intro (fun (h2 : ¬ (fX1_isInfinite a) = 0) => ?_) (fun h2q => have h2 : (fX1_isInfinite a) = 0 := Classical.not_not.mp h2q; ?_)
        · refine And.intro (fun (h3 : ¬ (fX1_isZero a) = 0) => ?_) (fun h3q => have h3 : (fX1_isZero a) = 0 := Classical.not_not.mp h3q; ?_)
          · exact And.intro trivial (leafL hk (by unfold fX1_times; first | (rw [if_pos h0, if_pos h1, if_neg h2, if_neg h3]; done) | (rw [if_pos h0, if_pos h1, if_neg h2, if_neg h3]; rfl)))
          · refine And.intro (fun (h4 : (fX1_isZero b) = 0) => ?_) (fun (h4 : ¬ (fX1_isZero b) = 0) => ?_)
            · exact And.intro trivial (leafL hk (by unfold fX1_times; first | (rw [if_pos h0, if_pos h1, if_neg h2, if_pos h3, if_pos h4]; done) | (rw [if_pos h0, if_pos h1, if_neg h2, if_pos h3, if_pos h4]; rfl)))
            · exact And.intro trivial (leafL hk (by unfold fX1_times; first | (rw [if_pos h0, if_pos h1, if_neg h2, if_pos h3, if_neg h4]; done) | (rw [if_pos h0, if_pos h1, if_neg h2, if_pos h3, if_neg h4]; rfl)))
        · refine And.intro (fun (h3 : (fX1_isInfinite b) = 0) => ?_) (fun (h3 : ¬ (fX1_isInfinite b) = 0) => ?_)
          · refine And.intro (fun (h4 : ¬ (fX1_isZero a) = 0) => ?_) (fun h4q => have h4 : (fX1_isZero a) = 0 := Classical.not_not.mp h4q; ?_)
            · exact And.intro trivial (leafL hk (by unfold fX1_times; first | (rw [if_pos h0, if_pos h1, if_pos h2, if_pos h3, if_neg h4]; done) | (rw [if_pos h0, if_pos h1, if_pos h2, if_pos h3, if_neg h4]; rfl)))
            · refine And.intro (fun (h5 : (fX1_isZero b) = 0) => ?_) (fun (h5 : ¬ (fX1_isZero b) = 0) => ?_)
              · exact And.intro trivial (leafL hk (by unfold fX1_times; first | (rw [if_pos h0, if_pos h1, if_pos h2, if_pos h3, if_pos h4, if_pos h5]; done) | (rw [if_pos h0, if_pos h1, if_pos h2, if_pos h3, if_pos h4, if_pos h5]; rfl)))
              · exact And.intro trivial (leafL hk (by unfold fX1_times; first | (rw [if_pos h0, if_pos h1, if_pos h2, if_pos h3, if_pos h4, if_neg h5]; done) | (rw [if_pos h0, if_pos h1, if_pos h2, if_pos h3, if_pos h4, if_neg h5]; rfl)))
          · refine And.intro (fun (h4 : ¬ (fX1_isZero a) = 0) => ?_) (fun h4q => have h4 : (fX1_isZero a) = 0 := Classical.not_not.mp h4q; ?_)
            · exact And.intro trivial (leafL hk (by unfold fX1_times; first | (rw [if_pos h0, if_pos h1, if_pos h2, if_neg h3, if_neg h4]; done) | (rw [if_pos h0, if_pos h1, if_pos h2, if_neg h3, if_neg h4]; rfl)))
            · refine And.intro (fun (h5 : (fX1_isZero b) = 0) => ?_) (fun (h5 : ¬ (fX1_isZero b) = 0) => ?_)
              · exact And.intro trivial (leafL hk (by unfold fX1_times; first | (rw [if_pos h0, if_pos h1, if_pos h2, if_neg h3, if_pos h4, if_pos h5]; done) | (rw [if_pos h0, if_pos h1, if_pos h2, if_neg h3, if_pos h4, if_pos h5]; rfl)))
              · exact And.intro trivial (leafL hk (by unfold fX1_times; first | (rw [if_pos h0, if_pos h1, if_pos h2, if_neg h3, if_pos h4, if_neg h5]; done) | (rw [if_pos h0, if_pos h1, if_pos h2, if_neg h3, if_pos h4, if_neg h5]; rfl)))
      · exact And.intro trivial (leafL hk (by unfold fX1_times; first | (rw [if_pos h0, if_neg h1]; done) | (rw [if_pos h0, if_neg h1]; rfl)))
  · exact h.elim
def fX1_behindPoint (a : Int32) : Int64 :=
  ((4503599627370495 : Int64).toUInt64 >>> ((a - (1023 : Int32)).toInt64.toUInt64 &&& Int64.toUInt64 63)).toInt64
def tX1_behindPoint : Tr := fun as σ k => match as with
  | [.int a] => k (some (.long (fX1_behindPoint a))) σ
  | _ => False
def ceX1_behindPoint : List (Nat × Nat × Tr) := []
theorem coX1_behindPoint (l : Launch) : CEok l yX1_behindPoint.cls 0 ceX1_behindPoint := ce_0
set_option maxRecDepth 20000 in
theorem okX1_behindPoint (l : Launch) : OK l yX1_behindPoint cX1_behindPoint 1 (some .long) 0 tX1_behindPoint := by
  intro D τ ρ A as σ post h
  unfold tX1_behindPoint at h; split at h
  · rename_i a; have hk := h
    refine met_of (P := pgX1_behindPoint) (CE := ceX1_behindPoint) (cut := []) (by decide) kkX1_behindPoint (coX1_behindPoint l) (Nat.le_of_ble_eq_true rfl) ?_
    intro G hG; refine hG 120 false 0 _ _ _ ?_
    exact And.intro trivial (leafL hk (by unfold fX1_behindPoint; rfl))
  · exact h.elim
def fX1_floor (a : Int64) : Int64 :=
  if (fX1_isZero a) = 0 then
    if (fX1_scale a) < (1075 : Int32) then
      if (1023 : Int32) ≤ (fX1_scale a) then
        if 0 ≤ (lg_cmp a (0 : Int64)) then
          (a &&& ((fX1_behindPoint (fX1_scale a)) ^^^ (-1 : Int64)))
        else
          ((a + (fX1_behindPoint (fX1_scale a))) &&& ((fX1_behindPoint (fX1_scale a)) ^^^ (-1 : Int64)))
      else
        if 0 ≤ (lg_cmp a (0 : Int64)) then
          (0 : Int64)
        else
          (-4616189618054758400 : Int64)
    else
      a
  else
    a
def tX1_floor : Tr := fun as σ k => match as with
  | [.long a] => k (some (.long (fX1_floor a))) σ
  | _ => False
def ceX1_floor : List (Nat × Nat × Tr) := (2 * 72, 1, tX1_scale) :: (2 * 36, 1, tX1_isZero) :: (2 * 99, 1, tX1_behindPoint) :: []
theorem coX1_floor (l : Launch) : CEok l yX1_floor.cls 1 ceX1_floor := ce_S (okX1_scale l) (mw 229 (by decide +kernel) rfl) (mw 230 (by decide +kernel) rfl) (mw 5 (by decide +kernel) rfl) (mw 231 (by decide +kernel) rfl) (by decide) ⟨by decide, by decide⟩ (ce_S (okX1_isZero l) (mw 264 (by decide +kernel) rfl) (mw 265 (by decide +kernel) rfl) (mw 5 (by decide +kernel) rfl) (mw 266 (by decide +kernel) rfl) (by decide) ⟨by decide, by decide⟩ (ce_S (okX1_behindPoint l) (mw 332 (by decide +kernel) rfl) (mw 333 (by decide +kernel) rfl) (mw 5 (by decide +kernel) rfl) (mw 334 (by decide +kernel) rfl) (by decide) ⟨by decide, by decide⟩ (ce_0)))
set_option maxRecDepth 20000 in
theorem okX1_floor (l : Launch) : OK l yX1_floor cX1_floor 7 (some .long) 1 tX1_floor := by
  intro D τ ρ A as σ post h
  unfold tX1_floor at h; split at h
  · rename_i a; have hk := h
    refine met_of (P := pgX1_floor) (CE := ceX1_floor) (cut := []) (by decide) kkX1_floor (coX1_floor l) (Nat.le_of_ble_eq_true rfl) ?_
    intro G hG; refine hG 120 false 0 _ _ _ ?_
    refine And.intro (fun (h0 : ¬ (fX1_isZero a) = 0) => ?_) (fun h0q => have h0 : (fX1_isZero a) = 0 := Classical.not_not.mp h0q; ?_)
    · exact And.intro trivial (leafL hk (by unfold fX1_floor; first | (rw [if_neg h0]; done) | (rw [if_neg h0]; rfl)))
    · refine And.intro (fun (h1 : (fX1_scale a) < (1075 : Int32)) => ?_) (fun (h1 : ¬ (fX1_scale a) < (1075 : Int32)) => ?_)
      · refine And.intro (fun (h2 : (1023 : Int32) ≤ (fX1_scale a)) => ?_) (fun (h2 : ¬ (1023 : Int32) ≤ (fX1_scale a)) => ?_)
        · refine And.intro (fun (h3 : 0 ≤ (lg_cmp a (0 : Int64))) => ?_) (fun (h3 : ¬ 0 ≤ (lg_cmp a (0 : Int64))) => ?_)
          · exact And.intro trivial (leafL hk (by unfold fX1_floor; first | (rw [if_pos h0, if_pos h1, if_pos h2, if_pos h3]; done) | (rw [if_pos h0, if_pos h1, if_pos h2, if_pos h3]; rfl)))
          · exact And.intro trivial (leafL hk (by unfold fX1_floor; first | (rw [if_pos h0, if_pos h1, if_pos h2, if_neg h3]; done) | (rw [if_pos h0, if_pos h1, if_pos h2, if_neg h3]; rfl)))
        · refine And.intro (fun (h3 : 0 ≤ (lg_cmp a (0 : Int64))) => ?_) (fun (h3 : ¬ 0 ≤ (lg_cmp a (0 : Int64))) => ?_)
          · exact And.intro trivial (leafL hk (by unfold fX1_floor; first | (rw [if_pos h0, if_pos h1, if_neg h2, if_pos h3]; done) | (rw [if_pos h0, if_pos h1, if_neg h2, if_pos h3]; rfl)))
          · exact And.intro trivial (leafL hk (by unfold fX1_floor; first | (rw [if_pos h0, if_pos h1, if_neg h2, if_neg h3]; done) | (rw [if_pos h0, if_pos h1, if_neg h2, if_neg h3]; rfl)))
      · exact And.intro trivial (leafL hk (by unfold fX1_floor; first | (rw [if_pos h0, if_neg h1]; done) | (rw [if_pos h0, if_neg h1]; rfl)))
  · exact h.elim
def fX1_throughFloat (a : Int64) : Int64 :=
  if (fX1_isFinite a) = 0 then
    a
  else
    if (fX1_isZero a) = 0 then
      if (fJ9_max_7cf53 (29 : Int32) ((926 : Int32) - (fX1_scale a))) ≤ (53 : Int32) then
        if 0 < (lg_cmp ((fX1_fraction a) &&& ((((1 : Int64) <<< (((fJ9_max_7cf53 (29 : Int32) ((926 : Int32) - (fX1_scale a))) - (1 : Int32)).toInt64 &&& 63)) + ((1 : Int64) <<< (((fJ9_max_7cf53 (29 : Int32) ((926 : Int32) - (fX1_scale a))) - (1 : Int32)).toInt64 &&& 63))) - (1 : Int64))) ((1 : Int64) <<< (((fJ9_max_7cf53 (29 : Int32) ((926 : Int32) - (fX1_scale a))) - (1 : Int32)).toInt64 &&& 63))) then
          if (lg_cmp (((fX1_fraction a) - ((fX1_fraction a) &&& ((((1 : Int64) <<< (((fJ9_max_7cf53 (29 : Int32) ((926 : Int32) - (fX1_scale a))) - (1 : Int32)).toInt64 &&& 63)) + ((1 : Int64) <<< (((fJ9_max_7cf53 (29 : Int32) ((926 : Int32) - (fX1_scale a))) - (1 : Int32)).toInt64 &&& 63))) - (1 : Int64)))) + (((1 : Int64) <<< (((fJ9_max_7cf53 (29 : Int32) ((926 : Int32) - (fX1_scale a))) - (1 : Int32)).toInt64 &&& 63)) + ((1 : Int64) <<< (((fJ9_max_7cf53 (29 : Int32) ((926 : Int32) - (fX1_scale a))) - (1 : Int32)).toInt64 &&& 63)))) (0 : Int64)) = 0 then
            (a &&& (-9223372036854775808 : Int64))
          else
            if (lg_cmp ((((fX1_scale a) - (1 : Int32)).toInt64 <<< ((52 : Int32).toInt64 &&& 63)) + (((fX1_fraction a) - ((fX1_fraction a) &&& ((((1 : Int64) <<< (((fJ9_max_7cf53 (29 : Int32) ((926 : Int32) - (fX1_scale a))) - (1 : Int32)).toInt64 &&& 63)) + ((1 : Int64) <<< (((fJ9_max_7cf53 (29 : Int32) ((926 : Int32) - (fX1_scale a))) - (1 : Int32)).toInt64 &&& 63))) - (1 : Int64)))) + (((1 : Int64) <<< (((fJ9_max_7cf53 (29 : Int32) ((926 : Int32) - (fX1_scale a))) - (1 : Int32)).toInt64 &&& 63)) + ((1 : Int64) <<< (((fJ9_max_7cf53 (29 : Int32) ((926 : Int32) - (fX1_scale a))) - (1 : Int32)).toInt64 &&& 63))))) (5183643171103440896 : Int64)) < 0 then
              ((a &&& (-9223372036854775808 : Int64)) ||| ((((fX1_scale a) - (1 : Int32)).toInt64 <<< ((52 : Int32).toInt64 &&& 63)) + (((fX1_fraction a) - ((fX1_fraction a) &&& ((((1 : Int64) <<< (((fJ9_max_7cf53 (29 : Int32) ((926 : Int32) - (fX1_scale a))) - (1 : Int32)).toInt64 &&& 63)) + ((1 : Int64) <<< (((fJ9_max_7cf53 (29 : Int32) ((926 : Int32) - (fX1_scale a))) - (1 : Int32)).toInt64 &&& 63))) - (1 : Int64)))) + (((1 : Int64) <<< (((fJ9_max_7cf53 (29 : Int32) ((926 : Int32) - (fX1_scale a))) - (1 : Int32)).toInt64 &&& 63)) + ((1 : Int64) <<< (((fJ9_max_7cf53 (29 : Int32) ((926 : Int32) - (fX1_scale a))) - (1 : Int32)).toInt64 &&& 63))))))
            else
              ((a &&& (-9223372036854775808 : Int64)) ||| (9218868437227405312 : Int64))
        else
          if (lg_cmp ((fX1_fraction a) &&& ((((1 : Int64) <<< (((fJ9_max_7cf53 (29 : Int32) ((926 : Int32) - (fX1_scale a))) - (1 : Int32)).toInt64 &&& 63)) + ((1 : Int64) <<< (((fJ9_max_7cf53 (29 : Int32) ((926 : Int32) - (fX1_scale a))) - (1 : Int32)).toInt64 &&& 63))) - (1 : Int64))) ((1 : Int64) <<< (((fJ9_max_7cf53 (29 : Int32) ((926 : Int32) - (fX1_scale a))) - (1 : Int32)).toInt64 &&& 63))) = 0 then
            if (lg_cmp (((fX1_fraction a).toUInt64 >>> ((fJ9_max_7cf53 (29 : Int32) ((926 : Int32) - (fX1_scale a))).toInt64.toUInt64 &&& Int64.toUInt64 63)).toInt64 &&& (1 : Int64)) (0 : Int64)) = 0 then
              if (lg_cmp ((fX1_fraction a) - ((fX1_fraction a) &&& ((((1 : Int64) <<< (((fJ9_max_7cf53 (29 : Int32) ((926 : Int32) - (fX1_scale a))) - (1 : Int32)).toInt64 &&& 63)) + ((1 : Int64) <<< (((fJ9_max_7cf53 (29 : Int32) ((926 : Int32) - (fX1_scale a))) - (1 : Int32)).toInt64 &&& 63))) - (1 : Int64)))) (0 : Int64)) = 0 then
                (a &&& (-9223372036854775808 : Int64))
              else
                if (lg_cmp ((((fX1_scale a) - (1 : Int32)).toInt64 <<< ((52 : Int32).toInt64 &&& 63)) + ((fX1_fraction a) - ((fX1_fraction a) &&& ((((1 : Int64) <<< (((fJ9_max_7cf53 (29 : Int32) ((926 : Int32) - (fX1_scale a))) - (1 : Int32)).toInt64 &&& 63)) + ((1 : Int64) <<< (((fJ9_max_7cf53 (29 : Int32) ((926 : Int32) - (fX1_scale a))) - (1 : Int32)).toInt64 &&& 63))) - (1 : Int64))))) (5183643171103440896 : Int64)) < 0 then
                  ((a &&& (-9223372036854775808 : Int64)) ||| ((((fX1_scale a) - (1 : Int32)).toInt64 <<< ((52 : Int32).toInt64 &&& 63)) + ((fX1_fraction a) - ((fX1_fraction a) &&& ((((1 : Int64) <<< (((fJ9_max_7cf53 (29 : Int32) ((926 : Int32) - (fX1_scale a))) - (1 : Int32)).toInt64 &&& 63)) + ((1 : Int64) <<< (((fJ9_max_7cf53 (29 : Int32) ((926 : Int32) - (fX1_scale a))) - (1 : Int32)).toInt64 &&& 63))) - (1 : Int64))))))
                else
                  ((a &&& (-9223372036854775808 : Int64)) ||| (9218868437227405312 : Int64))
            else
              if (lg_cmp (((fX1_fraction a) - ((fX1_fraction a) &&& ((((1 : Int64) <<< (((fJ9_max_7cf53 (29 : Int32) ((926 : Int32) - (fX1_scale a))) - (1 : Int32)).toInt64 &&& 63)) + ((1 : Int64) <<< (((fJ9_max_7cf53 (29 : Int32) ((926 : Int32) - (fX1_scale a))) - (1 : Int32)).toInt64 &&& 63))) - (1 : Int64)))) + (((1 : Int64) <<< (((fJ9_max_7cf53 (29 : Int32) ((926 : Int32) - (fX1_scale a))) - (1 : Int32)).toInt64 &&& 63)) + ((1 : Int64) <<< (((fJ9_max_7cf53 (29 : Int32) ((926 : Int32) - (fX1_scale a))) - (1 : Int32)).toInt64 &&& 63)))) (0 : Int64)) = 0 then
                (a &&& (-9223372036854775808 : Int64))
              else
                if (lg_cmp ((((fX1_scale a) - (1 : Int32)).toInt64 <<< ((52 : Int32).toInt64 &&& 63)) + (((fX1_fraction a) - ((fX1_fraction a) &&& ((((1 : Int64) <<< (((fJ9_max_7cf53 (29 : Int32) ((926 : Int32) - (fX1_scale a))) - (1 : Int32)).toInt64 &&& 63)) + ((1 : Int64) <<< (((fJ9_max_7cf53 (29 : Int32) ((926 : Int32) - (fX1_scale a))) - (1 : Int32)).toInt64 &&& 63))) - (1 : Int64)))) + (((1 : Int64) <<< (((fJ9_max_7cf53 (29 : Int32) ((926 : Int32) - (fX1_scale a))) - (1 : Int32)).toInt64 &&& 63)) + ((1 : Int64) <<< (((fJ9_max_7cf53 (29 : Int32) ((926 : Int32) - (fX1_scale a))) - (1 : Int32)).toInt64 &&& 63))))) (5183643171103440896 : Int64)) < 0 then
                  ((a &&& (-9223372036854775808 : Int64)) ||| ((((fX1_scale a) - (1 : Int32)).toInt64 <<< ((52 : Int32).toInt64 &&& 63)) + (((fX1_fraction a) - ((fX1_fraction a) &&& ((((1 : Int64) <<< (((fJ9_max_7cf53 (29 : Int32) ((926 : Int32) - (fX1_scale a))) - (1 : Int32)).toInt64 &&& 63)) + ((1 : Int64) <<< (((fJ9_max_7cf53 (29 : Int32) ((926 : Int32) - (fX1_scale a))) - (1 : Int32)).toInt64 &&& 63))) - (1 : Int64)))) + (((1 : Int64) <<< (((fJ9_max_7cf53 (29 : Int32) ((926 : Int32) - (fX1_scale a))) - (1 : Int32)).toInt64 &&& 63)) + ((1 : Int64) <<< (((fJ9_max_7cf53 (29 : Int32) ((926 : Int32) - (fX1_scale a))) - (1 : Int32)).toInt64 &&& 63))))))
                else
                  ((a &&& (-9223372036854775808 : Int64)) ||| (9218868437227405312 : Int64))
          else
            if (lg_cmp ((fX1_fraction a) - ((fX1_fraction a) &&& ((((1 : Int64) <<< (((fJ9_max_7cf53 (29 : Int32) ((926 : Int32) - (fX1_scale a))) - (1 : Int32)).toInt64 &&& 63)) + ((1 : Int64) <<< (((fJ9_max_7cf53 (29 : Int32) ((926 : Int32) - (fX1_scale a))) - (1 : Int32)).toInt64 &&& 63))) - (1 : Int64)))) (0 : Int64)) = 0 then
              (a &&& (-9223372036854775808 : Int64))
            else
              if (lg_cmp ((((fX1_scale a) - (1 : Int32)).toInt64 <<< ((52 : Int32).toInt64 &&& 63)) + ((fX1_fraction a) - ((fX1_fraction a) &&& ((((1 : Int64) <<< (((fJ9_max_7cf53 (29 : Int32) ((926 : Int32) - (fX1_scale a))) - (1 : Int32)).toInt64 &&& 63)) + ((1 : Int64) <<< (((fJ9_max_7cf53 (29 : Int32) ((926 : Int32) - (fX1_scale a))) - (1 : Int32)).toInt64 &&& 63))) - (1 : Int64))))) (5183643171103440896 : Int64)) < 0 then
                ((a &&& (-9223372036854775808 : Int64)) ||| ((((fX1_scale a) - (1 : Int32)).toInt64 <<< ((52 : Int32).toInt64 &&& 63)) + ((fX1_fraction a) - ((fX1_fraction a) &&& ((((1 : Int64) <<< (((fJ9_max_7cf53 (29 : Int32) ((926 : Int32) - (fX1_scale a))) - (1 : Int32)).toInt64 &&& 63)) + ((1 : Int64) <<< (((fJ9_max_7cf53 (29 : Int32) ((926 : Int32) - (fX1_scale a))) - (1 : Int32)).toInt64 &&& 63))) - (1 : Int64))))))
              else
                ((a &&& (-9223372036854775808 : Int64)) ||| (9218868437227405312 : Int64))
      else
        (a &&& (-9223372036854775808 : Int64))
    else
      a
def tX1_throughFloat : Tr := fun as σ k => match as with
  | [.long a] => k (some (.long (fX1_throughFloat a))) σ
  | _ => False
def ceX1_throughFloat : List (Nat × Nat × Tr) := (2 * 103, 1, tX1_isFinite) :: (2 * 36, 1, tX1_isZero) :: (2 * 72, 1, tX1_scale) :: (2 * 55, 2, tJ9_max_7cf53) :: (2 * 75, 1, tX1_fraction) :: []
theorem coX1_throughFloat (l : Launch) : CEok l yX1_throughFloat.cls 1 ceX1_throughFloat := ce_S (okX1_isFinite l) (mw 338 (by decide +kernel) rfl) (mw 129 (by decide +kernel) rfl) (mw 5 (by decide +kernel) rfl) (mw 130 (by decide +kernel) rfl) (by decide) ⟨by decide, by decide⟩ (ce_S (okX1_isZero l) (mw 264 (by decide +kernel) rfl) (mw 265 (by decide +kernel) rfl) (mw 5 (by decide +kernel) rfl) (mw 266 (by decide +kernel) rfl) (by decide) ⟨by decide, by decide⟩ (ce_S (okX1_scale l) (mw 229 (by decide +kernel) rfl) (mw 230 (by decide +kernel) rfl) (mw 5 (by decide +kernel) rfl) (mw 231 (by decide +kernel) rfl) (by decide) ⟨by decide, by decide⟩ (ce_max (mw 250 (by decide +kernel) rfl) (mw 251 (by decide +kernel) rfl) (mw 9 (by decide +kernel) rfl) (mw 252 (by decide +kernel) rfl) (by decide) (ce_S (okX1_fraction l) (mw 232 (by decide +kernel) rfl) (mw 233 (by decide +kernel) rfl) (mw 5 (by decide +kernel) rfl) (mw 234 (by decide +kernel) rfl) (by decide) ⟨by decide, by decide⟩ (ce_0)))))
set_option maxRecDepth 20000 in
theorem okX1_throughFloat (l : Launch) : OK l yX1_throughFloat cX1_throughFloat 14 (some .long) 1 tX1_throughFloat := by
  intro D τ ρ A as σ post h
  unfold tX1_throughFloat at h; split at h
  · rename_i a; have hk := h
    refine met_of (P := pgX1_throughFloat) (CE := ceX1_throughFloat) (cut := []) (by decide) kkX1_throughFloat (coX1_throughFloat l) (Nat.le_of_ble_eq_true rfl) ?_
    intro G hG; refine hG 120 false 0 _ _ _ ?_
    refine And.intro (fun (h0 : (fX1_isFinite a) = 0) => ?_) (fun (h0 : ¬ (fX1_isFinite a) = 0) => ?_)
    · exact And.intro trivial (leafL hk (by unfold fX1_throughFloat; first | (rw [if_pos h0]; done) | (rw [if_pos h0]; rfl)))
    · refine And.intro (fun (h1 : (fX1_isZero a) = 0) => ?_) (fun (h1 : ¬ (fX1_isZero a) = 0) => ?_)
      · refine And.intro (fun (h2 : (fJ9_max_7cf53 (29 : Int32) ((926 : Int32) - (fX1_scale a))) ≤ (53 : Int32)) => ?_) (fun (h2 : ¬ (fJ9_max_7cf53 (29 : Int32) ((926 : Int32) - (fX1_scale a))) ≤ (53 : Int32)) => ?_)
        · refine And.intro (fun (h3 : 0 < (lg_cmp ((fX1_fraction a) &&& ((((1 : Int64) <<< (((fJ9_max_7cf53 (29 : Int32) ((926 : Int32) - (fX1_scale a))) - (1 : Int32)).toInt64 &&& 63)) + ((1 : Int64) <<< (((fJ9_max_7cf53 (29 : Int32) ((926 : Int32) - (fX1_scale a))) - (1 : Int32)).toInt64 &&& 63))) - (1 : Int64))) ((1 : Int64) <<< (((fJ9_max_7cf53 (29 : Int32) ((926 : Int32) - (fX1_scale a))) - (1 : Int32)).toInt64 &&& 63)))) => ?_) (fun (h3 : ¬ 0 < (lg_cmp ((fX1_fraction a) &&& ((((1 : Int64) <<< (((fJ9_max_7cf53 (29 : Int32) ((926 : Int32) - (fX1_scale a))) - (1 : Int32)).toInt64 &&& 63)) + ((1 : Int64) <<< (((fJ9_max_7cf53 (29 : Int32) ((926 : Int32) - (fX1_scale a))) - (1 : Int32)).toInt64 &&& 63))) - (1 : Int64))) ((1 : Int64) <<< (((fJ9_max_7cf53 (29 : Int32) ((926 : Int32) - (fX1_scale a))) - (1 : Int32)).toInt64 &&& 63)))) => ?_)
          · refine And.intro (fun (h4 : ¬ (lg_cmp (((fX1_fraction a) - ((fX1_fraction a) &&& ((((1 : Int64) <<< (((fJ9_max_7cf53 (29 : Int32) ((926 : Int32) - (fX1_scale a))) - (1 : Int32)).toInt64 &&& 63)) + ((1 : Int64) <<< (((fJ9_max_7cf53 (29 : Int32) ((926 : Int32) - (fX1_scale a))) - (1 : Int32)).toInt64 &&& 63))) - (1 : Int64)))) + (((1 : Int64) <<< (((fJ9_max_7cf53 (29 : Int32) ((926 : Int32) - (fX1_scale a))) - (1 : Int32)).toInt64 &&& 63)) + ((1 : Int64) <<< (((fJ9_max_7cf53 (29 : Int32) ((926 : Int32) - (fX1_scale a))) - (1 : Int32)).toInt64 &&& 63)))) (0 : Int64)) = 0) => ?_) (fun h4q => have h4 : (lg_cmp (((fX1_fraction a) - ((fX1_fraction a) &&& ((((1 : Int64) <<< (((fJ9_max_7cf53 (29 : Int32) ((926 : Int32) - (fX1_scale a))) - (1 : Int32)).toInt64 &&& 63)) + ((1 : Int64) <<< (((fJ9_max_7cf53 (29 : Int32) ((926 : Int32) - (fX1_scale a))) - (1 : Int32)).toInt64 &&& 63))) - (1 : Int64)))) + (((1 : Int64) <<< (((fJ9_max_7cf53 (29 : Int32) ((926 : Int32) - (fX1_scale a))) - (1 : Int32)).toInt64 &&& 63)) + ((1 : Int64) <<< (((fJ9_max_7cf53 (29 : Int32) ((926 : Int32) - (fX1_scale a))) - (1 : Int32)).toInt64 &&& 63)))) (0 : Int64)) = 0 := Classical.not_not.mp h4q; ?_)
            · refine And.intro (fun (h5 : (lg_cmp ((((fX1_scale a) - (1 : Int32)).toInt64 <<< ((52 : Int32).toInt64 &&& 63)) + (((fX1_fraction a) - ((fX1_fraction a) &&& ((((1 : Int64) <<< (((fJ9_max_7cf53 (29 : Int32) ((926 : Int32) - (fX1_scale a))) - (1 : Int32)).toInt64 &&& 63)) + ((1 : Int64) <<< (((fJ9_max_7cf53 (29 : Int32) ((926 : Int32) - (fX1_scale a))) - (1 : Int32)).toInt64 &&& 63))) - (1 : Int64)))) + (((1 : Int64) <<< (((fJ9_max_7cf53 (29 : Int32) ((926 : Int32) - (fX1_scale a))) - (1 : Int32)).toInt64 &&& 63)) + ((1 : Int64) <<< (((fJ9_max_7cf53 (29 : Int32) ((926 : Int32) - (fX1_scale a))) - (1 : Int32)).toInt64 &&& 63))))) (5183643171103440896 : Int64)) < 0) => ?_) (fun (h5 : ¬ (lg_cmp ((((fX1_scale a) - (1 : Int32)).toInt64 <<< ((52 : Int32).toInt64 &&& 63)) + (((fX1_fraction a) - ((fX1_fraction a) &&& ((((1 : Int64) <<< (((fJ9_max_7cf53 (29 : Int32) ((926 : Int32) - (fX1_scale a))) - (1 : Int32)).toInt64 &&& 63)) + ((1 : Int64) <<< (((fJ9_max_7cf53 (29 : Int32) ((926 : Int32) - (fX1_scale a))) - (1 : Int32)).toInt64 &&& 63))) - (1 : Int64)))) + (((1 : Int64) <<< (((fJ9_max_7cf53 (29 : Int32) ((926 : Int32) - (fX1_scale a))) - (1 : Int32)).toInt64 &&& 63)) + ((1 : Int64) <<< (((fJ9_max_7cf53 (29 : Int32) ((926 : Int32) - (fX1_scale a))) - (1 : Int32)).toInt64 &&& 63))))) (5183643171103440896 : Int64)) < 0) => ?_)
              · exact And.intro trivial (leafL hk (by unfold fX1_throughFloat; first | (rw [if_neg h0, if_pos h1, if_pos h2, if_pos h3, if_neg h4, if_pos h5]; done) | (rw [if_neg h0, if_pos h1, if_pos h2, if_pos h3, if_neg h4, if_pos h5]; rfl)))
              · exact And.intro trivial (leafL hk (by unfold fX1_throughFloat; first | (rw [if_neg h0, if_pos h1, if_pos h2, if_pos h3, if_neg h4, if_neg h5]; done) | (rw [if_neg h0, if_pos h1, if_pos h2, if_pos h3, if_neg h4, if_neg h5]; rfl)))
            · exact And.intro trivial (leafL hk (by unfold fX1_throughFloat; first | (rw [if_neg h0, if_pos h1, if_pos h2, if_pos h3, if_pos h4]; done) | (rw [if_neg h0, if_pos h1, if_pos h2, if_pos h3, if_pos h4]; rfl)))
          · refine And.intro (fun (h4 : ¬ (lg_cmp ((fX1_fraction a) &&& ((((1 : Int64) <<< (((fJ9_max_7cf53 (29 : Int32) ((926 : Int32) - (fX1_scale a))) - (1 : Int32)).toInt64 &&& 63)) + ((1 : Int64) <<< (((fJ9_max_7cf53 (29 : Int32) ((926 : Int32) - (fX1_scale a))) - (1 : Int32)).toInt64 &&& 63))) - (1 : Int64))) ((1 : Int64) <<< (((fJ9_max_7cf53 (29 : Int32) ((926 : Int32) - (fX1_scale a))) - (1 : Int32)).toInt64 &&& 63))) = 0) => ?_) (fun h4q => have h4 : (lg_cmp ((fX1_fraction a) &&& ((((1 : Int64) <<< (((fJ9_max_7cf53 (29 : Int32) ((926 : Int32) - (fX1_scale a))) - (1 : Int32)).toInt64 &&& 63)) + ((1 : Int64) <<< (((fJ9_max_7cf53 (29 : Int32) ((926 : Int32) - (fX1_scale a))) - (1 : Int32)).toInt64 &&& 63))) - (1 : Int64))) ((1 : Int64) <<< (((fJ9_max_7cf53 (29 : Int32) ((926 : Int32) - (fX1_scale a))) - (1 : Int32)).toInt64 &&& 63))) = 0 := Classical.not_not.mp h4q; ?_)
            · refine And.intro (fun (h5 : ¬ (lg_cmp ((fX1_fraction a) - ((fX1_fraction a) &&& ((((1 : Int64) <<< (((fJ9_max_7cf53 (29 : Int32) ((926 : Int32) - (fX1_scale a))) - (1 : Int32)).toInt64 &&& 63)) + ((1 : Int64) <<< (((fJ9_max_7cf53 (29 : Int32) ((926 : Int32) - (fX1_scale a))) - (1 : Int32)).toInt64 &&& 63))) - (1 : Int64)))) (0 : Int64)) = 0) => ?_) (fun h5q => have h5 : (lg_cmp ((fX1_fraction a) - ((fX1_fraction a) &&& ((((1 : Int64) <<< (((fJ9_max_7cf53 (29 : Int32) ((926 : Int32) - (fX1_scale a))) - (1 : Int32)).toInt64 &&& 63)) + ((1 : Int64) <<< (((fJ9_max_7cf53 (29 : Int32) ((926 : Int32) - (fX1_scale a))) - (1 : Int32)).toInt64 &&& 63))) - (1 : Int64)))) (0 : Int64)) = 0 := Classical.not_not.mp h5q; ?_)
              · refine And.intro (fun (h6 : (lg_cmp ((((fX1_scale a) - (1 : Int32)).toInt64 <<< ((52 : Int32).toInt64 &&& 63)) + ((fX1_fraction a) - ((fX1_fraction a) &&& ((((1 : Int64) <<< (((fJ9_max_7cf53 (29 : Int32) ((926 : Int32) - (fX1_scale a))) - (1 : Int32)).toInt64 &&& 63)) + ((1 : Int64) <<< (((fJ9_max_7cf53 (29 : Int32) ((926 : Int32) - (fX1_scale a))) - (1 : Int32)).toInt64 &&& 63))) - (1 : Int64))))) (5183643171103440896 : Int64)) < 0) => ?_) (fun (h6 : ¬ (lg_cmp ((((fX1_scale a) - (1 : Int32)).toInt64 <<< ((52 : Int32).toInt64 &&& 63)) + ((fX1_fraction a) - ((fX1_fraction a) &&& ((((1 : Int64) <<< (((fJ9_max_7cf53 (29 : Int32) ((926 : Int32) - (fX1_scale a))) - (1 : Int32)).toInt64 &&& 63)) + ((1 : Int64) <<< (((fJ9_max_7cf53 (29 : Int32) ((926 : Int32) - (fX1_scale a))) - (1 : Int32)).toInt64 &&& 63))) - (1 : Int64))))) (5183643171103440896 : Int64)) < 0) => ?_)
                · exact And.intro trivial (leafL hk (by unfold fX1_throughFloat; first | (rw [if_neg h0, if_pos h1, if_pos h2, if_neg h3, if_neg h4, if_neg h5, if_pos h6]; done) | (rw [if_neg h0, if_pos h1, if_pos h2, if_neg h3, if_neg h4, if_neg h5, if_pos h6]; rfl)))
                · exact And.intro trivial (leafL hk (by unfold fX1_throughFloat; first | (rw [if_neg h0, if_pos h1, if_pos h2, if_neg h3, if_neg h4, if_neg h5, if_neg h6]; done) | (rw [if_neg h0, if_pos h1, if_pos h2, if_neg h3, if_neg h4, if_neg h5, if_neg h6]; rfl)))
              · exact And.intro trivial (leafL hk (by unfold fX1_throughFloat; first | (rw [if_neg h0, if_pos h1, if_pos h2, if_neg h3, if_neg h4, if_pos h5]; done) | (rw [if_neg h0, if_pos h1, if_pos h2, if_neg h3, if_neg h4, if_pos h5]; rfl)))
            · refine And.intro (fun (h5 : (lg_cmp (((fX1_fraction a).toUInt64 >>> ((fJ9_max_7cf53 (29 : Int32) ((926 : Int32) - (fX1_scale a))).toInt64.toUInt64 &&& Int64.toUInt64 63)).toInt64 &&& (1 : Int64)) (0 : Int64)) = 0) => ?_) (fun (h5 : ¬ (lg_cmp (((fX1_fraction a).toUInt64 >>> ((fJ9_max_7cf53 (29 : Int32) ((926 : Int32) - (fX1_scale a))).toInt64.toUInt64 &&& Int64.toUInt64 63)).toInt64 &&& (1 : Int64)) (0 : Int64)) = 0) => ?_)
              · refine And.intro (fun (h6 : ¬ (lg_cmp ((fX1_fraction a) - ((fX1_fraction a) &&& ((((1 : Int64) <<< (((fJ9_max_7cf53 (29 : Int32) ((926 : Int32) - (fX1_scale a))) - (1 : Int32)).toInt64 &&& 63)) + ((1 : Int64) <<< (((fJ9_max_7cf53 (29 : Int32) ((926 : Int32) - (fX1_scale a))) - (1 : Int32)).toInt64 &&& 63))) - (1 : Int64)))) (0 : Int64)) = 0) => ?_) (fun h6q => have h6 : (lg_cmp ((fX1_fraction a) - ((fX1_fraction a) &&& ((((1 : Int64) <<< (((fJ9_max_7cf53 (29 : Int32) ((926 : Int32) - (fX1_scale a))) - (1 : Int32)).toInt64 &&& 63)) + ((1 : Int64) <<< (((fJ9_max_7cf53 (29 : Int32) ((926 : Int32) - (fX1_scale a))) - (1 : Int32)).toInt64 &&& 63))) - (1 : Int64)))) (0 : Int64)) = 0 := Classical.not_not.mp h6q; ?_)
                · refine And.intro (fun (h7 : (lg_cmp ((((fX1_scale a) - (1 : Int32)).toInt64 <<< ((52 : Int32).toInt64 &&& 63)) + ((fX1_fraction a) - ((fX1_fraction a) &&& ((((1 : Int64) <<< (((fJ9_max_7cf53 (29 : Int32) ((926 : Int32) - (fX1_scale a))) - (1 : Int32)).toInt64 &&& 63)) + ((1 : Int64) <<< (((fJ9_max_7cf53 (29 : Int32) ((926 : Int32) - (fX1_scale a))) - (1 : Int32)).toInt64 &&& 63))) - (1 : Int64))))) (5183643171103440896 : Int64)) < 0) => ?_) (fun (h7 : ¬ (lg_cmp ((((fX1_scale a) - (1 : Int32)).toInt64 <<< ((52 : Int32).toInt64 &&& 63)) + ((fX1_fraction a) - ((fX1_fraction a) &&& ((((1 : Int64) <<< (((fJ9_max_7cf53 (29 : Int32) ((926 : Int32) - (fX1_scale a))) - (1 : Int32)).toInt64 &&& 63)) + ((1 : Int64) <<< (((fJ9_max_7cf53 (29 : Int32) ((926 : Int32) - (fX1_scale a))) - (1 : Int32)).toInt64 &&& 63))) - (1 : Int64))))) (5183643171103440896 : Int64)) < 0) => ?_)
                  · exact And.intro trivial (leafL hk (by unfold fX1_throughFloat; first | (rw [if_neg h0, if_pos h1, if_pos h2, if_neg h3, if_pos h4, if_pos h5, if_neg h6, if_pos h7]; done) | (rw [if_neg h0, if_pos h1, if_pos h2, if_neg h3, if_pos h4, if_pos h5, if_neg h6, if_pos h7]; rfl)))
                  · exact And.intro trivial (leafL hk (by unfold fX1_throughFloat; first | (rw [if_neg h0, if_pos h1, if_pos h2, if_neg h3, if_pos h4, if_pos h5, if_neg h6, if_neg h7]; done) | (rw [if_neg h0, if_pos h1, if_pos h2, if_neg h3, if_pos h4, if_pos h5, if_neg h6, if_neg h7]; rfl)))
                · exact And.intro trivial (leafL hk (by unfold fX1_throughFloat; first | (rw [if_neg h0, if_pos h1, if_pos h2, if_neg h3, if_pos h4, if_pos h5, if_pos h6]; done) | (rw [if_neg h0, if_pos h1, if_pos h2, if_neg h3, if_pos h4, if_pos h5, if_pos h6]; rfl)))
              · refine And.intro (fun (h6 : ¬ (lg_cmp (((fX1_fraction a) - ((fX1_fraction a) &&& ((((1 : Int64) <<< (((fJ9_max_7cf53 (29 : Int32) ((926 : Int32) - (fX1_scale a))) - (1 : Int32)).toInt64 &&& 63)) + ((1 : Int64) <<< (((fJ9_max_7cf53 (29 : Int32) ((926 : Int32) - (fX1_scale a))) - (1 : Int32)).toInt64 &&& 63))) - (1 : Int64)))) + (((1 : Int64) <<< (((fJ9_max_7cf53 (29 : Int32) ((926 : Int32) - (fX1_scale a))) - (1 : Int32)).toInt64 &&& 63)) + ((1 : Int64) <<< (((fJ9_max_7cf53 (29 : Int32) ((926 : Int32) - (fX1_scale a))) - (1 : Int32)).toInt64 &&& 63)))) (0 : Int64)) = 0) => ?_) (fun h6q => have h6 : (lg_cmp (((fX1_fraction a) - ((fX1_fraction a) &&& ((((1 : Int64) <<< (((fJ9_max_7cf53 (29 : Int32) ((926 : Int32) - (fX1_scale a))) - (1 : Int32)).toInt64 &&& 63)) + ((1 : Int64) <<< (((fJ9_max_7cf53 (29 : Int32) ((926 : Int32) - (fX1_scale a))) - (1 : Int32)).toInt64 &&& 63))) - (1 : Int64)))) + (((1 : Int64) <<< (((fJ9_max_7cf53 (29 : Int32) ((926 : Int32) - (fX1_scale a))) - (1 : Int32)).toInt64 &&& 63)) + ((1 : Int64) <<< (((fJ9_max_7cf53 (29 : Int32) ((926 : Int32) - (fX1_scale a))) - (1 : Int32)).toInt64 &&& 63)))) (0 : Int64)) = 0 := Classical.not_not.mp h6q; ?_)
                · refine And.intro (fun (h7 : (lg_cmp ((((fX1_scale a) - (1 : Int32)).toInt64 <<< ((52 : Int32).toInt64 &&& 63)) + (((fX1_fraction a) - ((fX1_fraction a) &&& ((((1 : Int64) <<< (((fJ9_max_7cf53 (29 : Int32) ((926 : Int32) - (fX1_scale a))) - (1 : Int32)).toInt64 &&& 63)) + ((1 : Int64) <<< (((fJ9_max_7cf53 (29 : Int32) ((926 : Int32) - (fX1_scale a))) - (1 : Int32)).toInt64 &&& 63))) - (1 : Int64)))) + (((1 : Int64) <<< (((fJ9_max_7cf53 (29 : Int32) ((926 : Int32) - (fX1_scale a))) - (1 : Int32)).toInt64 &&& 63)) + ((1 : Int64) <<< (((fJ9_max_7cf53 (29 : Int32) ((926 : Int32) - (fX1_scale a))) - (1 : Int32)).toInt64 &&& 63))))) (5183643171103440896 : Int64)) < 0) => ?_) (fun (h7 : ¬ (lg_cmp ((((fX1_scale a) - (1 : Int32)).toInt64 <<< ((52 : Int32).toInt64 &&& 63)) + (((fX1_fraction a) - ((fX1_fraction a) &&& ((((1 : Int64) <<< (((fJ9_max_7cf53 (29 : Int32) ((926 : Int32) - (fX1_scale a))) - (1 : Int32)).toInt64 &&& 63)) + ((1 : Int64) <<< (((fJ9_max_7cf53 (29 : Int32) ((926 : Int32) - (fX1_scale a))) - (1 : Int32)).toInt64 &&& 63))) - (1 : Int64)))) + (((1 : Int64) <<< (((fJ9_max_7cf53 (29 : Int32) ((926 : Int32) - (fX1_scale a))) - (1 : Int32)).toInt64 &&& 63)) + ((1 : Int64) <<< (((fJ9_max_7cf53 (29 : Int32) ((926 : Int32) - (fX1_scale a))) - (1 : Int32)).toInt64 &&& 63))))) (5183643171103440896 : Int64)) < 0) => ?_)
                  · exact And.intro trivial (leafL hk (by unfold fX1_throughFloat; first | (rw [if_neg h0, if_pos h1, if_pos h2, if_neg h3, if_pos h4, if_neg h5, if_neg h6, if_pos h7]; done) | (rw [if_neg h0, if_pos h1, if_pos h2, if_neg h3, if_pos h4, if_neg h5, if_neg h6, if_pos h7]; rfl)))
                  · exact And.intro trivial (leafL hk (by unfold fX1_throughFloat; first | (rw [if_neg h0, if_pos h1, if_pos h2, if_neg h3, if_pos h4, if_neg h5, if_neg h6, if_neg h7]; done) | (rw [if_neg h0, if_pos h1, if_pos h2, if_neg h3, if_pos h4, if_neg h5, if_neg h6, if_neg h7]; rfl)))
                · exact And.intro trivial (leafL hk (by unfold fX1_throughFloat; first | (rw [if_neg h0, if_pos h1, if_pos h2, if_neg h3, if_pos h4, if_neg h5, if_pos h6]; done) | (rw [if_neg h0, if_pos h1, if_pos h2, if_neg h3, if_pos h4, if_neg h5, if_pos h6]; rfl)))
        · exact And.intro trivial (leafL hk (by unfold fX1_throughFloat; first | (rw [if_neg h0, if_pos h1, if_neg h2]; done) | (rw [if_neg h0, if_pos h1, if_neg h2]; rfl)))
      · exact And.intro trivial (leafL hk (by unfold fX1_throughFloat; first | (rw [if_neg h0, if_neg h1]; done) | (rw [if_neg h0, if_neg h1]; rfl)))
  · exact h.elim
def fX1_cut (a : Int64) (b : Int64) (c : Int64) : Int64 :=
  if (fX1_isNone a) = 0 then
    if (1023 : Int32) ≤ (fX1_scale a) then
      if (fX1_isBelow a c) = 0 then
        c
      else
        if (fX1_isBelow b a) = 0 then
          b
        else
          if (fX1_scale a) < (1075 : Int32) then
            (a &&& ((fX1_behindPoint (fX1_scale a)) ^^^ (-1 : Int64)))
          else
            a
    else
      (0 : Int64)
  else
    (0 : Int64)
def tX1_cut : Tr := fun as σ k => match as with
  | [.long a, .long b, .long c] => k (some (.long (fX1_cut a b c))) σ
  | _ => False
def ceX1_cut : List (Nat × Nat × Tr) := (2 * 7, 1, tX1_isNone) :: (2 * 72, 1, tX1_scale) :: (2 * 30, 2, tX1_isBelow) :: (2 * 99, 1, tX1_behindPoint) :: []
theorem coX1_cut (l : Launch) : CEok l yX1_cut.cls 2 ceX1_cut := ce_S (okX1_isNone l) (mw 136 (by decide +kernel) rfl) (mw 137 (by decide +kernel) rfl) (mw 5 (by decide +kernel) rfl) (mw 138 (by decide +kernel) rfl) (by decide) ⟨by decide, by decide⟩ (ce_S (okX1_scale l) (mw 229 (by decide +kernel) rfl) (mw 230 (by decide +kernel) rfl) (mw 5 (by decide +kernel) rfl) (mw 231 (by decide +kernel) rfl) (by decide) ⟨by decide, by decide⟩ (ce_S (okX1_isBelow l) (mw 317 (by decide +kernel) rfl) (mw 134 (by decide +kernel) rfl) (mw 5 (by decide +kernel) rfl) (mw 135 (by decide +kernel) rfl) (by decide) ⟨by decide, by decide⟩ (ce_S (okX1_behindPoint l) (mw 332 (by decide +kernel) rfl) (mw 333 (by decide +kernel) rfl) (mw 5 (by decide +kernel) rfl) (mw 334 (by decide +kernel) rfl) (by decide) ⟨by decide, by decide⟩ (ce_0))))
set_option maxRecDepth 20000 in
theorem okX1_cut (l : Launch) : OK l yX1_cut cX1_cut 6 (some .long) 2 tX1_cut := by
  intro D τ ρ A as σ post h
  unfold tX1_cut at h; split at h
  · rename_i a b c; have hk := h
    refine met_of (P := pgX1_cut) (CE := ceX1_cut) (cut := []) (by decide) kkX1_cut (coX1_cut l) (Nat.le_of_ble_eq_true rfl) ?_
    intro G hG; refine hG 120 false 0 _ _ _ ?_
    refine And.intro (fun (h0 : ¬ (fX1_isNone a) = 0) => ?_) (fun h0q => have h0 : (fX1_isNone a) = 0 := Classical.not_not.mp h0q; ?_)
    · exact And.intro trivial (leafL hk (by unfold fX1_cut; first | (rw [if_neg h0]; done) | (rw [if_neg h0]; rfl)))
    · refine And.intro (fun (h1 : (1023 : Int32) ≤ (fX1_scale a)) => ?_) (fun (h1 : ¬ (1023 : Int32) ≤ (fX1_scale a)) => ?_)
      · refine And.intro (fun (h2 : ¬ (fX1_isBelow a c) = 0) => ?_) (fun h2q => have h2 : (fX1_isBelow a c) = 0 := Classical.not_not.mp h2q; ?_)
        · refine And.intro (fun (h3 : ¬ (fX1_isBelow b a) = 0) => ?_) (fun h3q => have h3 : (fX1_isBelow b a) = 0 := Classical.not_not.mp h3q; ?_)
          · refine And.intro (fun (h4 : (fX1_scale a) < (1075 : Int32)) => ?_) (fun (h4 : ¬ (fX1_scale a) < (1075 : Int32)) => ?_)
            · exact And.intro trivial (leafL hk (by unfold fX1_cut; first | (rw [if_pos h0, if_pos h1, if_neg h2, if_neg h3, if_pos h4]; done) | (rw [if_pos h0, if_pos h1, if_neg h2, if_neg h3, if_pos h4]; rfl)))
            · exact And.intro trivial (leafL hk (by unfold fX1_cut; first | (rw [if_pos h0, if_pos h1, if_neg h2, if_neg h3, if_neg h4]; done) | (rw [if_pos h0, if_pos h1, if_neg h2, if_neg h3, if_neg h4]; rfl)))
          · exact And.intro trivial (leafL hk (by unfold fX1_cut; first | (rw [if_pos h0, if_pos h1, if_neg h2, if_pos h3]; done) | (rw [if_pos h0, if_pos h1, if_neg h2, if_pos h3]; rfl)))
        · exact And.intro trivial (leafL hk (by unfold fX1_cut; first | (rw [if_pos h0, if_pos h1, if_pos h2]; done) | (rw [if_pos h0, if_pos h1, if_pos h2]; rfl)))
      · exact And.intro trivial (leafL hk (by unfold fX1_cut; first | (rw [if_pos h0, if_neg h1]; done) | (rw [if_pos h0, if_neg h1]; rfl)))
  · exact h.elim
def fX1_lowTimes (a : Int64) (b : Int64) : Int64 :=
  (fX1_zeroIfLess (fX1_down (fX1_times a (fX1_zeroIfLess b))))
def tX1_lowTimes : Tr := fun as σ k => match as with
  | [.long a, .long b] => k (some (.long (fX1_lowTimes a b))) σ
  | _ => False
def ceX1_lowTimes : List (Nat × Nat × Tr) := (2 * 108, 1, tX1_zeroIfLess) :: (2 * 111, 2, tX1_times) :: (2 * 114, 1, tX1_down) :: []
theorem coX1_lowTimes (l : Launch) : CEok l yX1_lowTimes.cls 4 ceX1_lowTimes := ce_S (okX1_zeroIfLess l) (mw 382 (by decide +kernel) rfl) (mw 315 (by decide +kernel) rfl) (mw 5 (by decide +kernel) rfl) (mw 316 (by decide +kernel) rfl) (by decide) ⟨by decide, by decide⟩ (ce_S (okX1_times l) (mw 383 (by decide +kernel) rfl) (mw 270 (by decide +kernel) rfl) (mw 5 (by decide +kernel) rfl) (mw 271 (by decide +kernel) rfl) (by decide) ⟨by decide, by decide⟩ (ce_S (okX1_down l) (mw 384 (by decide +kernel) rfl) (mw 256 (by decide +kernel) rfl) (mw 5 (by decide +kernel) rfl) (mw 257 (by decide +kernel) rfl) (by decide) ⟨by decide, by decide⟩ (ce_0)))
set_option maxRecDepth 20000 in
theorem okX1_lowTimes (l : Launch) : OK l yX1_lowTimes cX1_lowTimes 4 (some .long) 4 tX1_lowTimes := by
  intro D τ ρ A as σ post h
  unfold tX1_lowTimes at h; split at h
  · rename_i a b; have hk := h
    refine met_of (P := pgX1_lowTimes) (CE := ceX1_lowTimes) (cut := []) (by decide) kkX1_lowTimes (coX1_lowTimes l) (Nat.le_of_ble_eq_true rfl) ?_
    intro G hG; refine hG 120 false 0 _ _ _ ?_
    exact And.intro trivial (leafL hk (by unfold fX1_lowTimes; rfl))
  · exact h.elim
def fX1_highTimes (a : Int64) (b : Int64) : Int64 :=
  if (fX1_isNone (fX1_up (fX1_times a (fX1_zeroIfLess b)))) = 0 then
    (fX1_up (fX1_times a (fX1_zeroIfLess b)))
  else
    (9218868437227405312 : Int64)
def tX1_highTimes : Tr := fun as σ k => match as with
  | [.long a, .long b] => k (some (.long (fX1_highTimes a b))) σ
  | _ => False
def ceX1_highTimes : List (Nat × Nat × Tr) := (2 * 108, 1, tX1_zeroIfLess) :: (2 * 111, 2, tX1_times) :: (2 * 42, 1, tX1_up) :: (2 * 7, 1, tX1_isNone) :: []
theorem coX1_highTimes (l : Launch) : CEok l yX1_highTimes.cls 4 ceX1_highTimes := ce_S (okX1_zeroIfLess l) (mw 382 (by decide +kernel) rfl) (mw 315 (by decide +kernel) rfl) (mw 5 (by decide +kernel) rfl) (mw 316 (by decide +kernel) rfl) (by decide) ⟨by decide, by decide⟩ (ce_S (okX1_times l) (mw 383 (by decide +kernel) rfl) (mw 270 (by decide +kernel) rfl) (mw 5 (by decide +kernel) rfl) (mw 271 (by decide +kernel) rfl) (by decide) ⟨by decide, by decide⟩ (ce_S (okX1_up l) (mw 261 (by decide +kernel) rfl) (mw 262 (by decide +kernel) rfl) (mw 5 (by decide +kernel) rfl) (mw 263 (by decide +kernel) rfl) (by decide) ⟨by decide, by decide⟩ (ce_S (okX1_isNone l) (mw 136 (by decide +kernel) rfl) (mw 137 (by decide +kernel) rfl) (mw 5 (by decide +kernel) rfl) (mw 138 (by decide +kernel) rfl) (by decide) ⟨by decide, by decide⟩ (ce_0))))
set_option maxRecDepth 20000 in
theorem okX1_highTimes (l : Launch) : OK l yX1_highTimes cX1_highTimes 6 (some .long) 4 tX1_highTimes := by
  intro D τ ρ A as σ post h
  unfold tX1_highTimes at h; split at h
  · rename_i a b; have hk := h
    refine met_of (P := pgX1_highTimes) (CE := ceX1_highTimes) (cut := []) (by decide) kkX1_highTimes (coX1_highTimes l) (Nat.le_of_ble_eq_true rfl) ?_
    intro G hG; refine hG 120 false 0 _ _ _ ?_
    refine And.intro (fun (h0 : (fX1_isNone (fX1_up (fX1_times a (fX1_zeroIfLess b)))) = 0) => ?_) (fun (h0 : ¬ (fX1_isNone (fX1_up (fX1_times a (fX1_zeroIfLess b)))) = 0) => ?_)
    · exact And.intro trivial (leafL hk (by unfold fX1_highTimes; first | (rw [if_pos h0]; done) | (rw [if_pos h0]; rfl)))
    · exact And.intro trivial (leafL hk (by unfold fX1_highTimes; first | (rw [if_neg h0]; done) | (rw [if_neg h0]; rfl)))
  · exact h.elim
