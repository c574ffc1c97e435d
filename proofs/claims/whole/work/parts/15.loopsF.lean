def bX0_withParts_0 (c : CS) (a : Int32) (kr : Int32 → CS → Prop) (kc9 : Int32 → Int32 → CS → Prop) : Prop :=
  kc9 a ((c.1 2) - (1 : Int32)) c
def bX0_withParts_9 (c : CS) (l2 : Int32) (l3 : Int32) (kr : Int32 → CS → Prop) (kc9 : Int32 → Int32 → CS → Prop) : Prop :=
  (if l3 < 0 then
    kr l2 c
  else
    (if ((l2.toUInt32 >>> (l3.toUInt32 &&& Int32.toUInt32 31)).toInt32 &&& (1 : Int32)) = 0 then
      kc9 l2 (l3 + (-1 : Int32)) c
    else
      (vp_in l3 32 ∧ (if (fX0_hasFirst (c.2.1 6 l3.toNatClampNeg)) = 0 then
        kc9 l2 (l3 + (-1 : Int32)) c
      else
        (vp_in l3 32 ∧ (vp_in l3 32 ∧ (if (fX0_hasSecond (c.2.1 6 l3.toNatClampNeg)) = 0 then
          kc9 (l2 ||| ((1 : Int32) <<< ((c.2.1 7 l3.toNatClampNeg) &&& 31))) (l3 + (-1 : Int32)) c
        else
          (vp_in l3 32 ∧ kc9 ((l2 ||| ((1 : Int32) <<< ((c.2.1 7 l3.toNatClampNeg) &&& 31))) ||| ((1 : Int32) <<< ((c.2.1 8 l3.toNatClampNeg) &&& 31))) (l3 + (-1 : Int32)) c))))))))
def ceX0_withParts : List (Nat × Nat × Tr) := (2 * 38, 1, tX0_hasFirst) :: (2 * 45, 1, tX0_hasSecond) :: []
theorem coX0_withParts (l : Launch) : CEok l yX0_withParts.cls 1 ceX0_withParts := ce_S (okX0_hasFirst l) (mw 162 (by decide +kernel) rfl) (mw 163 (by decide +kernel) rfl) (mw 2 (by decide +kernel) rfl) (mw 164 (by decide +kernel) rfl) (by decide) ⟨by decide, by decide⟩ (ce_S (okX0_hasSecond l) (mw 169 (by decide +kernel) rfl) (mw 170 (by decide +kernel) rfl) (mw 2 (by decide +kernel) rfl) (mw 171 (by decide +kernel) rfl) (by decide) ⟨by decide, by decide⟩ (ce_0))
abbrev cutX0_withParts : List (Nat × List Nat) := [(9, [0, 2, 3])]
set_option maxRecDepth 20000 in
set_option maxHeartbeats 4000000 in
theorem lbX0_withParts_0 {G : Nat → LV → List Value → aS → Prop} {post : Option Value → aS → Prop} (hG : ∀ n b pc lv st σ, seg (0, fun _ => 0) pgX0_withParts ceX0_withParts cutX0_withParts G (fun v σ => rFit (some .int) v ∧ post v σ) n b pc lv st σ → G pc lv st σ) (c : CS) (M : aS) (a : Int32) (hb : bX0_withParts_0 c a (fun x X => rFit (some .int) (some (.int x)) ∧ post (some (.int x)) (wC X ++ M)) (fun z2 z3 X => G 9 [(0, .ref 3), (2, .int z2), (3, .int z3)] [] (wC X ++ M))) : G 0 [(0, .ref 3), (1, .int a)] [] (wC c ++ M) := by
  unfold bX0_withParts_0 at hb
  refine hG 400 false 0 _ _ _ ?_
  exact hb
set_option maxRecDepth 20000 in
set_option maxHeartbeats 4000000 in
theorem lbX0_withParts_9 {G : Nat → LV → List Value → aS → Prop} {post : Option Value → aS → Prop} (hG : ∀ n b pc lv st σ, seg (0, fun _ => 0) pgX0_withParts ceX0_withParts cutX0_withParts G (fun v σ => rFit (some .int) v ∧ post v σ) n b pc lv st σ → G pc lv st σ) (c : CS) (M : aS) (l2 : Int32) (l3 : Int32) (hb : bX0_withParts_9 c l2 l3 (fun x X => rFit (some .int) (some (.int x)) ∧ post (some (.int x)) (wC X ++ M)) (fun z2 z3 X => G 9 [(0, .ref 3), (2, .int z2), (3, .int z3)] [] (wC X ++ M))) : G 9 [(0, .ref 3), (2, .int l2), (3, .int l3)] [] (wC c ++ M) := by
  unfold bX0_withParts_9 at hb
  refine hG 400 false 9 _ _ _ ?_
  refine And.intro (fun (h : l3 < 0) => ?_) (fun (h : ¬ l3 < 0) => ?_)
  · rw [if_pos h] at hb
    exact hb
  · rw [if_neg h] at hb
    refine And.intro (fun (h : ((l2.toUInt32 >>> (l3.toUInt32 &&& Int32.toUInt32 31)).toInt32 &&& (1 : Int32)) = 0) => ?_) (fun (h : ¬ ((l2.toUInt32 >>> (l3.toUInt32 &&& Int32.toUInt32 31)).toInt32 &&& (1 : Int32)) = 0) => ?_)
    · rw [if_pos h] at hb
      exact hb
    · rw [if_neg h] at hb
      obtain ⟨hi, hb⟩ := hb
      refine And.intro hi ?_
      refine And.intro (fun (h : (fX0_hasFirst (c.2.1 6 l3.toNatClampNeg)) = 0) => ?_) (fun (h : ¬ (fX0_hasFirst (c.2.1 6 l3.toNatClampNeg)) = 0) => ?_)
      · rw [if_pos h] at hb
        exact hb
      · rw [if_neg h] at hb
        obtain ⟨hi, hb⟩ := hb
        refine And.intro hi ?_
        obtain ⟨hi, hb⟩ := hb
        refine And.intro hi ?_
        refine And.intro (fun (h : (fX0_hasSecond (c.2.1 6 l3.toNatClampNeg)) = 0) => ?_) (fun (h : ¬ (fX0_hasSecond (c.2.1 6 l3.toNatClampNeg)) = 0) => ?_)
        · rw [if_pos h] at hb
          exact hb
        · rw [if_neg h] at hb
          obtain ⟨hi, hb⟩ := hb
          refine And.intro hi ?_
          exact hb
