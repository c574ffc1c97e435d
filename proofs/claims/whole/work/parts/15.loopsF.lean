def bX0_withParts_0 (c : CS) (a : Int32) (kr : Int32 → CS → Prop) (kc9 : Int32 → Int32 → CS → Prop) : Prop :=
  kc9 a ((c.1 2) - (1 : Int32)) c
def bX0_withParts_9 (c : CS) (l2 : Int32) (l3 : Int32) (kr : Int32 → CS → Prop) (kc9 : Int32 → Int32 → CS → Prop) : Prop :=
  (if l3 < 0 then
    kr l2 c
  else
    (if ((l2.toUInt32 >>> (l3.toUInt32 &&& Int32.toUInt32 31)).toInt32 &&& (1 : Int32)) = 0 then
      kc9 l2 (l3 + (-1 : Int32)) c
    else
      (vp_in l3 32 ∧ (if (fX0_hasFirst (c.2.1 6 l3.toNatClampNeg)) = 0 then
        kc9 l2 (l3 + (-1 : Int32)) c
      else
        (vp_in l3 32 ∧ (vp_in l3 32 ∧ (if (fX0_hasSecond (c.2.1 6 l3.toNatClampNeg)) = 0 then
          kc9 (l2 ||| ((1 : Int32) <<< ((c.2.1 7 l3.toNatClampNeg) &&& 31))) (l3 + (-1 : Int32)) c
        else
          (vp_in l3 32 ∧ kc9 ((l2 ||| ((1 : Int32) <<< ((c.2.1 7 l3.toNatClampNeg) &&& 31))) ||| ((1 : Int32) <<< ((c.2.1 8 l3.toNatClampNeg) &&& 31))) (l3 + (-1 : Int32)) c))))))))
def ceX0_withParts : List (Nat × Nat × Tr) := (2 * 38, 1, tX0_hasFirst) :: (2 * 45, 1, tX0_hasSecond) :: []
theorem coX0_withParts (l : Launch) : CEok l yX0_withParts.cls 1 ceX0_withParts := ce_S (okX0_hasFirst l) (mw 162 (by decide +kernel) rfl) (mw 163 (by decide +kernel) rfl) (mw 2 (by decide +kernel) rfl) (mw 164 (by decide +kernel) rfl) (by decide) ⟨by decide, by decide⟩ (ce_S (okX0_hasSecond l) (mw 169 (by decide +kernel) rfl) (mw 170 (by decide +kernel) rfl) (mw 2 (by decide +kernel) rfl) (mw 171 (by decide +kernel) rfl) (by decide) ⟨by decide, by decide⟩ (ce_0))
abbrev cutX0_withParts : List (Nat × List Nat) := [(9, [0, 2, 3])]
set_option maxRecDepth 20000 in
set_option maxHeartbeats 4000000 in
theorem lbX0_withParts_0 {G : Nat → LV → List Value → aS → Prop} {post : Option Value → aS → Prop} (hG : ∀ n b pc lv st σ, seg (0, fun _ => 0) pgX0_withParts ceX0_withParts cutX0_withParts G (fun v σ => rFit (some .int) v ∧ post v σ) n b pc lv st σ → G pc lv st σ) (c : CS) (M : aS) (a : Int32) (hb : bX0_withParts_0 c a (fun x X => rFit (some .int) (some (.int x)) ∧ post (some (.int x)) (wC X ++ M)) (fun z2 z3 X => G 9 [(0, .ref 3), (2, .int z2), (3, .int z3)] [] (wC X ++ M))) : G 0 [(0, .ref 3), (1, .int a)] [] (wC c ++ M) := by
  unfold bX0_withParts_0 at hb
  refine hG 400 false 0 _ _ _ ?_
  exact hb
set_option maxRecDepth 20000 in
set_option maxHeartbeats 4000000 in
theorem lbX0_withParts_9 {G : Nat → LV → List Value → aS → Prop} {post : Option Value → aS → Prop} (hG : ∀ n b pc lv st σ, seg (0, fun _ => 0) pgX0_withParts ceX0_withParts cutX0_withParts G (fun v σ => rFit (some .int) v ∧ post v σ) n b pc lv st σ → G pc lv st σ) (c : CS) (M : aS) (l2 : Int32) (l3 : Int32) (hb : bX0_withParts_9 c l2 l3 (fun x X => rFit (some .int) (some (.int x)) ∧ post (some (.int x)) (wC X ++ M)) (fun z2 z3 X => G 9 [(0, .ref 3), (2, .int z2), (3, .int z3)] [] (wC X ++ M))) : G 9 [(0, .ref 3), (2, .int l2), (3, .int l3)] [] (wC c ++ M) := by
  unfold bX0_withParts_9 at hb
  refine hG 400 false 9 _ _ _ ?_
  refine And.intro (fun (h : l3 < 0) => ?_) (fun (h : ¬ l3 < 0) => ?_)
  · rw [if_pos h] at hb
    exact hb
  · rw [if_neg h] at hb
    refine And.intro (fun (h : ((l2.toUInt32 >>> (l3.toUInt32 &&& Int32.toUInt32 31)).toInt32 &&& (1 : Int32)) = 0) => ?_) (fun (h : ¬ ((l2.toUInt32 >>> (l3.toUInt32 &&& Int32.toUInt32 31)).toInt32 &&& (1 : Int32)) = 0) => ?_)
    · rw [if_pos h] at hb
      exact hb
    · rw [if_neg h] at hb
      obtain ⟨hi, hb⟩ := hb
      refine And.intro hi ?_
      refine And.intro (fun (h : (fX0_hasFirst (c.2.1 6 l3.toNatClampNeg)) = 0) => ?_) (fun (h : ¬ (fX0_hasFirst (c.2.1 6 l3.toNatClampNeg)) = 0) => ?_)
      · rw [if_pos h] at hb
        exact hb
      · rw [if_neg h] at hb
        obtain ⟨hi, hb⟩ := hb
        refine And.intro hi ?_
        obtain ⟨hi, hb⟩ := hb
        refine And.intro hi ?_
        refine And.intro (fun (h : (fX0_hasSecond (c.2.1 6 l3.toNatClampNeg)) = 0) => ?_) (fun (h : ¬ (fX0_hasSecond (c.2.1 6 l3.toNatClampNeg)) = 0) => ?_)
        · rw [if_pos h] at hb
          exact hb
        · rw [if_neg h] at hb
          obtain ⟨hi, hb⟩ := hb
          refine And.intro hi ?_
          exact hb
/-- Formulas.size is a number up to 32; firsts and seconds are safe places -/
def NdOK (c : CS) (n : Nat) : Prop := n ≤ 32 ∧ c.1 2 = nI n ∧ ∀ i, i < n → vp_in (c.2.1 7 i) 32 ∧ vp_in (c.2.1 8 i) 32
def bitOf (l : Int32) (i : Int32) : Int32 := (l.toUInt32 >>> (i.toUInt32 &&& Int32.toUInt32 31)).toInt32 &&& (1 : Int32)
def wpStep (c : CS) (i : Nat) (l : Int32) : Int32 := if bitOf l (nI i) = 0 then l else if fX0_hasFirst (c.2.1 6 i) = 0 then l else if fX0_hasSecond (c.2.1 6 i) = 0 then l ||| ((1 : Int32) <<< (c.2.1 7 i &&& 31)) else (l ||| ((1 : Int32) <<< (c.2.1 7 i &&& 31))) ||| ((1 : Int32) <<< (c.2.1 8 i &&& 31))
def wpLoop (c : CS) : Nat → Int32 → Int32
  | 0, l => l
  | i + 1, l => wpLoop c i (wpStep c i l)
def wX0_withParts (c : CS) (a : Int32) (k : Int32 → CS → Prop) : Prop := ∃ n, n ≤ 32 ∧ c.1 2 = nI n ∧ k (wpLoop c n a) c
theorem mnX0_withParts {c : CS} {a : Int32} {k k' : Int32 → CS → Prop} (h : ∀ v c', k v c' → k' v c') (hw : wX0_withParts c a k) : wX0_withParts c a k' := by
  obtain ⟨n, h1, h2, h3⟩ := hw; exact ⟨n, h1, h2, h _ _ h3⟩
def tX0_withParts : Tr := fun as σ k => match as with
  | [.ref 3, .int a] => ∃ (c : CS) (M : aS), σ = wC c ++ M ∧ wX0_withParts c a (fun v c' => k (some (.int v)) (wC c' ++ M))
  | _ => False
theorem rcX0_withParts : ∀ as σ kk, tX0_withParts as σ kk → ∃ a r fs, as = .ref a :: r ∧ σ[a]? = some (.inr (0, fs)) := by
  intro as σ kk h
  unfold tX0_withParts at h; split at h
  · obtain ⟨c, M, rfl, -⟩ := h
    exact ⟨_, _, _, rfl, rfl⟩
  · exact h.elim
theorem nI_cl {i : Nat} (h : i < 1000) : (nI i).toNatClampNeg = i := nI_clamp (by omega)
theorem okX0_withParts (l : Launch) : OK l yX0_withParts cX0_withParts 4 (some .int) 1 tX0_withParts := by
  intro D τ ρ A as σ post h
  unfold tX0_withParts at h; split at h
  · rename_i a; obtain ⟨c, M, rfl, n, hn, hc, hk⟩ := h
    refine met_of (P := pgX0_withParts) (CE := ceX0_withParts) (cut := cutX0_withParts) (by decide) kkX0_withParts (coX0_withParts l) (Nat.le_of_ble_eq_true rfl) ?_
    intro G hG
    have loop : ∀ (i : Nat) (x : Int32), i ≤ 32 → post (some (.int (wpLoop c i x))) (wC c ++ M) → G 9 [(0, .ref 3), (2, .int x), (3, .int (nI i - 1))] [] (wC c ++ M) := by
      intro i
      induction i with
      | zero =>
        intro x _ hp
        refine lbX0_withParts_9 hG c M x _ ?_
        unfold bX0_withParts_9
        rw [if_pos (show nI 0 - 1 < 0 by decide)]
        exact ⟨trivial, hp⟩
      | succ i ih =>
        intro x hi hp
        rw [nI_pred]
        refine lbX0_withParts_9 hG c M x _ ?_
        unfold bX0_withParts_9
        rw [if_neg (nI_pos (by omega))]
        have hin : vp_in (nI i) 32 := vp_in_nI (by omega) (by omega)
        have hcl := nI_cl (i := i) (by omega)
        have hm : nI i + (-1 : Int32) = nI i - 1 := by rw [Int32.sub_eq_add_neg]
        rw [hm, hcl]
        have hp : post (some (.int (wpLoop c i (wpStep c i x)))) (wC c ++ M) := hp
        by_cases h0 : bitOf x (nI i) = 0
        · rw [if_pos (show ((x.toUInt32 >>> ((nI i).toUInt32 &&& Int32.toUInt32 31)).toInt32 &&& (1 : Int32)) = 0 from h0)]
          rw [wpStep, if_pos h0] at hp
          exact ih x (by omega) hp
        · rw [if_neg (show ¬ ((x.toUInt32 >>> ((nI i).toUInt32 &&& Int32.toUInt32 31)).toInt32 &&& (1 : Int32)) = 0 from h0)]
          refine ⟨hin, ?_⟩
          by_cases h1 : fX0_hasFirst (c.2.1 6 i) = 0
          · rw [if_pos h1]
            rw [wpStep, if_neg h0, if_pos h1] at hp
            exact ih x (by omega) hp
          · rw [if_neg h1]
            refine ⟨hin, hin, ?_⟩
            by_cases h2 : fX0_hasSecond (c.2.1 6 i) = 0
            · rw [if_pos h2]
              rw [wpStep, if_neg h0, if_neg h1, if_pos h2] at hp
              exact ih _ (by omega) hp
            · rw [if_neg h2]
              rw [wpStep, if_neg h0, if_neg h1, if_neg h2] at hp
              exact ⟨hin, ih _ (by omega) hp⟩
    refine lbX0_withParts_0 hG c M a ?_
    unfold bX0_withParts_0
    rw [hc]
    exact loop n a hn hk
  · exact h.elim
def bX0_valueAt_0 (c : CS) (a : Int32) (b : Int64) (d : Int64) (e : Int64) (kr : Int64 → CS → Prop) (kc12 : Int32 → Int64 → Int64 → Int64 → Int32 → Int32 → CS → Prop) : Prop :=
  (wX0_withParts c ((1 : Int32) <<< (a &&& 31)) (fun r1 X1 => kc12 a b d e r1 (0 : Int32) X1))
def bX0_valueAt_12 (c : CS) (a : Int32) (b : Int64) (d : Int64) (e : Int64) (l8 : Int32) (l9 : Int32) (kr : Int64 → CS → Prop) (kc12 : Int32 → Int64 → Int64 → Int64 → Int32 → Int32 → CS → Prop) : Prop :=
  (if a < l9 then
    (vp_in a 32 ∧ kr (c.2.2 10 a.toNatClampNeg) c)
  else
    (if ((l8.toUInt32 >>> (l9.toUInt32 &&& Int32.toUInt32 31)).toInt32 &&& (1 : Int32)) = 0 then
      kc12 a b d e l8 (l9 + (1 : Int32)) c
    else
      (vp_in l9 32 ∧ (if (c.2.1 6 l9.toNatClampNeg) = 0 then
        (vp_in l9 32 ∧ (vp_in l9 32 ∧ kc12 a b d e l8 (l9 + (1 : Int32)) (setL c 10 (vp_updL (c.2.2 10) l9.toNatClampNeg (fX1_told (fX1_ofThree (c.2.1 7 l9.toNatClampNeg) b d e))))))
      else
        (vp_in l9 32 ∧ (if (c.2.1 6 l9.toNatClampNeg) = (1 : Int32) then
          (vp_in l9 32 ∧ (vp_in l9 32 ∧ kc12 a b d e l8 (l9 + (1 : Int32)) (setL c 10 (vp_updL (c.2.2 10) l9.toNatClampNeg (c.2.2 9 l9.toNatClampNeg)))))
        else
          (vp_in l9 32 ∧ (vp_in l9 32 ∧ (vp_in (c.2.1 7 l9.toNatClampNeg) 32 ∧ (vp_in l9 32 ∧ (vp_in (c.2.1 8 l9.toNatClampNeg) 32 ∧ (vp_in l9 32 ∧ kc12 a b d e l8 (l9 + (1 : Int32)) (setL c 10 (vp_updL (c.2.2 10) l9.toNatClampNeg (fX0_made (c.2.1 6 l9.toNatClampNeg) (c.2.2 10 (c.2.1 7 l9.toNatClampNeg).toNatClampNeg) (c.2.2 10 (c.2.1 8 l9.toNatClampNeg).toNatClampNeg))))))))))))))))
def ceX0_valueAt : List (Nat × Nat × Tr) := (2 * 54 + 1, 1 + 1, tX0_withParts) :: (2 * 62, 3, tX0_made) :: (2 * 58, 4, tX1_ofThree) :: (2 * 48, 1, tX1_told) :: []
theorem coX0_valueAt (l : Launch) : CEok l yX0_valueAt.cls 5 ceX0_valueAt := ce_V (ci := 0) (n := 1) rfl (okX0_withParts l) rcX0_withParts (mw 432 (by decide +kernel) rfl) (mw 190 (by decide +kernel) rfl) (mw 191 (by decide +kernel) rfl) (mw 2 (by decide +kernel) rfl) (mw 192 (by decide +kernel) rfl) rfl (by decide) ⟨by decide, by decide⟩ (ce_S (okX0_made l) (mw 322 (by decide +kernel) rfl) (mw 323 (by decide +kernel) rfl) (mw 2 (by decide +kernel) rfl) (mw 324 (by decide +kernel) rfl) (by decide) ⟨by decide, by decide⟩ (ce_S (okX1_ofThree l) (mw 433 (by decide +kernel) rfl) (mw 434 (by decide +kernel) rfl) (mw 5 (by decide +kernel) rfl) (mw 435 (by decide +kernel) rfl) (by decide) ⟨by decide, by decide⟩ (ce_S (okX1_told l) (mw 176 (by decide +kernel) rfl) (mw 177 (by decide +kernel) rfl) (mw 5 (by decide +kernel) rfl) (mw 178 (by decide +kernel) rfl) (by decide) ⟨by decide, by decide⟩ (ce_0))))
abbrev cutX0_valueAt : List (Nat × List Nat) := [(12, [0, 1, 2, 4, 6, 8, 9])]
set_option maxRecDepth 20000 in
set_option maxHeartbeats 4000000 in
theorem lbX0_valueAt_0 {G : Nat → LV → List Value → aS → Prop} {post : Option Value → aS → Prop} (hG : ∀ n b pc lv st σ, seg (0, fun _ => 0) pgX0_valueAt ceX0_valueAt cutX0_valueAt G (fun v σ => rFit (some .long) v ∧ post v σ) n b pc lv st σ → G pc lv st σ) (c : CS) (M : aS) (a : Int32) (b : Int64) (d : Int64) (e : Int64) (hb : bX0_valueAt_0 c a b d e (fun x X => rFit (some .long) (some (.long x)) ∧ post (some (.long x)) (wC X ++ M)) (fun z1 z2 z4 z6 z8 z9 X => G 12 [(0, .ref 3), (1, .int z1), (2, .long z2), (4, .long z4), (6, .long z6), (8, .int z8), (9, .int z9)] [] (wC X ++ M))) : G 0 [(0, .ref 3), (1, .int a), (2, .long b), (4, .long d), (6, .long e)] [] (wC c ++ M) := by
  unfold bX0_valueAt_0 at hb
  refine hG 400 false 0 _ _ _ ?_
  refine Exists.intro c (Exists.intro M ((And.intro rfl (mnX0_withParts ?_ hb))))
  intro r1 X1 hb
  exact hb
set_option maxRecDepth 20000 in
set_option maxHeartbeats 4000000 in
theorem lbX0_valueAt_12 {G : Nat → LV → List Value → aS → Prop} {post : Option Value → aS → Prop} (hG : ∀ n b pc lv st σ, seg (0, fun _ => 0) pgX0_valueAt ceX0_valueAt cutX0_valueAt G (fun v σ => rFit (some .long) v ∧ post v σ) n b pc lv st σ → G pc lv st σ) (c : CS) (M : aS) (a : Int32) (b : Int64) (d : Int64) (e : Int64) (l8 : Int32) (l9 : Int32) (hb : bX0_valueAt_12 c a b d e l8 l9 (fun x X => rFit (some .long) (some (.long x)) ∧ post (some (.long x)) (wC X ++ M)) (fun z1 z2 z4 z6 z8 z9 X => G 12 [(0, .ref 3), (1, .int z1), (2, .long z2), (4, .long z4), (6, .long z6), (8, .int z8), (9, .int z9)] [] (wC X ++ M))) : G 12 [(0, .ref 3), (1, .int a), (2, .long b), (4, .long d), (6, .long e), (8, .int l8), (9, .int l9)] [] (wC c ++ M) := by
  unfold bX0_valueAt_12 at hb
  refine hG 400 false 12 _ _ _ ?_
  refine And.intro (fun (h : a < l9) => ?_) (fun (h : ¬ a < l9) => ?_)
  · rw [if_pos h] at hb
    obtain ⟨hi, hb⟩ := hb
    refine And.intro hi ?_
    exact hb
  · rw [if_neg h] at hb
    refine And.intro (fun (h : ¬ ((l8.toUInt32 >>> (l9.toUInt32 &&& Int32.toUInt32 31)).toInt32 &&& (1 : Int32)) = 0) => ?_) (fun hq => have h : ((l8.toUInt32 >>> (l9.toUInt32 &&& Int32.toUInt32 31)).toInt32 &&& (1 : Int32)) = 0 := Classical.not_not.mp hq; ?_)
    · rw [if_neg h] at hb
      obtain ⟨hi, hb⟩ := hb
      refine And.intro hi ?_
      refine And.intro (fun (h : ¬ (c.2.1 6 l9.toNatClampNeg) = 0) => ?_) (fun hq => have h : (c.2.1 6 l9.toNatClampNeg) = 0 := Classical.not_not.mp hq; ?_)
      · rw [if_neg h] at hb
        obtain ⟨hi, hb⟩ := hb
        refine And.intro hi ?_
        refine And.intro (fun (h : ¬ (c.2.1 6 l9.toNatClampNeg) = (1 : Int32)) => ?_) (fun hq => have h : (c.2.1 6 l9.toNatClampNeg) = (1 : Int32) := Classical.not_not.mp hq; ?_)
        · rw [if_neg h] at hb
          obtain ⟨hi, hb⟩ := hb
          refine And.intro hi ?_
          obtain ⟨hi, hb⟩ := hb
          refine And.intro hi ?_
          obtain ⟨hi, hb⟩ := hb
          refine And.intro hi ?_
          obtain ⟨hi, hb⟩ := hb
          refine And.intro hi ?_
          obtain ⟨hi, hb⟩ := hb
          refine And.intro hi ?_
          obtain ⟨hi, hb⟩ := hb
          refine And.intro hi ?_
          exact hb
        · rw [if_pos h] at hb
          obtain ⟨hi, hb⟩ := hb
          refine And.intro hi ?_
          obtain ⟨hi, hb⟩ := hb
          refine And.intro hi ?_
          exact hb
      · rw [if_pos h] at hb
        obtain ⟨hi, hb⟩ := hb
        refine And.intro hi ?_
        obtain ⟨hi, hb⟩ := hb
        refine And.intro hi ?_
        exact hb
    · rw [if_pos h] at hb
      exact hb
def vStep (c : CS) (x y z : Int64) (asked : Int32) (i : Nat) (v : Nat → Int64) : Nat → Int64 := if bitOf asked (nI i) = 0 then v else if c.2.1 6 i = 0 then vp_updL v i (fX1_told (fX1_ofThree (c.2.1 7 i) x y z)) else if c.2.1 6 i = 1 then vp_updL v i (c.2.2 9 i) else vp_updL v i (fX0_made (c.2.1 6 i) (v (c.2.1 7 i).toNatClampNeg) (v (c.2.1 8 i).toNatClampNeg))
def vLoop (c : CS) (x y z : Int64) (asked : Int32) : Nat → (Nat → Int64) → (Nat → Int64)
  | 0, v => v
  | i + 1, v => vStep c x y z asked i (vLoop c x y z asked i v)
/-- the row of values behind valueAt -/
def vRow (c : CS) (j n : Nat) (x y z : Int64) : Nat → Int64 := vLoop c x y z (wpLoop c n ((1 : Int32) <<< (nI j &&& 31))) (j + 1) (c.2.2 10)
def wX0_valueAt (c : CS) (a : Int32) (x y z : Int64) (k : Int64 → CS → Prop) : Prop := ∃ n j, NdOK c n ∧ j < n ∧ a = nI j ∧ k (vRow c j n x y z j) (setL c 10 (vRow c j n x y z))
theorem mnX0_valueAt {c : CS} {a : Int32} {x y z : Int64} {k k' : Int64 → CS → Prop} (h : ∀ v c', k v c' → k' v c') (hw : wX0_valueAt c a x y z k) : wX0_valueAt c a x y z k' := by
  obtain ⟨n, j, h1, h2, h3, h4⟩ := hw; exact ⟨n, j, h1, h2, h3, h _ _ h4⟩
def tX0_valueAt : Tr := fun as σ k => match as with
  | [.ref 3, .int a, .long x, .long y, .long z] => ∃ (c : CS) (M : aS), σ = wC c ++ M ∧ wX0_valueAt c a x y z (fun v c' => k (some (.long v)) (wC c' ++ M))
  | _ => False
theorem rcX0_valueAt : ∀ as σ kk, tX0_valueAt as σ kk → ∃ a r fs, as = .ref a :: r ∧ σ[a]? = some (.inr (0, fs)) := by
  intro as σ kk h
  unfold tX0_valueAt at h; split at h
  · obtain ⟨c, M, rfl, -⟩ := h
    exact ⟨_, _, _, rfl, rfl⟩
  · exact h.elim
theorem setL_self (c : CS) (k : Nat) : setL c k (c.2.2 k) = c := by
  unfold setL
  have : (fun j => if j = k then c.2.2 k else c.2.2 j) = c.2.2 := by
    funext j; by_cases h : j = k
    · subst h; simp
    · simp [h]
  rw [this]
theorem setL_setL (c : CS) (k : Nat) (f g : Nat → Int64) : setL (setL c k f) k g = setL c k g := by
  unfold setL
  have : (fun j => if j = k then g else (c.1, c.2.1, fun j => if j = k then f else c.2.2 j).2.2 j) = fun j => if j = k then g else c.2.2 j := by
    funext j; by_cases h : j = k <;> simp [h]
  exact congrArg (fun z => (c.1, c.2.1, z)) this
theorem okX0_valueAt (l : Launch) : OK l yX0_valueAt cX0_valueAt 10 (some .long) 5 tX0_valueAt := by
  intro D τ ρ A as σ post h
  unfold tX0_valueAt at h; split at h
  · rename_i a x y z; obtain ⟨c, M, rfl, n, j, ⟨hn, hc, hnd⟩, hj, rfl, hk⟩ := h
    refine met_of (P := pgX0_valueAt) (CE := ceX0_valueAt) (cut := cutX0_valueAt) (by decide) kkX0_valueAt (coX0_valueAt l) (Nat.le_of_ble_eq_true rfl) ?_
    intro G hG
    have loop : ∀ (r i : Nat), i + r = j + 1 → G 12 [(0, .ref 3), (1, .int (nI j)), (2, .long x), (4, .long y), (6, .long z), (8, .int (wpLoop c n ((1 : Int32) <<< (nI j &&& 31)))), (9, .int (nI i))] [] (wC (setL c 10 (vLoop c x y z (wpLoop c n ((1 : Int32) <<< (nI j &&& 31))) i (c.2.2 10))) ++ M) := by
      intro r
      induction r with
      | zero =>
        intro i hi
        have : i = j + 1 := by omega
        subst this
        refine lbX0_valueAt_12 hG _ M _ _ _ _ _ _ ?_
        unfold bX0_valueAt_12
        rw [if_pos (show nI j < nI (j + 1) from nI_lt (by omega) (by omega))]
        refine ⟨vp_in_nI (by omega) (by omega), trivial, ?_⟩
        rw [nI_cl (i := j) (by omega)]
        exact hk
      | succ r ih =>
        intro i hi
        have ih := ih (i + 1) (by omega)
        obtain ⟨v, hv⟩ : ∃ v, v = vLoop c x y z (wpLoop c n ((1 : Int32) <<< (nI j &&& 31))) i (c.2.2 10) := ⟨_, rfl⟩
        rw [show vLoop c x y z (wpLoop c n ((1 : Int32) <<< (nI j &&& 31))) (i + 1) (c.2.2 10) = vStep c x y z (wpLoop c n ((1 : Int32) <<< (nI j &&& 31))) i v by rw [hv]; rfl] at ih
        rw [← hv]
        generalize wpLoop c n ((1 : Int32) <<< (nI j &&& 31)) = asked at ih ⊢
        have hin : vp_in (nI i) 32 := vp_in_nI (by omega) (by omega)
        have hcl := nI_cl (i := i) (by omega)
        obtain ⟨hf, hs⟩ := hnd i (by omega)
        refine lbX0_valueAt_12 hG (setL c 10 v) M _ _ _ _ _ _ ?_
        unfold bX0_valueAt_12
        rw [if_neg (nI_nlt (by omega) (by omega))]
        rw [hcl, show nI i + (1 : Int32) = nI (i + 1) from nI_1 i]
        by_cases h0 : bitOf asked (nI i) = 0
        · rw [if_pos (show ((asked.toUInt32 >>> ((nI i).toUInt32 &&& Int32.toUInt32 31)).toInt32 &&& (1 : Int32)) = 0 from h0)]
          rw [vStep, if_pos h0] at ih
          exact ih
        · rw [if_neg (show ¬ ((asked.toUInt32 >>> ((nI i).toUInt32 &&& Int32.toUInt32 31)).toInt32 &&& (1 : Int32)) = 0 from h0)]
          refine ⟨hin, ?_⟩
          show (if c.2.1 6 i = 0 then _ else _)
          by_cases h1 : c.2.1 6 i = 0
          · rw [if_pos h1]
            rw [vStep, if_neg h0, if_pos h1] at ih
            rw [setL_setL]
            exact ⟨hin, hin, ih⟩
          · rw [if_neg h1]
            refine ⟨hin, ?_⟩
            show (if c.2.1 6 i = 1 then _ else _)
            by_cases h2 : c.2.1 6 i = 1
            · rw [if_pos h2]
              rw [vStep, if_neg h0, if_neg h1, if_pos h2] at ih
              rw [setL_setL]
              exact ⟨hin, hin, ih⟩
            · rw [if_neg h2]
              rw [vStep, if_neg h0, if_neg h1, if_neg h2] at ih
              rw [setL_setL]
              exact ⟨hin, hin, hf, hin, hs, hin, ih⟩
    refine lbX0_valueAt_0 hG c M (nI j) x y z ?_
    unfold bX0_valueAt_0
    refine ⟨n, hn, hc, ?_⟩
    have := loop (j + 1) 0 (by omega)
    rw [show vLoop c x y z (wpLoop c n ((1 : Int32) <<< (nI j &&& 31))) 0 (c.2.2 10) = c.2.2 10 from rfl, setL_self] at this
    exact this
  · exact h.elim
def bX0_enclose_0 (c : CS) (a : Int32) (d : Int32) (kr : CS → Prop) (kc3 : Int32 → Int32 → Int32 → CS → Prop) : Prop :=
  kc3 a d (0 : Int32) c
def bX0_enclose_3 (c : CS) (a : Int32) (d : Int32) (l4 : Int32) (kr : CS → Prop) (kc3 : Int32 → Int32 → Int32 → CS → Prop) : Prop :=
  (if (c.1 2) ≤ l4 then
    kr c
  else
    (if ((a.toUInt32 >>> (l4.toUInt32 &&& Int32.toUInt32 31)).toInt32 &&& (1 : Int32)) = 0 then
      kc3 a d (l4 + (1 : Int32)) c
    else
      (vp_in l4 32 ∧ (if (c.2.1 6 l4.toNatClampNeg) = 0 then
        (vp_in l4 32 ∧ (vp_in (d + ((2 : Int32) * (c.2.1 7 l4.toNatClampNeg))) 600 ∧ (vp_in l4 32 ∧ (vp_in ((d + ((2 : Int32) * (c.2.1 7 l4.toNatClampNeg))) + (1 : Int32)) 600 ∧ (vp_in l4 32 ∧ kc3 a d (l4 + (1 : Int32)) (gX0_put c l4 (c.2.2 12 (d + ((2 : Int32) * (c.2.1 7 l4.toNatClampNeg))).toNatClampNeg) (c.2.2 12 ((d + ((2 : Int32) * (c.2.1 7 l4.toNatClampNeg))) + (1 : Int32)).toNatClampNeg)))))))
      else
        (vp_in l4 32 ∧ (if (c.2.1 6 l4.toNatClampNeg) = (1 : Int32) then
          (vp_in l4 32 ∧ (vp_in l4 32 ∧ (vp_in l4 32 ∧ kc3 a d (l4 + (1 : Int32)) (gX0_put c l4 (c.2.2 9 l4.toNatClampNeg) (c.2.2 9 l4.toNatClampNeg)))))
        else
          (vp_in l4 32 ∧ (vp_in (c.2.1 7 l4.toNatClampNeg) 32 ∧ (vp_in (c.2.1 8 l4.toNatClampNeg) 32 ∧ kc3 a d (l4 + (1 : Int32)) (gX0_encloseMade c l4))))))))))
def ceX0_enclose : List (Nat × Nat × Tr) := (2 * 115 + 1, 1 + 1, tX0_encloseMade) :: (2 * 111 + 1, 3 + 1, tX0_put) :: []
theorem coX0_enclose (l : Launch) : CEok l yX0_enclose.cls 6 ceX0_enclose := ce_V (ci := 0) (n := 1) rfl (okX0_encloseMade l) rcX0_encloseMade (mw 219 (by decide +kernel) rfl) (mw 221 (by decide +kernel) rfl) (ms 4 (by decide +kernel) rfl) (mw 2 (by decide +kernel) rfl) (mw 222 (by decide +kernel) rfl) rfl (by decide) ⟨by decide, by decide⟩ (ce_V (ci := 0) (n := 3) rfl (okX0_put l) rcX0_put (mw 208 (by decide +kernel) rfl) (mw 210 (by decide +kernel) rfl) (ms 2 (by decide +kernel) rfl) (mw 2 (by decide +kernel) rfl) (mw 211 (by decide +kernel) rfl) rfl (by decide) ⟨by decide, by decide⟩ (ce_0))
abbrev cutX0_enclose : List (Nat × List Nat) := [(3, [0, 1, 2, 3, 4])]
set_option maxRecDepth 20000 in
set_option maxHeartbeats 4000000 in
theorem lbX0_enclose_0 {G : Nat → LV → List Value → aS → Prop} {post : Option Value → aS → Prop} (hG : ∀ n b pc lv st σ, seg (0, fun _ => 0) pgX0_enclose ceX0_enclose cutX0_enclose G (fun v σ => rFit none v ∧ post v σ) n b pc lv st σ → G pc lv st σ) (c : CS) (M : aS) (a : Int32) (d : Int32) (hb : bX0_enclose_0 c a d (fun X => rFit none none ∧ post none (wC X ++ M)) (fun z1 z3 z4 X => G 3 [(0, .ref 3), (1, .int z1), (2, .ref 12), (3, .int z3), (4, .int z4)] [] (wC X ++ M))) : G 0 [(0, .ref 3), (1, .int a), (2, .ref 12), (3, .int d)] [] (wC c ++ M) := by
  unfold bX0_enclose_0 at hb
  refine hG 400 false 0 _ _ _ ?_
  exact hb
set_option maxRecDepth 20000 in
set_option maxHeartbeats 4000000 in
theorem lbX0_enclose_3 {G : Nat → LV → List Value → aS → Prop} {post : Option Value → aS → Prop} (hG : ∀ n b pc lv st σ, seg (0, fun _ => 0) pgX0_enclose ceX0_enclose cutX0_enclose G (fun v σ => rFit none v ∧ post v σ) n b pc lv st σ → G pc lv st σ) (c : CS) (M : aS) (a : Int32) (d : Int32) (l4 : Int32) (hb : bX0_enclose_3 c a d l4 (fun X => rFit none none ∧ post none (wC X ++ M)) (fun z1 z3 z4 X => G 3 [(0, .ref 3), (1, .int z1), (2, .ref 12), (3, .int z3), (4, .int z4)] [] (wC X ++ M))) : G 3 [(0, .ref 3), (1, .int a), (2, .ref 12), (3, .int d), (4, .int l4)] [] (wC c ++ M) := by
  unfold bX0_enclose_3 at hb
  refine hG 400 false 3 _ _ _ ?_
  refine And.intro (fun (h : (c.1 2) ≤ l4) => ?_) (fun (h : ¬ (c.1 2) ≤ l4) => ?_)
  · rw [if_pos h] at hb
    exact hb
  · rw [if_neg h] at hb
    refine And.intro (fun (h : ¬ ((a.toUInt32 >>> (l4.toUInt32 &&& Int32.toUInt32 31)).toInt32 &&& (1 : Int32)) = 0) => ?_) (fun hq => have h : ((a.toUInt32 >>> (l4.toUInt32 &&& Int32.toUInt32 31)).toInt32 &&& (1 : Int32)) = 0 := Classical.not_not.mp hq; ?_)
    · rw [if_neg h] at hb
      obtain ⟨hi, hb⟩ := hb
      refine And.intro hi ?_
      refine And.intro (fun (h : ¬ (c.2.1 6 l4.toNatClampNeg) = 0) => ?_) (fun hq => have h : (c.2.1 6 l4.toNatClampNeg) = 0 := Classical.not_not.mp hq; ?_)
      · rw [if_neg h] at hb
        obtain ⟨hi, hb⟩ := hb
        refine And.intro hi ?_
        refine And.intro (fun (h : ¬ (c.2.1 6 l4.toNatClampNeg) = (1 : Int32)) => ?_) (fun hq => have h : (c.2.1 6 l4.toNatClampNeg) = (1 : Int32) := Classical.not_not.mp hq; ?_)
        · rw [if_neg h] at hb
          obtain ⟨hi0, hb⟩ := hb
          obtain ⟨hi1, hb⟩ := hb
          obtain ⟨hi2, hb⟩ := hb
          refine Exists.intro c (Exists.intro M ((And.intro rfl (And.intro hi0 (And.intro hi1 (And.intro hi2 (?_)))))))
          exact hb
        · rw [if_pos h] at hb
          obtain ⟨hi, hb⟩ := hb
          refine And.intro hi ?_
          obtain ⟨hi, hb⟩ := hb
          refine And.intro hi ?_
          obtain ⟨hi0, hb⟩ := hb
          refine Exists.intro c (Exists.intro M ((And.intro rfl (And.intro hi0 (?_)))))
          exact hb
      · rw [if_pos h] at hb
        obtain ⟨hi, hb⟩ := hb
        refine And.intro hi ?_
        obtain ⟨hi, hb⟩ := hb
        refine And.intro hi ?_
        obtain ⟨hi, hb⟩ := hb
        refine And.intro hi ?_
        obtain ⟨hi, hb⟩ := hb
        refine And.intro hi ?_
        obtain ⟨hi0, hb⟩ := hb
        refine Exists.intro c (Exists.intro M ((And.intro rfl (And.intro hi0 (?_)))))
        exact hb
    · rw [if_pos h] at hb
      exact hb
/-- only the rows 4 and 5 differ -/
def Fr45 (c d : CS) : Prop := d.1 = c.1 ∧ d.2.1 = c.2.1 ∧ ∀ j, j ≠ 4 → j ≠ 5 → d.2.2 j = c.2.2 j
theorem Fr45.refl (c : CS) : Fr45 c c := ⟨rfl, rfl, fun _ _ _ => rfl⟩
theorem Fr45.trans {a b c : CS} (h : Fr45 a b) (g : Fr45 b c) : Fr45 a c := ⟨g.1.trans h.1, g.2.1.trans h.2.1, fun j h4 h5 => (g.2.2 j h4 h5).trans (h.2.2 j h4 h5)⟩
theorem Fr45.s4 (c : CS) (f : Nat → Int64) : Fr45 c (setL c 4 f) := ⟨rfl, rfl, fun j h4 _ => by simp [setL, h4]⟩
theorem Fr45.s5 (c : CS) (f : Nat → Int64) : Fr45 c (setL c 5 f) := ⟨rfl, rfl, fun j _ h5 => by simp [setL, h5]⟩
theorem fr_whole (c : CS) (a : Int32) : Fr45 c (gX0_putWholeLine c a) := (Fr45.s4 c _).trans (Fr45.s5 _ _)
theorem fr_put (c : CS) (a : Int32) (b d : Int64) : Fr45 c (gX0_put c a b d) := by
  unfold gX0_put; repeat' split
  all_goals first | exact fr_whole _ _ | exact (Fr45.s4 c _).trans (Fr45.s5 _ _)
theorem fr_four (c : CS) (a : Int32) (b d e f : Int64) : Fr45 c (gX0_putFour c a b d e f) := fr_put _ _ _ _
theorem fr_size (c : CS) (a : Int32) (b d : Int64) : Fr45 c (gX0_putSize c a b d) := by
  unfold gX0_putSize; repeat' split
  all_goals exact fr_put _ _ _ _
theorem fr_root (c : CS) (a : Int32) (b d : Int64) : Fr45 c (gX0_putRoot c a b d) := by
  unfold gX0_putRoot; repeat' split
  all_goals first | exact fr_put _ _ _ _ | exact fr_whole _ _
theorem fr_square (c : CS) (a : Int32) (b d : Int64) : Fr45 c (gX0_putSquare c a b d) := fr_put _ _ _ _
theorem fr_ite {p : Prop} [Decidable p] {c a b : CS} (ha : Fr45 c a) (hb : Fr45 c b) : Fr45 c (if p then a else b) := by
  by_cases h : p
  · rw [if_pos h]; exact ha
  · rw [if_neg h]; exact hb
theorem fr_made (c : CS) (a : Int32) : Fr45 c (gX0_encloseMade c a) := by
  unfold gX0_encloseMade
  repeat' with_reducible refine fr_ite ?_ ?_
  all_goals with_reducible first | exact fr_put _ _ _ _ | exact fr_whole _ _ | exact fr_four _ _ _ _ _ _ | exact fr_root _ _ _ _ | exact fr_size _ _ _ _ | exact Fr45.trans (fr_size _ _ _ _) (fr_square _ _ _ _)
def eStep (asked place : Int32) (i : Nat) (c : CS) : CS := if bitOf asked (nI i) = 0 then c else if c.2.1 6 i = 0 then gX0_put c (nI i) (c.2.2 12 (place + 2 * c.2.1 7 i).toNatClampNeg) (c.2.2 12 (place + 2 * c.2.1 7 i + 1).toNatClampNeg) else if c.2.1 6 i = 1 then gX0_put c (nI i) (c.2.2 9 i) (c.2.2 9 i) else gX0_encloseMade c (nI i)
def eLoop (asked place : Int32) : Nat → CS → CS
  | 0, c => c
  | i + 1, c => eStep asked place i (eLoop asked place i c)
theorem fr_eStep (asked place : Int32) (i : Nat) (c : CS) : Fr45 c (eStep asked place i c) := by
  unfold eStep; repeat' split
  all_goals first | exact Fr45.refl _ | exact fr_put _ _ _ _ | exact fr_made _ _
theorem fr_eLoop (asked place : Int32) (c : CS) : ∀ i, Fr45 c (eLoop asked place i c)
  | 0 => Fr45.refl c
  | i + 1 => (fr_eLoop asked place c i).trans (fr_eStep asked place i _)
/-- a drawn node's side is there -/
def DrOK (c : CS) (n : Nat) (place : Int32) : Prop := ∀ i, i < n → c.2.1 6 i = 0 → vp_in (place + 2 * c.2.1 7 i) 600 ∧ vp_in (place + 2 * c.2.1 7 i + 1) 600
def wX0_enclose (c : CS) (asked place : Int32) (k : CS → Prop) : Prop := ∃ n, NdOK c n ∧ DrOK c n place ∧ k (eLoop asked place n c)
theorem mnX0_enclose {c : CS} {a b : Int32} {k k' : CS → Prop} (h : ∀ c', k c' → k' c') (hw : wX0_enclose c a b k) : wX0_enclose c a b k' := by
  obtain ⟨n, h1, h2, h3⟩ := hw; exact ⟨n, h1, h2, h _ h3⟩
def tX0_enclose : Tr := fun as σ k => match as with
  | [.ref 3, .int a, .ref 12, .int b] => ∃ (c : CS) (M : aS), σ = wC c ++ M ∧ wX0_enclose c a b (fun c' => k none (wC c' ++ M))
  | _ => False
theorem rcX0_enclose : ∀ as σ kk, tX0_enclose as σ kk → ∃ a r fs, as = .ref a :: r ∧ σ[a]? = some (.inr (0, fs)) := by
  intro as σ kk h
  unfold tX0_enclose at h; split at h
  · obtain ⟨c, M, rfl, -⟩ := h
    exact ⟨_, _, _, rfl, rfl⟩
  · exact h.elim
theorem okX0_enclose (l : Launch) : OK l yX0_enclose cX0_enclose 5 none 6 tX0_enclose := by
  intro D τ ρ A as σ post h
  unfold tX0_enclose at h; split at h
  · rename_i asked place; obtain ⟨c, M, rfl, n, ⟨hn, hc, hnd⟩, hdr, hk⟩ := h
    refine met_of (P := pgX0_enclose) (CE := ceX0_enclose) (cut := cutX0_enclose) (by decide) kkX0_enclose (coX0_enclose l) (Nat.le_of_ble_eq_true rfl) ?_
    intro G hG
    have loop : ∀ (r i : Nat), i + r = n → G 3 [(0, .ref 3), (1, .int asked), (2, .ref 12), (3, .int place), (4, .int (nI i))] [] (wC (eLoop asked place i c) ++ M) := by
      intro r
      induction r with
      | zero =>
        intro i hi
        have : i = n := by omega
        subst this
        refine lbX0_enclose_3 hG _ M _ _ _ ?_
        unfold bX0_enclose_3
        have hz : (eLoop asked place i c).1 2 = nI i := by rw [(fr_eLoop asked place c i).1]; exact hc
        rw [if_pos (show (eLoop asked place i c).1 2 ≤ nI i by rw [hz]; exact nI_le (Nat.le_refl _) (by omega))]
        exact ⟨trivial, hk⟩
      | succ r ih =>
        intro i hi
        have ih := ih (i + 1) (by omega)
        rw [show eLoop asked place (i + 1) c = eStep asked place i (eLoop asked place i c) from rfl] at ih
        have fr := fr_eLoop asked place c i
        generalize eLoop asked place i c = d at ih fr ⊢
        obtain ⟨f1, f2, f3⟩ := fr
        have hin : vp_in (nI i) 32 := vp_in_nI (by omega) (by omega)
        have hcl := nI_cl (i := i) (by omega)
        have hnd := hnd i (by omega)
        have hdr := hdr i (by omega)
        rw [← f2] at hnd hdr
        obtain ⟨hf, hs⟩ := hnd
        refine lbX0_enclose_3 hG d M _ _ _ ?_
        unfold bX0_enclose_3
        rw [if_neg (show ¬ d.1 2 ≤ nI i by rw [f1, hc]; exact nI_ge (by omega) (by omega))]
        rw [hcl, show nI i + (1 : Int32) = nI (i + 1) from nI_1 i]
        by_cases h0 : bitOf asked (nI i) = 0
        · rw [if_pos (show ((asked.toUInt32 >>> ((nI i).toUInt32 &&& Int32.toUInt32 31)).toInt32 &&& (1 : Int32)) = 0 from h0)]
          rw [eStep, if_pos h0] at ih
          exact ih
        · rw [if_neg (show ¬ ((asked.toUInt32 >>> ((nI i).toUInt32 &&& Int32.toUInt32 31)).toInt32 &&& (1 : Int32)) = 0 from h0)]
          refine ⟨hin, ?_⟩
          by_cases h1 : d.2.1 6 i = 0
          · rw [if_pos h1]
            rw [eStep, if_neg h0, if_pos h1] at ih
            obtain ⟨q1, q2⟩ := hdr h1
            exact ⟨hin, q1, hin, q2, hin, ih⟩
          · rw [if_neg h1]
            refine ⟨hin, ?_⟩
            by_cases h2 : d.2.1 6 i = 1
            · rw [if_pos h2]
              rw [eStep, if_neg h0, if_neg h1, if_pos h2] at ih
              exact ⟨hin, hin, hin, ih⟩
            · rw [if_neg h2]
              rw [eStep, if_neg h0, if_neg h1, if_neg h2] at ih
              exact ⟨hin, hf, hs, ih⟩
    refine lbX0_enclose_0 hG c M asked place ?_
    unfold bX0_enclose_0
    exact loop n 0 (by omega)
  · exact h.elim
