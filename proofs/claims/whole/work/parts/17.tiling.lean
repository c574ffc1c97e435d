def bX2_start_0 (c : CS) (b : Int32) (kr : CS → Prop) (kc7 : Int32 → Int32 → CS → Prop) : Prop :=
  kc7 b (0 : Int32) (setI c 4 b)
def bX2_start_7 (c : CS) (b : Int32) (l3 : Int32) (kr : CS → Prop) (kc7 : Int32 → Int32 → CS → Prop) : Prop :=
  (if ((2 : Int32) * b) ≤ l3 then
    kr (setI c 3 (1 : Int32))
  else
    (vp_in l3 6 ∧ (vp_in l3 600 ∧ kc7 b (l3 + (1 : Int32)) (setL c 12 (vp_updL (c.2.2 12) l3.toNatClampNeg (c.2.2 1 l3.toNatClampNeg))))))
set_option maxRecDepth 20000 in
theorem mbX2_start_0 {c : CS} {b : Int32} {kr kq : CS → Prop} {kc7 kd7 : Int32 → Int32 → CS → Prop} (hr : ∀ X, kr X → kq X) (hc7 : ∀ z2 z3 X, kc7 z2 z3 X → kd7 z2 z3 X) (h : bX2_start_0 c b kr kc7) : bX2_start_0 c b kq kd7 := by
  unfold bX2_start_0 at h ⊢
  exact hc7 _ _ _ h
set_option maxRecDepth 20000 in
theorem mbX2_start_7 {c : CS} {b : Int32} {l3 : Int32} {kr kq : CS → Prop} {kc7 kd7 : Int32 → Int32 → CS → Prop} (hr : ∀ X, kr X → kq X) (hc7 : ∀ z2 z3 X, kc7 z2 z3 X → kd7 z2 z3 X) (h : bX2_start_7 c b l3 kr kc7) : bX2_start_7 c b l3 kq kd7 := by
  unfold bX2_start_7 at h ⊢
  by_cases hc : ((2 : Int32) * b) ≤ l3
  · rw [if_pos hc] at h ⊢
    exact hr _ h
  · rw [if_neg hc] at h ⊢
    obtain ⟨hi, h⟩ := h
    refine And.intro hi ?_
    obtain ⟨hi, h⟩ := h
    refine And.intro hi ?_
    exact hc7 _ _ _ h
def itX2_start_7 (kr : CS → Prop) : Nat → Int32 → Int32 → CS → Prop
  | 0, _, _, _ => False
  | n + 1, b, l3, c => bX2_start_7 c b l3 kr (fun z2 z3 X => itX2_start_7 kr n z2 z3 X)
theorem miX2_start_7 {kr kq : CS → Prop} (hr : ∀ X, kr X → kq X) : ∀ (n : Nat) (z2 : Int32) (z3 : Int32) (X : CS), itX2_start_7 kr n z2 z3 X → itX2_start_7 kq n z2 z3 X
  | 0, _, _, _, h => h
  | n + 1, _, _, _, h => mbX2_start_7 hr (fun _ _ _ h => miX2_start_7 hr n _ _ _ h) h
def wX2_start (c : CS) (b : Int32) (kr : CS → Prop) : Prop := bX2_start_0 c b kr (fun z2 z3 X => ∃ N, itX2_start_7 kr N z2 z3 X)
theorem mnX2_start {c : CS} {b : Int32} {kr kq : CS → Prop} (hr : ∀ X, kr X → kq X) (h : wX2_start c b kr) : wX2_start c b kq := mbX2_start_0 hr (fun _ _ _ h => h.elim fun N h => ⟨N, miX2_start_7 hr N _ _ _ h⟩) h
def tX2_start : Tr := fun as σ k => match as with
  | [.ref 11, .ref 1, .int b] => ∃ (c : CS) (M : aS), σ = wC c ++ M ∧ wX2_start c b (fun X => k none (wC X ++ M))
  | _ => False
def ceX2_start : List (Nat × Nat × Tr) := []
theorem coX2_start (l : Launch) : CEok l yX2_start.cls 0 ceX2_start := ce_0
abbrev cutX2_start : List (Nat × List Nat) := [(7, [0, 1, 2, 3])]
set_option maxRecDepth 20000 in
set_option maxHeartbeats 4000000 in
theorem lbX2_start_0 {G : Nat → LV → List Value → aS → Prop} {post : Option Value → aS → Prop} (hG : ∀ n b pc lv st σ, seg (0, fun _ => 0) pgX2_start ceX2_start cutX2_start G (fun v σ => rFit none v ∧ post v σ) n b pc lv st σ → G pc lv st σ) (c : CS) (M : aS) (b : Int32) (hb : bX2_start_0 c b (fun X => rFit none none ∧ post none (wC X ++ M)) (fun z2 z3 X => G 7 [(0, .ref 11), (1, .ref 1), (2, .int z2), (3, .int z3)] [] (wC X ++ M))) : G 0 [(0, .ref 11), (1, .ref 1), (2, .int b)] [] (wC c ++ M) := by
  unfold bX2_start_0 at hb
  refine hG 400 false 0 _ _ _ ?_
  exact hb
set_option maxRecDepth 20000 in
set_option maxHeartbeats 4000000 in
theorem lbX2_start_7 {G : Nat → LV → List Value → aS → Prop} {post : Option Value → aS → Prop} (hG : ∀ n b pc lv st σ, seg (0, fun _ => 0) pgX2_start ceX2_start cutX2_start G (fun v σ => rFit none v ∧ post v σ) n b pc lv st σ → G pc lv st σ) (c : CS) (M : aS) (b : Int32) (l3 : Int32) (hb : bX2_start_7 c b l3 (fun X => rFit none none ∧ post none (wC X ++ M)) (fun z2 z3 X => G 7 [(0, .ref 11), (1, .ref 1), (2, .int z2), (3, .int z3)] [] (wC X ++ M))) : G 7 [(0, .ref 11), (1, .ref 1), (2, .int b), (3, .int l3)] [] (wC c ++ M) := by
  unfold bX2_start_7 at hb
  refine hG 400 false 7 _ _ _ ?_
  refine And.intro (fun (h : ((2 : Int32) * b) ≤ l3) => ?_) (fun (h : ¬ ((2 : Int32) * b) ≤ l3) => ?_)
  · rw [if_pos h] at hb
    exact hb
  · rw [if_neg h] at hb
    obtain ⟨hi, hb⟩ := hb
    refine And.intro hi ?_
    obtain ⟨hi, hb⟩ := hb
    refine And.intro hi ?_
    exact hb
theorem giX2_start_7 {G : Nat → LV → List Value → aS → Prop} {post : Option Value → aS → Prop} (hG : ∀ n b pc lv st σ, seg (0, fun _ => 0) pgX2_start ceX2_start cutX2_start G (fun v σ => rFit none v ∧ post v σ) n b pc lv st σ → G pc lv st σ) (M : aS) : ∀ (n : Nat) (z2 : Int32) (z3 : Int32) (X : CS), itX2_start_7 (fun X => rFit none none ∧ post none (wC X ++ M)) n z2 z3 X → G 7 [(0, .ref 11), (1, .ref 1), (2, .int z2), (3, .int z3)] [] (wC X ++ M)
  | 0, _, _, _, h => h.elim
  | n + 1, _, _, _, h => lbX2_start_7 hG _ M _ _ (mbX2_start_7 (fun _ h => h) (fun _ _ _ h => giX2_start_7 hG M n _ _ _ h) h)
theorem rcX2_start : ∀ as σ kk, tX2_start as σ kk → ∃ a r fs, as = .ref a :: r ∧ σ[a]? = some (.inr (1, fs)) := by
  intro as σ kk h
  unfold tX2_start at h; split at h
  · obtain ⟨c, M, rfl, -⟩ := h
    exact ⟨_, _, _, rfl, rfl⟩
  · exact h.elim
set_option maxRecDepth 20000 in
theorem okX2_start (l : Launch) : OK l yX2_start cX2_start 4 none 0 tX2_start := by
  intro D τ ρ A as σ post h
  unfold tX2_start at h; split at h
  · rename_i b; obtain ⟨c, M, rfl, hw⟩ := h
    refine met_of (P := pgX2_start) (CE := ceX2_start) (cut := cutX2_start) (by decide) kkX2_start (coX2_start l) (Nat.le_of_ble_eq_true rfl) ?_
    intro G hG
    unfold wX2_start at hw
    refine lbX2_start_0 hG c M b (mbX2_start_0 ?_ ?_ hw)
    · exact fun _ h => ⟨trivial, h⟩
    · intro _ _ _ ⟨N, h⟩; exact giX2_start_7 hG M N _ _ _ (miX2_start_7 (fun _ h => ⟨trivial, h⟩) N _ _ _ h)
  · exact h.elim
def bX2_measure_0 (c : CS) (a : Int32) (kr : CS → Prop) (kc4 : Int32 → Int32 → Int32 → CS → Prop) : Prop :=
  kc4 a (0 : Int32) (0 : Int32) c
def bX2_measure_4 (c : CS) (a : Int32) (l2 : Int32) (l3 : Int32) (kr : CS → Prop) (kc4 : Int32 → Int32 → Int32 → CS → Prop) : Prop :=
  (if (c.1 4) ≤ l3 then
    (vp_in (fX2_place a l2) 600 ∧ (vp_in ((fX2_place a l2) + (1 : Int32)) 600 ∧ (vp_in l2 3 ∧ (vp_in a 100 ∧ (vp_in a 100 ∧ (if (fX1_isBelow (c.2.2 12 (fX2_place a l2).toNatClampNeg) (fX1_plus (c.2.2 12 (fX2_place a l2).toNatClampNeg) (fX1_over (c.2.2 16 l2.toNatClampNeg) (4611686018427387904 : Int64)))) = 0 then
      (vp_in a 100 ∧ kr (setA (setL (setA c 17 (upd (c.2.1 17) a.toNatClampNeg l2)) 18 (vp_updL ((setA c 17 (upd (c.2.1 17) a.toNatClampNeg l2)).2.2 18) a.toNatClampNeg (fX1_plus (c.2.2 12 (fX2_place a l2).toNatClampNeg) (fX1_over (c.2.2 16 l2.toNatClampNeg) (4611686018427387904 : Int64))))) 19 (upd ((setL (setA c 17 (upd (c.2.1 17) a.toNatClampNeg l2)) 18 (vp_updL ((setA c 17 (upd (c.2.1 17) a.toNatClampNeg l2)).2.2 18) a.toNatClampNeg (fX1_plus (c.2.2 12 (fX2_place a l2).toNatClampNeg) (fX1_over (c.2.2 16 l2.toNatClampNeg) (4611686018427387904 : Int64))))).2.1 19) a.toNatClampNeg (vp_nar .boolean (1 : Int32)))))
    else
      (if (fX1_isBelow (fX1_plus (c.2.2 12 (fX2_place a l2).toNatClampNeg) (fX1_over (c.2.2 16 l2.toNatClampNeg) (4611686018427387904 : Int64))) (c.2.2 12 ((fX2_place a l2) + (1 : Int32)).toNatClampNeg)) = 0 then
        (vp_in a 100 ∧ kr (setA (setL (setA c 17 (upd (c.2.1 17) a.toNatClampNeg l2)) 18 (vp_updL ((setA c 17 (upd (c.2.1 17) a.toNatClampNeg l2)).2.2 18) a.toNatClampNeg (fX1_plus (c.2.2 12 (fX2_place a l2).toNatClampNeg) (fX1_over (c.2.2 16 l2.toNatClampNeg) (4611686018427387904 : Int64))))) 19 (upd ((setL (setA c 17 (upd (c.2.1 17) a.toNatClampNeg l2)) 18 (vp_updL ((setA c 17 (upd (c.2.1 17) a.toNatClampNeg l2)).2.2 18) a.toNatClampNeg (fX1_plus (c.2.2 12 (fX2_place a l2).toNatClampNeg) (fX1_over (c.2.2 16 l2.toNatClampNeg) (4611686018427387904 : Int64))))).2.1 19) a.toNatClampNeg (vp_nar .boolean (1 : Int32)))))
      else
        (vp_in a 100 ∧ kr (setA (setL (setA c 17 (upd (c.2.1 17) a.toNatClampNeg l2)) 18 (vp_updL ((setA c 17 (upd (c.2.1 17) a.toNatClampNeg l2)).2.2 18) a.toNatClampNeg (fX1_plus (c.2.2 12 (fX2_place a l2).toNatClampNeg) (fX1_over (c.2.2 16 l2.toNatClampNeg) (4611686018427387904 : Int64))))) 19 (upd ((setL (setA c 17 (upd (c.2.1 17) a.toNatClampNeg l2)) 18 (vp_updL ((setA c 17 (upd (c.2.1 17) a.toNatClampNeg l2)).2.2 18) a.toNatClampNeg (fX1_plus (c.2.2 12 (fX2_place a l2).toNatClampNeg) (fX1_over (c.2.2 16 l2.toNatClampNeg) (4611686018427387904 : Int64))))).2.1 19) a.toNatClampNeg (vp_nar .boolean (0 : Int32))))))))))))
  else
    (vp_in ((fX2_place a l3) + (1 : Int32)) 600 ∧ (vp_in (fX2_place a l3) 600 ∧ (vp_in l3 3 ∧ (vp_in l2 3 ∧ (vp_in l3 3 ∧ (if (fX1_isBelow ((setL c 16 (vp_updL (c.2.2 16) l3.toNatClampNeg (fX1_plus (c.2.2 12 ((fX2_place a l3) + (1 : Int32)).toNatClampNeg) (fX1_opposite (c.2.2 12 (fX2_place a l3).toNatClampNeg))))).2.2 16 l2.toNatClampNeg) ((setL c 16 (vp_updL (c.2.2 16) l3.toNatClampNeg (fX1_plus (c.2.2 12 ((fX2_place a l3) + (1 : Int32)).toNatClampNeg) (fX1_opposite (c.2.2 12 (fX2_place a l3).toNatClampNeg))))).2.2 16 l3.toNatClampNeg)) = 0 then
      kc4 a l2 (l3 + (1 : Int32)) (setL c 16 (vp_updL (c.2.2 16) l3.toNatClampNeg (fX1_plus (c.2.2 12 ((fX2_place a l3) + (1 : Int32)).toNatClampNeg) (fX1_opposite (c.2.2 12 (fX2_place a l3).toNatClampNeg)))))
    else
      kc4 a l3 (l3 + (1 : Int32)) (setL c 16 (vp_updL (c.2.2 16) l3.toNatClampNeg (fX1_plus (c.2.2 12 ((fX2_place a l3) + (1 : Int32)).toNatClampNeg) (fX1_opposite (c.2.2 12 (fX2_place a l3).toNatClampNeg))))))))))))
set_option maxRecDepth 20000 in
theorem mbX2_measure_0 {c : CS} {a : Int32} {kr kq : CS → Prop} {kc4 kd4 : Int32 → Int32 → Int32 → CS → Prop} (hr : ∀ X, kr X → kq X) (hc4 : ∀ z1 z2 z3 X, kc4 z1 z2 z3 X → kd4 z1 z2 z3 X) (h : bX2_measure_0 c a kr kc4) : bX2_measure_0 c a kq kd4 := by
  unfold bX2_measure_0 at h ⊢
  exact hc4 _ _ _ _ h
set_option maxRecDepth 20000 in
theorem mbX2_measure_4 {c : CS} {a : Int32} {l2 : Int32} {l3 : Int32} {kr kq : CS → Prop} {kc4 kd4 : Int32 → Int32 → Int32 → CS → Prop} (hr : ∀ X, kr X → kq X) (hc4 : ∀ z1 z2 z3 X, kc4 z1 z2 z3 X → kd4 z1 z2 z3 X) (h : bX2_measure_4 c a l2 l3 kr kc4) : bX2_measure_4 c a l2 l3 kq kd4 := by
  unfold bX2_measure_4 at h ⊢
  by_cases hc : (c.1 4) ≤ l3
  · rw [if_pos hc] at h ⊢
    obtain ⟨hi, h⟩ := h
    refine And.intro hi ?_
    obtain ⟨hi, h⟩ := h
    refine And.intro hi ?_
    obtain ⟨hi, h⟩ := h
    refine And.intro hi ?_
    obtain ⟨hi, h⟩ := h
    refine And.intro hi ?_
    obtain ⟨hi, h⟩ := h
    refine And.intro hi ?_
    by_cases hc : (fX1_isBelow (c.2.2 12 (fX2_place a l2).toNatClampNeg) (fX1_plus (c.2.2 12 (fX2_place a l2).toNatClampNeg) (fX1_over (c.2.2 16 l2.toNatClampNeg) (4611686018427387904 : Int64)))) = 0
    · rw [if_pos hc] at h ⊢
      obtain ⟨hi, h⟩ := h
      refine And.intro hi ?_
      exact hr _ h
    · rw [if_neg hc] at h ⊢
      by_cases hc : (fX1_isBelow (fX1_plus (c.2.2 12 (fX2_place a l2).toNatClampNeg) (fX1_over (c.2.2 16 l2.toNatClampNeg) (4611686018427387904 : Int64))) (c.2.2 12 ((fX2_place a l2) + (1 : Int32)).toNatClampNeg)) = 0
      · rw [if_pos hc] at h ⊢
        obtain ⟨hi, h⟩ := h
        refine And.intro hi ?_
        exact hr _ h
      · rw [if_neg hc] at h ⊢
        obtain ⟨hi, h⟩ := h
        refine And.intro hi ?_
        exact hr _ h
  · rw [if_neg hc] at h ⊢
    obtain ⟨hi, h⟩ := h
    refine And.intro hi ?_
    obtain ⟨hi, h⟩ := h
    refine And.intro hi ?_
    obtain ⟨hi, h⟩ := h
    refine And.intro hi ?_
    obtain ⟨hi, h⟩ := h
    refine And.intro hi ?_
    obtain ⟨hi, h⟩ := h
    refine And.intro hi ?_
    by_cases hc : (fX1_isBelow ((setL c 16 (vp_updL (c.2.2 16) l3.toNatClampNeg (fX1_plus (c.2.2 12 ((fX2_place a l3) + (1 : Int32)).toNatClampNeg) (fX1_opposite (c.2.2 12 (fX2_place a l3).toNatClampNeg))))).2.2 16 l2.toNatClampNeg) ((setL c 16 (vp_updL (c.2.2 16) l3.toNatClampNeg (fX1_plus (c.2.2 12 ((fX2_place a l3) + (1 : Int32)).toNatClampNeg) (fX1_opposite (c.2.2 12 (fX2_place a l3).toNatClampNeg))))).2.2 16 l3.toNatClampNeg)) = 0
    · rw [if_pos hc] at h ⊢
      exact hc4 _ _ _ _ h
    · rw [if_neg hc] at h ⊢
      exact hc4 _ _ _ _ h
def itX2_measure_4 (kr : CS → Prop) : Nat → Int32 → Int32 → Int32 → CS → Prop
  | 0, _, _, _, _ => False
  | n + 1, a, l2, l3, c => bX2_measure_4 c a l2 l3 kr (fun z1 z2 z3 X => itX2_measure_4 kr n z1 z2 z3 X)
theorem miX2_measure_4 {kr kq : CS → Prop} (hr : ∀ X, kr X → kq X) : ∀ (n : Nat) (z1 : Int32) (z2 : Int32) (z3 : Int32) (X : CS), itX2_measure_4 kr n z1 z2 z3 X → itX2_measure_4 kq n z1 z2 z3 X
  | 0, _, _, _, _, h => h
  | n + 1, _, _, _, _, h => mbX2_measure_4 hr (fun _ _ _ _ h => miX2_measure_4 hr n _ _ _ _ h) h
def wX2_measure (c : CS) (a : Int32) (kr : CS → Prop) : Prop := bX2_measure_0 c a kr (fun z1 z2 z3 X => ∃ N, itX2_measure_4 kr N z1 z2 z3 X)
theorem mnX2_measure {c : CS} {a : Int32} {kr kq : CS → Prop} (hr : ∀ X, kr X → kq X) (h : wX2_measure c a kr) : wX2_measure c a kq := mbX2_measure_0 hr (fun _ _ _ _ h => h.elim fun N h => ⟨N, miX2_measure_4 hr N _ _ _ _ h⟩) h
def tX2_measure : Tr := fun as σ k => match as with
  | [.ref 11, .int a] => ∃ (c : CS) (M : aS), σ = wC c ++ M ∧ wX2_measure c a (fun X => k none (wC X ++ M))
  | _ => False
def ceX2_measure : List (Nat × Nat × Tr) := (2 * 45, 2, tX2_place) :: (2 * 65, 2, tX1_over) :: (2 * 55, 2, tX1_plus) :: (2 * 59, 2, tX1_isBelow) :: (2 * 49, 1, tX1_opposite) :: []
theorem coX2_measure (l : Launch) : CEok l yX2_measure.cls 4 ceX2_measure := ce_S (okX2_place l) (mw 367 (by decide +kernel) rfl) (mw 202 (by decide +kernel) rfl) (mw 3 (by decide +kernel) rfl) (mw 203 (by decide +kernel) rfl) (by decide) ⟨by decide, by decide⟩ (ce_S (okX1_over l) (mw 372 (by decide +kernel) rfl) (mw 294 (by decide +kernel) rfl) (mw 5 (by decide +kernel) rfl) (mw 295 (by decide +kernel) rfl) (by decide) ⟨by decide, by decide⟩ (ce_S (okX1_plus l) (mw 369 (by decide +kernel) rfl) (mw 224 (by decide +kernel) rfl) (mw 5 (by decide +kernel) rfl) (mw 225 (by decide +kernel) rfl) (by decide) ⟨by decide, by decide⟩ (ce_S (okX1_isBelow l) (mw 370 (by decide +kernel) rfl) (mw 134 (by decide +kernel) rfl) (mw 5 (by decide +kernel) rfl) (mw 135 (by decide +kernel) rfl) (by decide) ⟨by decide, by decide⟩ (ce_S (okX1_opposite l) (mw 368 (by decide +kernel) rfl) (mw 259 (by decide +kernel) rfl) (mw 5 (by decide +kernel) rfl) (mw 260 (by decide +kernel) rfl) (by decide) ⟨by decide, by decide⟩ (ce_0)))))
abbrev cutX2_measure : List (Nat × List Nat) := [(4, [0, 1, 2, 3])]
set_option maxRecDepth 20000 in
set_option maxHeartbeats 4000000 in
theorem lbX2_measure_0 {G : Nat → LV → List Value → aS → Prop} {post : Option Value → aS → Prop} (hG : ∀ n b pc lv st σ, seg (0, fun _ => 0) pgX2_measure ceX2_measure cutX2_measure G (fun v σ => rFit none v ∧ post v σ) n b pc lv st σ → G pc lv st σ) (c : CS) (M : aS) (a : Int32) (hb : bX2_measure_0 c a (fun X => rFit none none ∧ post none (wC X ++ M)) (fun z1 z2 z3 X => G 4 [(0, .ref 11), (1, .int z1), (2, .int z2), (3, .int z3)] [] (wC X ++ M))) : G 0 [(0, .ref 11), (1, .int a)] [] (wC c ++ M) := by
  unfold bX2_measure_0 at hb
  refine hG 400 false 0 _ _ _ ?_
  exact hb
set_option maxRecDepth 20000 in
set_option maxHeartbeats 4000000 in
theorem lbX2_measure_4 {G : Nat → LV → List Value → aS → Prop} {post : Option Value → aS → Prop} (hG : ∀ n b pc lv st σ, seg (0, fun _ => 0) pgX2_measure ceX2_measure cutX2_measure G (fun v σ => rFit none v ∧ post v σ) n b pc lv st σ → G pc lv st σ) (c : CS) (M : aS) (a : Int32) (l2 : Int32) (l3 : Int32) (hb : bX2_measure_4 c a l2 l3 (fun X => rFit none none ∧ post none (wC X ++ M)) (fun z1 z2 z3 X => G 4 [(0, .ref 11), (1, .int z1), (2, .int z2), (3, .int z3)] [] (wC X ++ M))) : G 4 [(0, .ref 11), (1, .int a), (2, .int l2), (3, .int l3)] [] (wC c ++ M) := by
  unfold bX2_measure_4 at hb
  refine hG 400 false 4 _ _ _ ?_
  refine And.intro (fun (h : (c.1 4) ≤ l3) => ?_) (fun (h : ¬ (c.1 4) ≤ l3) => ?_)
  · rw [if_pos h] at hb
    obtain ⟨hi, hb⟩ := hb
    refine And.intro hi ?_
    obtain ⟨hi, hb⟩ := hb
    refine And.intro hi ?_
    obtain ⟨hi, hb⟩ := hb
    refine And.intro hi ?_
    obtain ⟨hi, hb⟩ := hb
    refine And.intro hi ?_
    obtain ⟨hi, hb⟩ := hb
    refine And.intro hi ?_
    refine And.intro (fun (h : (fX1_isBelow (c.2.2 12 (fX2_place a l2).toNatClampNeg) (fX1_plus (c.2.2 12 (fX2_place a l2).toNatClampNeg) (fX1_over (c.2.2 16 l2.toNatClampNeg) (4611686018427387904 : Int64)))) = 0) => ?_) (fun (h : ¬ (fX1_isBelow (c.2.2 12 (fX2_place a l2).toNatClampNeg) (fX1_plus (c.2.2 12 (fX2_place a l2).toNatClampNeg) (fX1_over (c.2.2 16 l2.toNatClampNeg) (4611686018427387904 : Int64)))) = 0) => ?_)
    · rw [if_pos h] at hb
      obtain ⟨hi, hb⟩ := hb
      refine And.intro hi ?_
      exact hb
    · rw [if_neg h] at hb
      refine And.intro (fun (h : ¬ (fX1_isBelow (fX1_plus (c.2.2 12 (fX2_place a l2).toNatClampNeg) (fX1_over (c.2.2 16 l2.toNatClampNeg) (4611686018427387904 : Int64))) (c.2.2 12 ((fX2_place a l2) + (1 : Int32)).toNatClampNeg)) = 0) => ?_) (fun hq => have h : (fX1_isBelow (fX1_plus (c.2.2 12 (fX2_place a l2).toNatClampNeg) (fX1_over (c.2.2 16 l2.toNatClampNeg) (4611686018427387904 : Int64))) (c.2.2 12 ((fX2_place a l2) + (1 : Int32)).toNatClampNeg)) = 0 := Classical.not_not.mp hq; ?_)
      · rw [if_neg h] at hb
        obtain ⟨hi, hb⟩ := hb
        refine And.intro hi ?_
        exact hb
      · rw [if_pos h] at hb
        obtain ⟨hi, hb⟩ := hb
        refine And.intro hi ?_
        exact hb
  · rw [if_neg h] at hb
    obtain ⟨hi, hb⟩ := hb
    refine And.intro hi ?_
    obtain ⟨hi, hb⟩ := hb
    refine And.intro hi ?_
    obtain ⟨hi, hb⟩ := hb
    refine And.intro hi ?_
    obtain ⟨hi, hb⟩ := hb
    refine And.intro hi ?_
    obtain ⟨hi, hb⟩ := hb
    refine And.intro hi ?_
    refine And.intro (fun (h : (fX1_isBelow ((setL c 16 (vp_updL (c.2.2 16) l3.toNatClampNeg (fX1_plus (c.2.2 12 ((fX2_place a l3) + (1 : Int32)).toNatClampNeg) (fX1_opposite (c.2.2 12 (fX2_place a l3).toNatClampNeg))))).2.2 16 l2.toNatClampNeg) ((setL c 16 (vp_updL (c.2.2 16) l3.toNatClampNeg (fX1_plus (c.2.2 12 ((fX2_place a l3) + (1 : Int32)).toNatClampNeg) (fX1_opposite (c.2.2 12 (fX2_place a l3).toNatClampNeg))))).2.2 16 l3.toNatClampNeg)) = 0) => ?_) (fun (h : ¬ (fX1_isBelow ((setL c 16 (vp_updL (c.2.2 16) l3.toNatClampNeg (fX1_plus (c.2.2 12 ((fX2_place a l3) + (1 : Int32)).toNatClampNeg) (fX1_opposite (c.2.2 12 (fX2_place a l3).toNatClampNeg))))).2.2 16 l2.toNatClampNeg) ((setL c 16 (vp_updL (c.2.2 16) l3.toNatClampNeg (fX1_plus (c.2.2 12 ((fX2_place a l3) + (1 : Int32)).toNatClampNeg) (fX1_opposite (c.2.2 12 (fX2_place a l3).toNatClampNeg))))).2.2 16 l3.toNatClampNeg)) = 0) => ?_)
    · rw [if_pos h] at hb
      exact hb
    · rw [if_neg h] at hb
      exact hb
theorem giX2_measure_4 {G : Nat → LV → List Value → aS → Prop} {post : Option Value → aS → Prop} (hG : ∀ n b pc lv st σ, seg (0, fun _ => 0) pgX2_measure ceX2_measure cutX2_measure G (fun v σ => rFit none v ∧ post v σ) n b pc lv st σ → G pc lv st σ) (M : aS) : ∀ (n : Nat) (z1 : Int32) (z2 : Int32) (z3 : Int32) (X : CS), itX2_measure_4 (fun X => rFit none none ∧ post none (wC X ++ M)) n z1 z2 z3 X → G 4 [(0, .ref 11), (1, .int z1), (2, .int z2), (3, .int z3)] [] (wC X ++ M)
  | 0, _, _, _, _, h => h.elim
  | n + 1, _, _, _, _, h => lbX2_measure_4 hG _ M _ _ _ (mbX2_measure_4 (fun _ h => h) (fun _ _ _ _ h => giX2_measure_4 hG M n _ _ _ _ h) h)
theorem rcX2_measure : ∀ as σ kk, tX2_measure as σ kk → ∃ a r fs, as = .ref a :: r ∧ σ[a]? = some (.inr (1, fs)) := by
  intro as σ kk h
  unfold tX2_measure at h; split at h
  · obtain ⟨c, M, rfl, -⟩ := h
    exact ⟨_, _, _, rfl, rfl⟩
  · exact h.elim
set_option maxRecDepth 20000 in
theorem okX2_measure (l : Launch) : OK l yX2_measure cX2_measure 9 none 4 tX2_measure := by
  intro D τ ρ A as σ post h
  unfold tX2_measure at h; split at h
  · rename_i a; obtain ⟨c, M, rfl, hw⟩ := h
    refine met_of (P := pgX2_measure) (CE := ceX2_measure) (cut := cutX2_measure) (by decide) kkX2_measure (coX2_measure l) (Nat.le_of_ble_eq_true rfl) ?_
    intro G hG
    unfold wX2_measure at hw
    refine lbX2_measure_0 hG c M a (mbX2_measure_0 ?_ ?_ hw)
    · exact fun _ h => ⟨trivial, h⟩
    · intro _ _ _ _ ⟨N, h⟩; exact giX2_measure_4 hG M N _ _ _ _ (miX2_measure_4 (fun _ h => ⟨trivial, h⟩) N _ _ _ _ h)
  · exact h.elim
def bX2_split_0 (c : CS) (a : Int32) (kr : Int32 → CS → Prop) (kc7 : Int32 → Int32 → Int32 → CS → Prop) : Prop :=
  kc7 a (c.1 3) (0 : Int32) c
def bX2_split_7 (c : CS) (a : Int32) (l2 : Int32) (l3 : Int32) (kr : Int32 → CS → Prop) (kc7 : Int32 → Int32 → Int32 → CS → Prop) : Prop :=
  (if (6 : Int32) ≤ l3 then
    (vp_in a 100 ∧ (vp_in a 100 ∧ (vp_in ((fX2_place a (c.2.1 17 a.toNatClampNeg)) + (1 : Int32)) 600 ∧ (vp_in a 100 ∧ (vp_in a 100 ∧ (vp_in (fX2_place l2 ((setL c 12 (vp_updL (c.2.2 12) ((fX2_place a (c.2.1 17 a.toNatClampNeg)) + (1 : Int32)).toNatClampNeg (c.2.2 18 a.toNatClampNeg))).2.1 17 a.toNatClampNeg)) 600 ∧ kr l2 (setI (setL (setL c 12 (vp_updL (c.2.2 12) ((fX2_place a (c.2.1 17 a.toNatClampNeg)) + (1 : Int32)).toNatClampNeg (c.2.2 18 a.toNatClampNeg))) 12 (vp_updL ((setL c 12 (vp_updL (c.2.2 12) ((fX2_place a (c.2.1 17 a.toNatClampNeg)) + (1 : Int32)).toNatClampNeg (c.2.2 18 a.toNatClampNeg))).2.2 12) (fX2_place l2 ((setL c 12 (vp_updL (c.2.2 12) ((fX2_place a (c.2.1 17 a.toNatClampNeg)) + (1 : Int32)).toNatClampNeg (c.2.2 18 a.toNatClampNeg))).2.1 17 a.toNatClampNeg)).toNatClampNeg ((setL c 12 (vp_updL (c.2.2 12) ((fX2_place a (c.2.1 17 a.toNatClampNeg)) + (1 : Int32)).toNatClampNeg (c.2.2 18 a.toNatClampNeg))).2.2 18 a.toNatClampNeg))) 3 (((setL (setL c 12 (vp_updL (c.2.2 12) ((fX2_place a (c.2.1 17 a.toNatClampNeg)) + (1 : Int32)).toNatClampNeg (c.2.2 18 a.toNatClampNeg))) 12 (vp_updL ((setL c 12 (vp_updL (c.2.2 12) ((fX2_place a (c.2.1 17 a.toNatClampNeg)) + (1 : Int32)).toNatClampNeg (c.2.2 18 a.toNatClampNeg))).2.2 12) (fX2_place l2 ((setL c 12 (vp_updL (c.2.2 12) ((fX2_place a (c.2.1 17 a.toNatClampNeg)) + (1 : Int32)).toNatClampNeg (c.2.2 18 a.toNatClampNeg))).2.1 17 a.toNatClampNeg)).toNatClampNeg ((setL c 12 (vp_updL (c.2.2 12) ((fX2_place a (c.2.1 17 a.toNatClampNeg)) + (1 : Int32)).toNatClampNeg (c.2.2 18 a.toNatClampNeg))).2.2 18 a.toNatClampNeg))).1 3) + (1 : Int32)))))))))
  else
    (vp_in ((fX2_place a (0 : Int32)) + l3) 600 ∧ (vp_in ((fX2_place l2 (0 : Int32)) + l3) 600 ∧ kc7 a l2 (l3 + (1 : Int32)) (setL c 12 (vp_updL (c.2.2 12) ((fX2_place l2 (0 : Int32)) + l3).toNatClampNeg (c.2.2 12 ((fX2_place a (0 : Int32)) + l3).toNatClampNeg))))))
set_option maxRecDepth 20000 in
theorem mbX2_split_0 {c : CS} {a : Int32} {kr kq : Int32 → CS → Prop} {kc7 kd7 : Int32 → Int32 → Int32 → CS → Prop} (hr : ∀ x X, kr x X → kq x X) (hc7 : ∀ z1 z2 z3 X, kc7 z1 z2 z3 X → kd7 z1 z2 z3 X) (h : bX2_split_0 c a kr kc7) : bX2_split_0 c a kq kd7 := by
  unfold bX2_split_0 at h ⊢
  exact hc7 _ _ _ _ h
set_option maxRecDepth 20000 in
theorem mbX2_split_7 {c : CS} {a : Int32} {l2 : Int32} {l3 : Int32} {kr kq : Int32 → CS → Prop} {kc7 kd7 : Int32 → Int32 → Int32 → CS → Prop} (hr : ∀ x X, kr x X → kq x X) (hc7 : ∀ z1 z2 z3 X, kc7 z1 z2 z3 X → kd7 z1 z2 z3 X) (h : bX2_split_7 c a l2 l3 kr kc7) : bX2_split_7 c a l2 l3 kq kd7 := by
  unfold bX2_split_7 at h ⊢
  by_cases hc : (6 : Int32) ≤ l3
  · rw [if_pos hc] at h ⊢
    obtain ⟨hi, h⟩ := h
    refine And.intro hi ?_
    obtain ⟨hi, h⟩ := h
    refine And.intro hi ?_
    obtain ⟨hi, h⟩ := h
    refine And.intro hi ?_
    obtain ⟨hi, h⟩ := h
    refine And.intro hi ?_
    obtain ⟨hi, h⟩ := h
    refine And.intro hi ?_
    obtain ⟨hi, h⟩ := h
    refine And.intro hi ?_
    exact hr _ _ h
  · rw [if_neg hc] at h ⊢
    obtain ⟨hi, h⟩ := h
    refine And.intro hi ?_
    obtain ⟨hi, h⟩ := h
    refine And.intro hi ?_
    exact hc7 _ _ _ _ h
def itX2_split_7 (kr : Int32 → CS → Prop) : Nat → Int32 → Int32 → Int32 → CS → Prop
  | 0, _, _, _, _ => False
  | n + 1, a, l2, l3, c => bX2_split_7 c a l2 l3 kr (fun z1 z2 z3 X => itX2_split_7 kr n z1 z2 z3 X)
theorem miX2_split_7 {kr kq : Int32 → CS → Prop} (hr : ∀ x X, kr x X → kq x X) : ∀ (n : Nat) (z1 : Int32) (z2 : Int32) (z3 : Int32) (X : CS), itX2_split_7 kr n z1 z2 z3 X → itX2_split_7 kq n z1 z2 z3 X
  | 0, _, _, _, _, h => h
  | n + 1, _, _, _, _, h => mbX2_split_7 hr (fun _ _ _ _ h => miX2_split_7 hr n _ _ _ _ h) h
def wX2_split (c : CS) (a : Int32) (kr : Int32 → CS → Prop) : Prop := bX2_split_0 c a kr (fun z1 z2 z3 X => ∃ N, itX2_split_7 kr N z1 z2 z3 X)
theorem mnX2_split {c : CS} {a : Int32} {kr kq : Int32 → CS → Prop} (hr : ∀ x X, kr x X → kq x X) (h : wX2_split c a kr) : wX2_split c a kq := mbX2_split_0 hr (fun _ _ _ _ h => h.elim fun N h => ⟨N, miX2_split_7 hr N _ _ _ _ h⟩) h
def tX2_split : Tr := fun as σ k => match as with
  | [.ref 11, .int a] => ∃ (c : CS) (M : aS), σ = wC c ++ M ∧ wX2_split c a (fun x X => k (some (.int x)) (wC X ++ M))
  | _ => False
def ceX2_split : List (Nat × Nat × Tr) := (2 * 45, 2, tX2_place) :: []
theorem coX2_split (l : Launch) : CEok l yX2_split.cls 1 ceX2_split := ce_S (okX2_place l) (mw 367 (by decide +kernel) rfl) (mw 202 (by decide +kernel) rfl) (mw 3 (by decide +kernel) rfl) (mw 203 (by decide +kernel) rfl) (by decide) ⟨by decide, by decide⟩ (ce_0)
abbrev cutX2_split : List (Nat × List Nat) := [(7, [0, 1, 2, 3])]
set_option maxRecDepth 20000 in
set_option maxHeartbeats 4000000 in
theorem lbX2_split_0 {G : Nat → LV → List Value → aS → Prop} {post : Option Value → aS → Prop} (hG : ∀ n b pc lv st σ, seg (0, fun _ => 0) pgX2_split ceX2_split cutX2_split G (fun v σ => rFit (some .int) v ∧ post v σ) n b pc lv st σ → G pc lv st σ) (c : CS) (M : aS) (a : Int32) (hb : bX2_split_0 c a (fun x X => rFit (some .int) (some (.int x)) ∧ post (some (.int x)) (wC X ++ M)) (fun z1 z2 z3 X => G 7 [(0, .ref 11), (1, .int z1), (2, .int z2), (3, .int z3)] [] (wC X ++ M))) : G 0 [(0, .ref 11), (1, .int a)] [] (wC c ++ M) := by
  unfold bX2_split_0 at hb
  refine hG 400 false 0 _ _ _ ?_
  exact hb
set_option maxRecDepth 20000 in
set_option maxHeartbeats 4000000 in
theorem lbX2_split_7 {G : Nat → LV → List Value → aS → Prop} {post : Option Value → aS → Prop} (hG : ∀ n b pc lv st σ, seg (0, fun _ => 0) pgX2_split ceX2_split cutX2_split G (fun v σ => rFit (some .int) v ∧ post v σ) n b pc lv st σ → G pc lv st σ) (c : CS) (M : aS) (a : Int32) (l2 : Int32) (l3 : Int32) (hb : bX2_split_7 c a l2 l3 (fun x X => rFit (some .int) (some (.int x)) ∧ post (some (.int x)) (wC X ++ M)) (fun z1 z2 z3 X => G 7 [(0, .ref 11), (1, .int z1), (2, .int z2), (3, .int z3)] [] (wC X ++ M))) : G 7 [(0, .ref 11), (1, .int a), (2, .int l2), (3, .int l3)] [] (wC c ++ M) := by
  unfold bX2_split_7 at hb
  refine hG 400 false 7 _ _ _ ?_
  refine And.intro (fun (h : (6 : Int32) ≤ l3) => ?_) (fun (h : ¬ (6 : Int32) ≤ l3) => ?_)
  · rw [if_pos h] at hb
    obtain ⟨hi, hb⟩ := hb
    refine And.intro hi ?_
    obtain ⟨hi, hb⟩ := hb
    refine And.intro hi ?_
    obtain ⟨hi, hb⟩ := hb
    refine And.intro hi ?_
    obtain ⟨hi, hb⟩ := hb
    refine And.intro hi ?_
    obtain ⟨hi, hb⟩ := hb
    refine And.intro hi ?_
    obtain ⟨hi, hb⟩ := hb
    refine And.intro hi ?_
    exact hb
  · rw [if_neg h] at hb
    obtain ⟨hi, hb⟩ := hb
    refine And.intro hi ?_
    obtain ⟨hi, hb⟩ := hb
    refine And.intro hi ?_
    exact hb
theorem giX2_split_7 {G : Nat → LV → List Value → aS → Prop} {post : Option Value → aS → Prop} (hG : ∀ n b pc lv st σ, seg (0, fun _ => 0) pgX2_split ceX2_split cutX2_split G (fun v σ => rFit (some .int) v ∧ post v σ) n b pc lv st σ → G pc lv st σ) (M : aS) : ∀ (n : Nat) (z1 : Int32) (z2 : Int32) (z3 : Int32) (X : CS), itX2_split_7 (fun x X => rFit (some .int) (some (.int x)) ∧ post (some (.int x)) (wC X ++ M)) n z1 z2 z3 X → G 7 [(0, .ref 11), (1, .int z1), (2, .int z2), (3, .int z3)] [] (wC X ++ M)
  | 0, _, _, _, _, h => h.elim
  | n + 1, _, _, _, _, h => lbX2_split_7 hG _ M _ _ _ (mbX2_split_7 (fun _ _ h => h) (fun _ _ _ _ h => giX2_split_7 hG M n _ _ _ _ h) h)
theorem rcX2_split : ∀ as σ kk, tX2_split as σ kk → ∃ a r fs, as = .ref a :: r ∧ σ[a]? = some (.inr (1, fs)) := by
  intro as σ kk h
  unfold tX2_split at h; split at h
  · obtain ⟨c, M, rfl, -⟩ := h
    exact ⟨_, _, _, rfl, rfl⟩
  · exact h.elim
set_option maxRecDepth 20000 in
theorem okX2_split (l : Launch) : OK l yX2_split cX2_split 4 (some .int) 1 tX2_split := by
  intro D τ ρ A as σ post h
  unfold tX2_split at h; split at h
  · rename_i a; obtain ⟨c, M, rfl, hw⟩ := h
    refine met_of (P := pgX2_split) (CE := ceX2_split) (cut := cutX2_split) (by decide) kkX2_split (coX2_split l) (Nat.le_of_ble_eq_true rfl) ?_
    intro G hG
    unfold wX2_split at hw
    refine lbX2_split_0 hG c M a (mbX2_split_0 ?_ ?_ hw)
    · exact fun _ _ h => ⟨trivial, h⟩
    · intro _ _ _ _ ⟨N, h⟩; exact giX2_split_7 hG M N _ _ _ _ (miX2_split_7 (fun _ _ h => ⟨trivial, h⟩) N _ _ _ _ h)
  · exact h.elim
def bX2_heaviest_0 (c : CS)  (kr : Int32 → CS → Prop) (kc5 : Int32 → Int32 → CS → Prop) : Prop :=
  kc5 (-5 : Int32) (0 : Int32) c
def bX2_heaviest_5 (c : CS) (l1 : Int32) (l2 : Int32) (kr : Int32 → CS → Prop) (kc5 : Int32 → Int32 → CS → Prop) : Prop :=
  (if (c.1 3) ≤ l2 then
    kr l1 c
  else
    (vp_in l2 100 ∧ (if (c.2.1 15 l2.toNatClampNeg) = (3 : Int32) then
      (vp_in l2 100 ∧ (if (c.2.1 19 l2.toNatClampNeg) = 0 then
        (if l1 = (-5 : Int32) then
          kc5 l2 (l2 + (1 : Int32)) c
        else
          (vp_in l1 100 ∧ (vp_in l2 100 ∧ (if (fX1_isBelow (c.2.2 14 l1.toNatClampNeg) (c.2.2 14 l2.toNatClampNeg)) = 0 then
            kc5 l1 (l2 + (1 : Int32)) c
          else
            kc5 l2 (l2 + (1 : Int32)) c))))
      else
        kc5 l1 (l2 + (1 : Int32)) c))
    else
      kc5 l1 (l2 + (1 : Int32)) c)))
set_option maxRecDepth 20000 in
theorem mbX2_heaviest_0 {c : CS}  {kr kq : Int32 → CS → Prop} {kc5 kd5 : Int32 → Int32 → CS → Prop} (hr : ∀ x X, kr x X → kq x X) (hc5 : ∀ z1 z2 X, kc5 z1 z2 X → kd5 z1 z2 X) (h : bX2_heaviest_0 c  kr kc5) : bX2_heaviest_0 c  kq kd5 := by
  unfold bX2_heaviest_0 at h ⊢
  exact hc5 _ _ _ h
set_option maxRecDepth 20000 in
theorem mbX2_heaviest_5 {c : CS} {l1 : Int32} {l2 : Int32} {kr kq : Int32 → CS → Prop} {kc5 kd5 : Int32 → Int32 → CS → Prop} (hr : ∀ x X, kr x X → kq x X) (hc5 : ∀ z1 z2 X, kc5 z1 z2 X → kd5 z1 z2 X) (h : bX2_heaviest_5 c l1 l2 kr kc5) : bX2_heaviest_5 c l1 l2 kq kd5 := by
  unfold bX2_heaviest_5 at h ⊢
  by_cases hc : (c.1 3) ≤ l2
  · rw [if_pos hc] at h ⊢
    exact hr _ _ h
  · rw [if_neg hc] at h ⊢
    obtain ⟨hi, h⟩ := h
    refine And.intro hi ?_
    by_cases hc : (c.2.1 15 l2.toNatClampNeg) = (3 : Int32)
    · rw [if_pos hc] at h ⊢
      obtain ⟨hi, h⟩ := h
      refine And.intro hi ?_
      by_cases hc : (c.2.1 19 l2.toNatClampNeg) = 0
      · rw [if_pos hc] at h ⊢
        by_cases hc : l1 = (-5 : Int32)
        · rw [if_pos hc] at h ⊢
          exact hc5 _ _ _ h
        · rw [if_neg hc] at h ⊢
          obtain ⟨hi, h⟩ := h
          refine And.intro hi ?_
          obtain ⟨hi, h⟩ := h
          refine And.intro hi ?_
          by_cases hc : (fX1_isBelow (c.2.2 14 l1.toNatClampNeg) (c.2.2 14 l2.toNatClampNeg)) = 0
          · rw [if_pos hc] at h ⊢
            exact hc5 _ _ _ h
          · rw [if_neg hc] at h ⊢
            exact hc5 _ _ _ h
      · rw [if_neg hc] at h ⊢
        exact hc5 _ _ _ h
    · rw [if_neg hc] at h ⊢
      exact hc5 _ _ _ h
def itX2_heaviest_5 (kr : Int32 → CS → Prop) : Nat → Int32 → Int32 → CS → Prop
  | 0, _, _, _ => False
  | n + 1, l1, l2, c => bX2_heaviest_5 c l1 l2 kr (fun z1 z2 X => itX2_heaviest_5 kr n z1 z2 X)
theorem miX2_heaviest_5 {kr kq : Int32 → CS → Prop} (hr : ∀ x X, kr x X → kq x X) : ∀ (n : Nat) (z1 : Int32) (z2 : Int32) (X : CS), itX2_heaviest_5 kr n z1 z2 X → itX2_heaviest_5 kq n z1 z2 X
  | 0, _, _, _, h => h
  | n + 1, _, _, _, h => mbX2_heaviest_5 hr (fun _ _ _ h => miX2_heaviest_5 hr n _ _ _ h) h
def wX2_heaviest (c : CS)  (kr : Int32 → CS → Prop) : Prop := bX2_heaviest_0 c  kr (fun z1 z2 X => ∃ N, itX2_heaviest_5 kr N z1 z2 X)
theorem mnX2_heaviest {c : CS}  {kr kq : Int32 → CS → Prop} (hr : ∀ x X, kr x X → kq x X) (h : wX2_heaviest c  kr) : wX2_heaviest c  kq := mbX2_heaviest_0 hr (fun _ _ _ h => h.elim fun N h => ⟨N, miX2_heaviest_5 hr N _ _ _ h⟩) h
def tX2_heaviest : Tr := fun as σ k => match as with
  | [.ref 11] => ∃ (c : CS) (M : aS), σ = wC c ++ M ∧ wX2_heaviest c  (fun x X => k (some (.int x)) (wC X ++ M))
  | _ => False
def ceX2_heaviest : List (Nat × Nat × Tr) := (2 * 59, 2, tX1_isBelow) :: []
theorem coX2_heaviest (l : Launch) : CEok l yX2_heaviest.cls 2 ceX2_heaviest := ce_S (okX1_isBelow l) (mw 370 (by decide +kernel) rfl) (mw 134 (by decide +kernel) rfl) (mw 5 (by decide +kernel) rfl) (mw 135 (by decide +kernel) rfl) (by decide) ⟨by decide, by decide⟩ (ce_0)
abbrev cutX2_heaviest : List (Nat × List Nat) := [(5, [0, 1, 2])]
set_option maxRecDepth 20000 in
set_option maxHeartbeats 4000000 in
theorem lbX2_heaviest_0 {G : Nat → LV → List Value → aS → Prop} {post : Option Value → aS → Prop} (hG : ∀ n b pc lv st σ, seg (0, fun _ => 0) pgX2_heaviest ceX2_heaviest cutX2_heaviest G (fun v σ => rFit (some .int) v ∧ post v σ) n b pc lv st σ → G pc lv st σ) (c : CS) (M : aS)  (hb : bX2_heaviest_0 c  (fun x X => rFit (some .int) (some (.int x)) ∧ post (some (.int x)) (wC X ++ M)) (fun z1 z2 X => G 5 [(0, .ref 11), (1, .int z1), (2, .int z2)] [] (wC X ++ M))) : G 0 [(0, .ref 11)] [] (wC c ++ M) := by
  unfold bX2_heaviest_0 at hb
  refine hG 400 false 0 _ _ _ ?_
  exact hb
set_option maxRecDepth 20000 in
set_option maxHeartbeats 4000000 in
theorem lbX2_heaviest_5 {G : Nat → LV → List Value → aS → Prop} {post : Option Value → aS → Prop} (hG : ∀ n b pc lv st σ, seg (0, fun _ => 0) pgX2_heaviest ceX2_heaviest cutX2_heaviest G (fun v σ => rFit (some .int) v ∧ post v σ) n b pc lv st σ → G pc lv st σ) (c : CS) (M : aS) (l1 : Int32) (l2 : Int32) (hb : bX2_heaviest_5 c l1 l2 (fun x X => rFit (some .int) (some (.int x)) ∧ post (some (.int x)) (wC X ++ M)) (fun z1 z2 X => G 5 [(0, .ref 11), (1, .int z1), (2, .int z2)] [] (wC X ++ M))) : G 5 [(0, .ref 11), (1, .int l1), (2, .int l2)] [] (wC c ++ M) := by
  unfold bX2_heaviest_5 at hb
  refine hG 400 false 5 _ _ _ ?_
  refine And.intro (fun (h : (c.1 3) ≤ l2) => ?_) (fun (h : ¬ (c.1 3) ≤ l2) => ?_)
  · rw [if_pos h] at hb
    exact hb
  · rw [if_neg h] at hb
    obtain ⟨hi, hb⟩ := hb
    refine And.intro hi ?_
    refine And.intro (fun (h : ¬ (c.2.1 15 l2.toNatClampNeg) = (3 : Int32)) => ?_) (fun hq => have h : (c.2.1 15 l2.toNatClampNeg) = (3 : Int32) := Classical.not_not.mp hq; ?_)
    · rw [if_neg h] at hb
      exact hb
    · rw [if_pos h] at hb
      obtain ⟨hi, hb⟩ := hb
      refine And.intro hi ?_
      refine And.intro (fun (h : (c.2.1 19 l2.toNatClampNeg) = 0) => ?_) (fun (h : ¬ (c.2.1 19 l2.toNatClampNeg) = 0) => ?_)
      · rw [if_pos h] at hb
        refine And.intro (fun (h : l1 = (-5 : Int32)) => ?_) (fun (h : ¬ l1 = (-5 : Int32)) => ?_)
        · rw [if_pos h] at hb
          exact hb
        · rw [if_neg h] at hb
          obtain ⟨hi, hb⟩ := hb
          refine And.intro hi ?_
          obtain ⟨hi, hb⟩ := hb
          refine And.intro hi ?_
          refine And.intro (fun (h : (fX1_isBelow (c.2.2 14 l1.toNatClampNeg) (c.2.2 14 l2.toNatClampNeg)) = 0) => ?_) (fun (h : ¬ (fX1_isBelow (c.2.2 14 l1.toNatClampNeg) (c.2.2 14 l2.toNatClampNeg)) = 0) => ?_)
          · rw [if_pos h] at hb
            exact hb
          · rw [if_neg h] at hb
            exact hb
      · rw [if_neg h] at hb
        exact hb
theorem giX2_heaviest_5 {G : Nat → LV → List Value → aS → Prop} {post : Option Value → aS → Prop} (hG : ∀ n b pc lv st σ, seg (0, fun _ => 0) pgX2_heaviest ceX2_heaviest cutX2_heaviest G (fun v σ => rFit (some .int) v ∧ post v σ) n b pc lv st σ → G pc lv st σ) (M : aS) : ∀ (n : Nat) (z1 : Int32) (z2 : Int32) (X : CS), itX2_heaviest_5 (fun x X => rFit (some .int) (some (.int x)) ∧ post (some (.int x)) (wC X ++ M)) n z1 z2 X → G 5 [(0, .ref 11), (1, .int z1), (2, .int z2)] [] (wC X ++ M)
  | 0, _, _, _, h => h.elim
  | n + 1, _, _, _, h => lbX2_heaviest_5 hG _ M _ _ (mbX2_heaviest_5 (fun _ _ h => h) (fun _ _ _ h => giX2_heaviest_5 hG M n _ _ _ h) h)
theorem rcX2_heaviest : ∀ as σ kk, tX2_heaviest as σ kk → ∃ a r fs, as = .ref a :: r ∧ σ[a]? = some (.inr (1, fs)) := by
  intro as σ kk h
  unfold tX2_heaviest at h; split at h
  · obtain ⟨c, M, rfl, -⟩ := h
    exact ⟨_, _, _, rfl, rfl⟩
  · exact h.elim
set_option maxRecDepth 20000 in
theorem okX2_heaviest (l : Launch) : OK l yX2_heaviest cX2_heaviest 3 (some .int) 2 tX2_heaviest := by
  intro D τ ρ A as σ post h
  unfold tX2_heaviest at h; split at h
  · obtain ⟨c, M, rfl, hw⟩ := h
    refine met_of (P := pgX2_heaviest) (CE := ceX2_heaviest) (cut := cutX2_heaviest) (by decide) kkX2_heaviest (coX2_heaviest l) (Nat.le_of_ble_eq_true rfl) ?_
    intro G hG
    unfold wX2_heaviest at hw
    refine lbX2_heaviest_0 hG c M  (mbX2_heaviest_0 ?_ ?_ hw)
    · exact fun _ _ h => ⟨trivial, h⟩
    · intro _ _ _ ⟨N, h⟩; exact giX2_heaviest_5 hG M N _ _ _ (miX2_heaviest_5 (fun _ _ h => ⟨trivial, h⟩) N _ _ _ h)
  · exact h.elim
def bX2_holds_0 (c : CS) (a : Int32) (b : Int64) (d : Int64) (e : Int64) (kr : Int32 → CS → Prop) (kc3 : Int32 → Int64 → Int64 → Int64 → Int32 → CS → Prop) : Prop :=
  kc3 a b d e (0 : Int32) c
def bX2_holds_3 (c : CS) (a : Int32) (b : Int64) (d : Int64) (e : Int64) (l8 : Int32) (kr : Int32 → CS → Prop) (kc3 : Int32 → Int64 → Int64 → Int64 → Int32 → CS → Prop) : Prop :=
  (if (c.1 4) ≤ l8 then
    kr (1 : Int32) c
  else
    (vp_in (fX2_place a l8) 600 ∧ (vp_in ((fX2_place a l8) + (1 : Int32)) 600 ∧ (if (fX1_isFromTo (fX1_ofThree l8 b d e) (c.2.2 12 (fX2_place a l8).toNatClampNeg) (c.2.2 12 ((fX2_place a l8) + (1 : Int32)).toNatClampNeg)) = 0 then
      kr (0 : Int32) c
    else
      kc3 a b d e (l8 + (1 : Int32)) c))))
set_option maxRecDepth 20000 in
theorem mbX2_holds_0 {c : CS} {a : Int32} {b : Int64} {d : Int64} {e : Int64} {kr kq : Int32 → CS → Prop} {kc3 kd3 : Int32 → Int64 → Int64 → Int64 → Int32 → CS → Prop} (hr : ∀ x X, (x = 0 ∨ x = 1) → kr x X → kq x X) (hc3 : ∀ z1 z2 z4 z6 z8 X, kc3 z1 z2 z4 z6 z8 X → kd3 z1 z2 z4 z6 z8 X) (h : bX2_holds_0 c a b d e kr kc3) : bX2_holds_0 c a b d e kq kd3 := by
  unfold bX2_holds_0 at h ⊢
  exact hc3 _ _ _ _ _ _ h
set_option maxRecDepth 20000 in
theorem mbX2_holds_3 {c : CS} {a : Int32} {b : Int64} {d : Int64} {e : Int64} {l8 : Int32} {kr kq : Int32 → CS → Prop} {kc3 kd3 : Int32 → Int64 → Int64 → Int64 → Int32 → CS → Prop} (hr : ∀ x X, (x = 0 ∨ x = 1) → kr x X → kq x X) (hc3 : ∀ z1 z2 z4 z6 z8 X, kc3 z1 z2 z4 z6 z8 X → kd3 z1 z2 z4 z6 z8 X) (h : bX2_holds_3 c a b d e l8 kr kc3) : bX2_holds_3 c a b d e l8 kq kd3 := by
  unfold bX2_holds_3 at h ⊢
  by_cases hc : (c.1 4) ≤ l8
  · rw [if_pos hc] at h ⊢
    exact hr _ _ (Or.inr rfl) h
  · rw [if_neg hc] at h ⊢
    obtain ⟨hi, h⟩ := h
    refine And.intro hi ?_
    obtain ⟨hi, h⟩ := h
    refine And.intro hi ?_
    by_cases hc : (fX1_isFromTo (fX1_ofThree l8 b d e) (c.2.2 12 (fX2_place a l8).toNatClampNeg) (c.2.2 12 ((fX2_place a l8) + (1 : Int32)).toNatClampNeg)) = 0
    · rw [if_pos hc] at h ⊢
      exact hr _ _ (Or.inl rfl) h
    · rw [if_neg hc] at h ⊢
      exact hc3 _ _ _ _ _ _ h
def itX2_holds_3 (kr : Int32 → CS → Prop) : Nat → Int32 → Int64 → Int64 → Int64 → Int32 → CS → Prop
  | 0, _, _, _, _, _, _ => False
  | n + 1, a, b, d, e, l8, c => bX2_holds_3 c a b d e l8 kr (fun z1 z2 z4 z6 z8 X => itX2_holds_3 kr n z1 z2 z4 z6 z8 X)
theorem miX2_holds_3 {kr kq : Int32 → CS → Prop} (hr : ∀ x X, (x = 0 ∨ x = 1) → kr x X → kq x X) : ∀ (n : Nat) (z1 : Int32) (z2 : Int64) (z4 : Int64) (z6 : Int64) (z8 : Int32) (X : CS), itX2_holds_3 kr n z1 z2 z4 z6 z8 X → itX2_holds_3 kq n z1 z2 z4 z6 z8 X
  | 0, _, _, _, _, _, _, h => h
  | n + 1, _, _, _, _, _, _, h => mbX2_holds_3 hr (fun _ _ _ _ _ _ h => miX2_holds_3 hr n _ _ _ _ _ _ h) h
def wX2_holds (c : CS) (a : Int32) (b : Int64) (d : Int64) (e : Int64) (kr : Int32 → CS → Prop) : Prop := bX2_holds_0 c a b d e kr (fun z1 z2 z4 z6 z8 X => ∃ N, itX2_holds_3 kr N z1 z2 z4 z6 z8 X)
theorem mnX2_holds {c : CS} {a : Int32} {b : Int64} {d : Int64} {e : Int64} {kr kq : Int32 → CS → Prop} (hr : ∀ x X, (x = 0 ∨ x = 1) → kr x X → kq x X) (h : wX2_holds c a b d e kr) : wX2_holds c a b d e kq := mbX2_holds_0 hr (fun _ _ _ _ _ _ h => h.elim fun N h => ⟨N, miX2_holds_3 hr N _ _ _ _ _ _ h⟩) h
def tX2_holds : Tr := fun as σ k => match as with
  | [.ref 11, .int a, .long b, .long d, .long e] => ∃ (c : CS) (M : aS), σ = wC c ++ M ∧ wX2_holds c a b d e (fun x X => k (some (.int x)) (wC X ++ M))
  | _ => False
def ceX2_holds : List (Nat × Nat × Tr) := (2 * 45, 2, tX2_place) :: (2 * 68, 4, tX1_ofThree) :: (2 * 72, 3, tX1_isFromTo) :: []
theorem coX2_holds (l : Launch) : CEok l yX2_holds.cls 2 ceX2_holds := ce_S (okX2_place l) (mw 367 (by decide +kernel) rfl) (mw 202 (by decide +kernel) rfl) (mw 3 (by decide +kernel) rfl) (mw 203 (by decide +kernel) rfl) (by decide) ⟨by decide, by decide⟩ (ce_S (okX1_ofThree l) (mw 444 (by decide +kernel) rfl) (mw 434 (by decide +kernel) rfl) (mw 5 (by decide +kernel) rfl) (mw 435 (by decide +kernel) rfl) (by decide) ⟨by decide, by decide⟩ (ce_S (okX1_isFromTo l) (mw 445 (by decide +kernel) rfl) (mw 446 (by decide +kernel) rfl) (mw 5 (by decide +kernel) rfl) (mw 447 (by decide +kernel) rfl) (by decide) ⟨by decide, by decide⟩ (ce_0)))
abbrev cutX2_holds : List (Nat × List Nat) := [(3, [0, 1, 2, 4, 6, 8])]
set_option maxRecDepth 20000 in
set_option maxHeartbeats 4000000 in
theorem lbX2_holds_0 {G : Nat → LV → List Value → aS → Prop} {post : Option Value → aS → Prop} (hG : ∀ n b pc lv st σ, seg (0, fun _ => 0) pgX2_holds ceX2_holds cutX2_holds G (fun v σ => rFit (some .boolean) v ∧ post v σ) n b pc lv st σ → G pc lv st σ) (c : CS) (M : aS) (a : Int32) (b : Int64) (d : Int64) (e : Int64) (hb : bX2_holds_0 c a b d e (fun x X => rFit (some .boolean) (some (.int x)) ∧ post (some (.int x)) (wC X ++ M)) (fun z1 z2 z4 z6 z8 X => G 3 [(0, .ref 11), (1, .int z1), (2, .long z2), (4, .long z4), (6, .long z6), (8, .int z8)] [] (wC X ++ M))) : G 0 [(0, .ref 11), (1, .int a), (2, .long b), (4, .long d), (6, .long e)] [] (wC c ++ M) := by
  unfold bX2_holds_0 at hb
  refine hG 400 false 0 _ _ _ ?_
  exact hb
set_option maxRecDepth 20000 in
set_option maxHeartbeats 4000000 in
theorem lbX2_holds_3 {G : Nat → LV → List Value → aS → Prop} {post : Option Value → aS → Prop} (hG : ∀ n b pc lv st σ, seg (0, fun _ => 0) pgX2_holds ceX2_holds cutX2_holds G (fun v σ => rFit (some .boolean) v ∧ post v σ) n b pc lv st σ → G pc lv st σ) (c : CS) (M : aS) (a : Int32) (b : Int64) (d : Int64) (e : Int64) (l8 : Int32) (hb : bX2_holds_3 c a b d e l8 (fun x X => rFit (some .boolean) (some (.int x)) ∧ post (some (.int x)) (wC X ++ M)) (fun z1 z2 z4 z6 z8 X => G 3 [(0, .ref 11), (1, .int z1), (2, .long z2), (4, .long z4), (6, .long z6), (8, .int z8)] [] (wC X ++ M))) : G 3 [(0, .ref 11), (1, .int a), (2, .long b), (4, .long d), (6, .long e), (8, .int l8)] [] (wC c ++ M) := by
  unfold bX2_holds_3 at hb
  refine hG 400 false 3 _ _ _ ?_
  refine And.intro (fun (h : (c.1 4) ≤ l8) => ?_) (fun (h : ¬ (c.1 4) ≤ l8) => ?_)
  · rw [if_pos h] at hb
    exact hb
  · rw [if_neg h] at hb
    obtain ⟨hi, hb⟩ := hb
    refine And.intro hi ?_
    obtain ⟨hi, hb⟩ := hb
    refine And.intro hi ?_
    refine And.intro (fun (h : ¬ (fX1_isFromTo (fX1_ofThree l8 b d e) (c.2.2 12 (fX2_place a l8).toNatClampNeg) (c.2.2 12 ((fX2_place a l8) + (1 : Int32)).toNatClampNeg)) = 0) => ?_) (fun hq => have h : (fX1_isFromTo (fX1_ofThree l8 b d e) (c.2.2 12 (fX2_place a l8).toNatClampNeg) (c.2.2 12 ((fX2_place a l8) + (1 : Int32)).toNatClampNeg)) = 0 := Classical.not_not.mp hq; ?_)
    · rw [if_neg h] at hb
      exact hb
    · rw [if_pos h] at hb
      exact hb
theorem giX2_holds_3 {G : Nat → LV → List Value → aS → Prop} {post : Option Value → aS → Prop} (hG : ∀ n b pc lv st σ, seg (0, fun _ => 0) pgX2_holds ceX2_holds cutX2_holds G (fun v σ => rFit (some .boolean) v ∧ post v σ) n b pc lv st σ → G pc lv st σ) (M : aS) : ∀ (n : Nat) (z1 : Int32) (z2 : Int64) (z4 : Int64) (z6 : Int64) (z8 : Int32) (X : CS), itX2_holds_3 (fun x X => rFit (some .boolean) (some (.int x)) ∧ post (some (.int x)) (wC X ++ M)) n z1 z2 z4 z6 z8 X → G 3 [(0, .ref 11), (1, .int z1), (2, .long z2), (4, .long z4), (6, .long z6), (8, .int z8)] [] (wC X ++ M)
  | 0, _, _, _, _, _, _, h => h.elim
  | n + 1, _, _, _, _, _, _, h => lbX2_holds_3 hG _ M _ _ _ _ _ (mbX2_holds_3 (fun _ _ _ h => h) (fun _ _ _ _ _ _ h => giX2_holds_3 hG M n _ _ _ _ _ _ h) h)
theorem rcX2_holds : ∀ as σ kk, tX2_holds as σ kk → ∃ a r fs, as = .ref a :: r ∧ σ[a]? = some (.inr (1, fs)) := by
  intro as σ kk h
  unfold tX2_holds at h; split at h
  · obtain ⟨c, M, rfl, -⟩ := h
    exact ⟨_, _, _, rfl, rfl⟩
  · exact h.elim
set_option maxRecDepth 20000 in
theorem okX2_holds (l : Launch) : OK l yX2_holds cX2_holds 10 (some .boolean) 2 tX2_holds := by
  intro D τ ρ A as σ post h
  unfold tX2_holds at h; split at h
  · rename_i a b d e; obtain ⟨c, M, rfl, hw⟩ := h
    refine met_of (P := pgX2_holds) (CE := ceX2_holds) (cut := cutX2_holds) (by decide) kkX2_holds (coX2_holds l) (Nat.le_of_ble_eq_true rfl) ?_
    intro G hG
    unfold wX2_holds at hw
    refine lbX2_holds_0 hG c M a b d e (mbX2_holds_0 ?_ ?_ hw)
    · exact fun _ _ hf h => ⟨hf, h⟩
    · intro _ _ _ _ _ _ ⟨N, h⟩; exact giX2_holds_3 hG M N _ _ _ _ _ _ (miX2_holds_3 (fun _ _ hf h => ⟨hf, h⟩) N _ _ _ _ _ _ h)
  · exact h.elim
def bX2_lowMass_0 (c : CS) (a : Int32) (kr : Int64 → CS → Prop) (kc5 : Int32 → Int64 → Int32 → CS → Prop) : Prop :=
  kc5 a (0 : Int64) (0 : Int32) c
def bX2_lowMass_5 (c : CS) (a : Int32) (l2 : Int64) (l4 : Int32) (kr : Int64 → CS → Prop) (kc5 : Int32 → Int64 → Int32 → CS → Prop) : Prop :=
  (if (c.1 3) ≤ l4 then
    kr l2 c
  else
    (vp_in l4 100 ∧ (if (c.2.1 15 l4.toNatClampNeg) = a then
      (vp_in l4 100 ∧ kc5 a (fX1_zeroIfLess (fX1_down (fX1_plus l2 (c.2.2 13 l4.toNatClampNeg)))) (l4 + (1 : Int32)) c)
    else
      kc5 a l2 (l4 + (1 : Int32)) c)))
set_option maxRecDepth 20000 in
theorem mbX2_lowMass_0 {c : CS} {a : Int32} {kr kq : Int64 → CS → Prop} {kc5 kd5 : Int32 → Int64 → Int32 → CS → Prop} (hr : ∀ x X, kr x X → kq x X) (hc5 : ∀ z1 z2 z4 X, kc5 z1 z2 z4 X → kd5 z1 z2 z4 X) (h : bX2_lowMass_0 c a kr kc5) : bX2_lowMass_0 c a kq kd5 := by
  unfold bX2_lowMass_0 at h ⊢
  exact hc5 _ _ _ _ h
set_option maxRecDepth 20000 in
theorem mbX2_lowMass_5 {c : CS} {a : Int32} {l2 : Int64} {l4 : Int32} {kr kq : Int64 → CS → Prop} {kc5 kd5 : Int32 → Int64 → Int32 → CS → Prop} (hr : ∀ x X, kr x X → kq x X) (hc5 : ∀ z1 z2 z4 X, kc5 z1 z2 z4 X → kd5 z1 z2 z4 X) (h : bX2_lowMass_5 c a l2 l4 kr kc5) : bX2_lowMass_5 c a l2 l4 kq kd5 := by
  unfold bX2_lowMass_5 at h ⊢
  by_cases hc : (c.1 3) ≤ l4
  · rw [if_pos hc] at h ⊢
    exact hr _ _ h
  · rw [if_neg hc] at h ⊢
    obtain ⟨hi, h⟩ := h
    refine And.intro hi ?_
    by_cases hc : (c.2.1 15 l4.toNatClampNeg) = a
    · rw [if_pos hc] at h ⊢
      obtain ⟨hi, h⟩ := h
      refine And.intro hi ?_
      exact hc5 _ _ _ _ h
    · rw [if_neg hc] at h ⊢
      exact hc5 _ _ _ _ h
def itX2_lowMass_5 (kr : Int64 → CS → Prop) : Nat → Int32 → Int64 → Int32 → CS → Prop
  | 0, _, _, _, _ => False
  | n + 1, a, l2, l4, c => bX2_lowMass_5 c a l2 l4 kr (fun z1 z2 z4 X => itX2_lowMass_5 kr n z1 z2 z4 X)
theorem miX2_lowMass_5 {kr kq : Int64 → CS → Prop} (hr : ∀ x X, kr x X → kq x X) : ∀ (n : Nat) (z1 : Int32) (z2 : Int64) (z4 : Int32) (X : CS), itX2_lowMass_5 kr n z1 z2 z4 X → itX2_lowMass_5 kq n z1 z2 z4 X
  | 0, _, _, _, _, h => h
  | n + 1, _, _, _, _, h => mbX2_lowMass_5 hr (fun _ _ _ _ h => miX2_lowMass_5 hr n _ _ _ _ h) h
def wX2_lowMass (c : CS) (a : Int32) (kr : Int64 → CS → Prop) : Prop := bX2_lowMass_0 c a kr (fun z1 z2 z4 X => ∃ N, itX2_lowMass_5 kr N z1 z2 z4 X)
theorem mnX2_lowMass {c : CS} {a : Int32} {kr kq : Int64 → CS → Prop} (hr : ∀ x X, kr x X → kq x X) (h : wX2_lowMass c a kr) : wX2_lowMass c a kq := mbX2_lowMass_0 hr (fun _ _ _ _ h => h.elim fun N h => ⟨N, miX2_lowMass_5 hr N _ _ _ _ h⟩) h
def tX2_lowMass : Tr := fun as σ k => match as with
  | [.ref 11, .int a] => ∃ (c : CS) (M : aS), σ = wC c ++ M ∧ wX2_lowMass c a (fun x X => k (some (.long x)) (wC X ++ M))
  | _ => False
def ceX2_lowMass : List (Nat × Nat × Tr) := (2 * 55, 2, tX1_plus) :: (2 * 76, 1, tX1_down) :: (2 * 79, 1, tX1_zeroIfLess) :: []
theorem coX2_lowMass (l : Launch) : CEok l yX2_lowMass.cls 4 ceX2_lowMass := ce_S (okX1_plus l) (mw 369 (by decide +kernel) rfl) (mw 224 (by decide +kernel) rfl) (mw 5 (by decide +kernel) rfl) (mw 225 (by decide +kernel) rfl) (by decide) ⟨by decide, by decide⟩ (ce_S (okX1_down l) (mw 465 (by decide +kernel) rfl) (mw 256 (by decide +kernel) rfl) (mw 5 (by decide +kernel) rfl) (mw 257 (by decide +kernel) rfl) (by decide) ⟨by decide, by decide⟩ (ce_S (okX1_zeroIfLess l) (mw 466 (by decide +kernel) rfl) (mw 315 (by decide +kernel) rfl) (mw 5 (by decide +kernel) rfl) (mw 316 (by decide +kernel) rfl) (by decide) ⟨by decide, by decide⟩ (ce_0)))
abbrev cutX2_lowMass : List (Nat × List Nat) := [(5, [0, 1, 2, 4])]
set_option maxRecDepth 20000 in
set_option maxHeartbeats 4000000 in
theorem lbX2_lowMass_0 {G : Nat → LV → List Value → aS → Prop} {post : Option Value → aS → Prop} (hG : ∀ n b pc lv st σ, seg (0, fun _ => 0) pgX2_lowMass ceX2_lowMass cutX2_lowMass G (fun v σ => rFit (some .long) v ∧ post v σ) n b pc lv st σ → G pc lv st σ) (c : CS) (M : aS) (a : Int32) (hb : bX2_lowMass_0 c a (fun x X => rFit (some .long) (some (.long x)) ∧ post (some (.long x)) (wC X ++ M)) (fun z1 z2 z4 X => G 5 [(0, .ref 11), (1, .int z1), (2, .long z2), (4, .int z4)] [] (wC X ++ M))) : G 0 [(0, .ref 11), (1, .int a)] [] (wC c ++ M) := by
  unfold bX2_lowMass_0 at hb
  refine hG 400 false 0 _ _ _ ?_
  exact hb
set_option maxRecDepth 20000 in
set_option maxHeartbeats 4000000 in
theorem lbX2_lowMass_5 {G : Nat → LV → List Value → aS → Prop} {post : Option Value → aS → Prop} (hG : ∀ n b pc lv st σ, seg (0, fun _ => 0) pgX2_lowMass ceX2_lowMass cutX2_lowMass G (fun v σ => rFit (some .long) v ∧ post v σ) n b pc lv st σ → G pc lv st σ) (c : CS) (M : aS) (a : Int32) (l2 : Int64) (l4 : Int32) (hb : bX2_lowMass_5 c a l2 l4 (fun x X => rFit (some .long) (some (.long x)) ∧ post (some (.long x)) (wC X ++ M)) (fun z1 z2 z4 X => G 5 [(0, .ref 11), (1, .int z1), (2, .long z2), (4, .int z4)] [] (wC X ++ M))) : G 5 [(0, .ref 11), (1, .int a), (2, .long l2), (4, .int l4)] [] (wC c ++ M) := by
  unfold bX2_lowMass_5 at hb
  refine hG 400 false 5 _ _ _ ?_
  refine And.intro (fun (h : (c.1 3) ≤ l4) => ?_) (fun (h : ¬ (c.1 3) ≤ l4) => ?_)
  · rw [if_pos h] at hb
    exact hb
  · rw [if_neg h] at hb
    obtain ⟨hi, hb⟩ := hb
    refine And.intro hi ?_
    refine And.intro (fun (h : ¬ (c.2.1 15 l4.toNatClampNeg) = a) => ?_) (fun hq => have h : (c.2.1 15 l4.toNatClampNeg) = a := Classical.not_not.mp hq; ?_)
    · rw [if_neg h] at hb
      exact hb
    · rw [if_pos h] at hb
      obtain ⟨hi, hb⟩ := hb
      refine And.intro hi ?_
      exact hb
theorem giX2_lowMass_5 {G : Nat → LV → List Value → aS → Prop} {post : Option Value → aS → Prop} (hG : ∀ n b pc lv st σ, seg (0, fun _ => 0) pgX2_lowMass ceX2_lowMass cutX2_lowMass G (fun v σ => rFit (some .long) v ∧ post v σ) n b pc lv st σ → G pc lv st σ) (M : aS) : ∀ (n : Nat) (z1 : Int32) (z2 : Int64) (z4 : Int32) (X : CS), itX2_lowMass_5 (fun x X => rFit (some .long) (some (.long x)) ∧ post (some (.long x)) (wC X ++ M)) n z1 z2 z4 X → G 5 [(0, .ref 11), (1, .int z1), (2, .long z2), (4, .int z4)] [] (wC X ++ M)
  | 0, _, _, _, _, h => h.elim
  | n + 1, _, _, _, _, h => lbX2_lowMass_5 hG _ M _ _ _ (mbX2_lowMass_5 (fun _ _ h => h) (fun _ _ _ _ h => giX2_lowMass_5 hG M n _ _ _ _ h) h)
theorem rcX2_lowMass : ∀ as σ kk, tX2_lowMass as σ kk → ∃ a r fs, as = .ref a :: r ∧ σ[a]? = some (.inr (1, fs)) := by
  intro as σ kk h
  unfold tX2_lowMass at h; split at h
  · obtain ⟨c, M, rfl, -⟩ := h
    exact ⟨_, _, _, rfl, rfl⟩
  · exact h.elim
set_option maxRecDepth 20000 in
theorem okX2_lowMass (l : Launch) : OK l yX2_lowMass cX2_lowMass 5 (some .long) 4 tX2_lowMass := by
  intro D τ ρ A as σ post h
  unfold tX2_lowMass at h; split at h
  · rename_i a; obtain ⟨c, M, rfl, hw⟩ := h
    refine met_of (P := pgX2_lowMass) (CE := ceX2_lowMass) (cut := cutX2_lowMass) (by decide) kkX2_lowMass (coX2_lowMass l) (Nat.le_of_ble_eq_true rfl) ?_
    intro G hG
    unfold wX2_lowMass at hw
    refine lbX2_lowMass_0 hG c M a (mbX2_lowMass_0 ?_ ?_ hw)
    · exact fun _ _ h => ⟨trivial, h⟩
    · intro _ _ _ _ ⟨N, h⟩; exact giX2_lowMass_5 hG M N _ _ _ _ (miX2_lowMass_5 (fun _ _ h => ⟨trivial, h⟩) N _ _ _ _ h)
  · exact h.elim
def bX2_highMass_0 (c : CS) (a : Int32) (kr : Int64 → CS → Prop) (kc5 : Int32 → Int64 → Int32 → CS → Prop) : Prop :=
  kc5 a (0 : Int64) (0 : Int32) c
def bX2_highMass_5 (c : CS) (a : Int32) (l2 : Int64) (l4 : Int32) (kr : Int64 → CS → Prop) (kc5 : Int32 → Int64 → Int32 → CS → Prop) : Prop :=
  (if (c.1 3) ≤ l4 then
    kr l2 c
  else
    (vp_in l4 100 ∧ (if (c.2.1 15 l4.toNatClampNeg) = a then
      (vp_in l4 100 ∧ kc5 a (fX1_up (fX1_plus l2 (c.2.2 14 l4.toNatClampNeg))) (l4 + (1 : Int32)) c)
    else
      kc5 a l2 (l4 + (1 : Int32)) c)))
set_option maxRecDepth 20000 in
theorem mbX2_highMass_0 {c : CS} {a : Int32} {kr kq : Int64 → CS → Prop} {kc5 kd5 : Int32 → Int64 → Int32 → CS → Prop} (hr : ∀ x X, kr x X → kq x X) (hc5 : ∀ z1 z2 z4 X, kc5 z1 z2 z4 X → kd5 z1 z2 z4 X) (h : bX2_highMass_0 c a kr kc5) : bX2_highMass_0 c a kq kd5 := by
  unfold bX2_highMass_0 at h ⊢
  exact hc5 _ _ _ _ h
set_option maxRecDepth 20000 in
theorem mbX2_highMass_5 {c : CS} {a : Int32} {l2 : Int64} {l4 : Int32} {kr kq : Int64 → CS → Prop} {kc5 kd5 : Int32 → Int64 → Int32 → CS → Prop} (hr : ∀ x X, kr x X → kq x X) (hc5 : ∀ z1 z2 z4 X, kc5 z1 z2 z4 X → kd5 z1 z2 z4 X) (h : bX2_highMass_5 c a l2 l4 kr kc5) : bX2_highMass_5 c a l2 l4 kq kd5 := by
  unfold bX2_highMass_5 at h ⊢
  by_cases hc : (c.1 3) ≤ l4
  · rw [if_pos hc] at h ⊢
    exact hr _ _ h
  · rw [if_neg hc] at h ⊢
    obtain ⟨hi, h⟩ := h
    refine And.intro hi ?_
    by_cases hc : (c.2.1 15 l4.toNatClampNeg) = a
    · rw [if_pos hc] at h ⊢
      obtain ⟨hi, h⟩ := h
      refine And.intro hi ?_
      exact hc5 _ _ _ _ h
    · rw [if_neg hc] at h ⊢
      exact hc5 _ _ _ _ h
def itX2_highMass_5 (kr : Int64 → CS → Prop) : Nat → Int32 → Int64 → Int32 → CS → Prop
  | 0, _, _, _, _ => False
  | n + 1, a, l2, l4, c => bX2_highMass_5 c a l2 l4 kr (fun z1 z2 z4 X => itX2_highMass_5 kr n z1 z2 z4 X)
theorem miX2_highMass_5 {kr kq : Int64 → CS → Prop} (hr : ∀ x X, kr x X → kq x X) : ∀ (n : Nat) (z1 : Int32) (z2 : Int64) (z4 : Int32) (X : CS), itX2_highMass_5 kr n z1 z2 z4 X → itX2_highMass_5 kq n z1 z2 z4 X
  | 0, _, _, _, _, h => h
  | n + 1, _, _, _, _, h => mbX2_highMass_5 hr (fun _ _ _ _ h => miX2_highMass_5 hr n _ _ _ _ h) h
def wX2_highMass (c : CS) (a : Int32) (kr : Int64 → CS → Prop) : Prop := bX2_highMass_0 c a kr (fun z1 z2 z4 X => ∃ N, itX2_highMass_5 kr N z1 z2 z4 X)
theorem mnX2_highMass {c : CS} {a : Int32} {kr kq : Int64 → CS → Prop} (hr : ∀ x X, kr x X → kq x X) (h : wX2_highMass c a kr) : wX2_highMass c a kq := mbX2_highMass_0 hr (fun _ _ _ _ h => h.elim fun N h => ⟨N, miX2_highMass_5 hr N _ _ _ _ h⟩) h
def tX2_highMass : Tr := fun as σ k => match as with
  | [.ref 11, .int a] => ∃ (c : CS) (M : aS), σ = wC c ++ M ∧ wX2_highMass c a (fun x X => k (some (.long x)) (wC X ++ M))
  | _ => False
def ceX2_highMass : List (Nat × Nat × Tr) := (2 * 55, 2, tX1_plus) :: (2 * 82, 1, tX1_up) :: []
theorem coX2_highMass (l : Launch) : CEok l yX2_highMass.cls 4 ceX2_highMass := ce_S (okX1_plus l) (mw 369 (by decide +kernel) rfl) (mw 224 (by decide +kernel) rfl) (mw 5 (by decide +kernel) rfl) (mw 225 (by decide +kernel) rfl) (by decide) ⟨by decide, by decide⟩ (ce_S (okX1_up l) (mw 471 (by decide +kernel) rfl) (mw 262 (by decide +kernel) rfl) (mw 5 (by decide +kernel) rfl) (mw 263 (by decide +kernel) rfl) (by decide) ⟨by decide, by decide⟩ (ce_0))
abbrev cutX2_highMass : List (Nat × List Nat) := [(5, [0, 1, 2, 4])]
set_option maxRecDepth 20000 in
set_option maxHeartbeats 4000000 in
theorem lbX2_highMass_0 {G : Nat → LV → List Value → aS → Prop} {post : Option Value → aS → Prop} (hG : ∀ n b pc lv st σ, seg (0, fun _ => 0) pgX2_highMass ceX2_highMass cutX2_highMass G (fun v σ => rFit (some .long) v ∧ post v σ) n b pc lv st σ → G pc lv st σ) (c : CS) (M : aS) (a : Int32) (hb : bX2_highMass_0 c a (fun x X => rFit (some .long) (some (.long x)) ∧ post (some (.long x)) (wC X ++ M)) (fun z1 z2 z4 X => G 5 [(0, .ref 11), (1, .int z1), (2, .long z2), (4, .int z4)] [] (wC X ++ M))) : G 0 [(0, .ref 11), (1, .int a)] [] (wC c ++ M) := by
  unfold bX2_highMass_0 at hb
  refine hG 400 false 0 _ _ _ ?_
  exact hb
set_option maxRecDepth 20000 in
set_option maxHeartbeats 4000000 in
theorem lbX2_highMass_5 {G : Nat → LV → List Value → aS → Prop} {post : Option Value → aS → Prop} (hG : ∀ n b pc lv st σ, seg (0, fun _ => 0) pgX2_highMass ceX2_highMass cutX2_highMass G (fun v σ => rFit (some .long) v ∧ post v σ) n b pc lv st σ → G pc lv st σ) (c : CS) (M : aS) (a : Int32) (l2 : Int64) (l4 : Int32) (hb : bX2_highMass_5 c a l2 l4 (fun x X => rFit (some .long) (some (.long x)) ∧ post (some (.long x)) (wC X ++ M)) (fun z1 z2 z4 X => G 5 [(0, .ref 11), (1, .int z1), (2, .long z2), (4, .int z4)] [] (wC X ++ M))) : G 5 [(0, .ref 11), (1, .int a), (2, .long l2), (4, .int l4)] [] (wC c ++ M) := by
  unfold bX2_highMass_5 at hb
  refine hG 400 false 5 _ _ _ ?_
  refine And.intro (fun (h : (c.1 3) ≤ l4) => ?_) (fun (h : ¬ (c.1 3) ≤ l4) => ?_)
  · rw [if_pos h] at hb
    exact hb
  · rw [if_neg h] at hb
    obtain ⟨hi, hb⟩ := hb
    refine And.intro hi ?_
    refine And.intro (fun (h : ¬ (c.2.1 15 l4.toNatClampNeg) = a) => ?_) (fun hq => have h : (c.2.1 15 l4.toNatClampNeg) = a := Classical.not_not.mp hq; ?_)
    · rw [if_neg h] at hb
      exact hb
    · rw [if_pos h] at hb
      obtain ⟨hi, hb⟩ := hb
      refine And.intro hi ?_
      exact hb
theorem giX2_highMass_5 {G : Nat → LV → List Value → aS → Prop} {post : Option Value → aS → Prop} (hG : ∀ n b pc lv st σ, seg (0, fun _ => 0) pgX2_highMass ceX2_highMass cutX2_highMass G (fun v σ => rFit (some .long) v ∧ post v σ) n b pc lv st σ → G pc lv st σ) (M : aS) : ∀ (n : Nat) (z1 : Int32) (z2 : Int64) (z4 : Int32) (X : CS), itX2_highMass_5 (fun x X => rFit (some .long) (some (.long x)) ∧ post (some (.long x)) (wC X ++ M)) n z1 z2 z4 X → G 5 [(0, .ref 11), (1, .int z1), (2, .long z2), (4, .int z4)] [] (wC X ++ M)
  | 0, _, _, _, _, h => h.elim
  | n + 1, _, _, _, _, h => lbX2_highMass_5 hG _ M _ _ _ (mbX2_highMass_5 (fun _ _ h => h) (fun _ _ _ _ h => giX2_highMass_5 hG M n _ _ _ _ h) h)
theorem rcX2_highMass : ∀ as σ kk, tX2_highMass as σ kk → ∃ a r fs, as = .ref a :: r ∧ σ[a]? = some (.inr (1, fs)) := by
  intro as σ kk h
  unfold tX2_highMass at h; split at h
  · obtain ⟨c, M, rfl, -⟩ := h
    exact ⟨_, _, _, rfl, rfl⟩
  · exact h.elim
set_option maxRecDepth 20000 in
theorem okX2_highMass (l : Launch) : OK l yX2_highMass cX2_highMass 5 (some .long) 4 tX2_highMass := by
  intro D τ ρ A as σ post h
  unfold tX2_highMass at h; split at h
  · rename_i a; obtain ⟨c, M, rfl, hw⟩ := h
    refine met_of (P := pgX2_highMass) (CE := ceX2_highMass) (cut := cutX2_highMass) (by decide) kkX2_highMass (coX2_highMass l) (Nat.le_of_ble_eq_true rfl) ?_
    intro G hG
    unfold wX2_highMass at hw
    refine lbX2_highMass_0 hG c M a (mbX2_highMass_0 ?_ ?_ hw)
    · exact fun _ _ h => ⟨trivial, h⟩
    · intro _ _ _ _ ⟨N, h⟩; exact giX2_highMass_5 hG M N _ _ _ _ (miX2_highMass_5 (fun _ _ h => ⟨trivial, h⟩) N _ _ _ _ h)
  · exact h.elim
def bX2_howMany_0 (c : CS) (a : Int32) (kr : Int32 → CS → Prop) (kc4 : Int32 → Int32 → Int32 → CS → Prop) : Prop :=
  kc4 a (0 : Int32) (0 : Int32) c
def bX2_howMany_4 (c : CS) (a : Int32) (l2 : Int32) (l3 : Int32) (kr : Int32 → CS → Prop) (kc4 : Int32 → Int32 → Int32 → CS → Prop) : Prop :=
  (if (c.1 3) ≤ l3 then
    kr l2 c
  else
    (vp_in l3 100 ∧ (if (c.2.1 15 l3.toNatClampNeg) = a then
      kc4 a (l2 + (1 : Int32)) (l3 + (1 : Int32)) c
    else
      kc4 a l2 (l3 + (1 : Int32)) c)))
set_option maxRecDepth 20000 in
theorem mbX2_howMany_0 {c : CS} {a : Int32} {kr kq : Int32 → CS → Prop} {kc4 kd4 : Int32 → Int32 → Int32 → CS → Prop} (hr : ∀ x X, kr x X → kq x X) (hc4 : ∀ z1 z2 z3 X, kc4 z1 z2 z3 X → kd4 z1 z2 z3 X) (h : bX2_howMany_0 c a kr kc4) : bX2_howMany_0 c a kq kd4 := by
  unfold bX2_howMany_0 at h ⊢
  exact hc4 _ _ _ _ h
set_option maxRecDepth 20000 in
theorem mbX2_howMany_4 {c : CS} {a : Int32} {l2 : Int32} {l3 : Int32} {kr kq : Int32 → CS → Prop} {kc4 kd4 : Int32 → Int32 → Int32 → CS → Prop} (hr : ∀ x X, kr x X → kq x X) (hc4 : ∀ z1 z2 z3 X, kc4 z1 z2 z3 X → kd4 z1 z2 z3 X) (h : bX2_howMany_4 c a l2 l3 kr kc4) : bX2_howMany_4 c a l2 l3 kq kd4 := by
  unfold bX2_howMany_4 at h ⊢
  by_cases hc : (c.1 3) ≤ l3
  · rw [if_pos hc] at h ⊢
    exact hr _ _ h
  · rw [if_neg hc] at h ⊢
    obtain ⟨hi, h⟩ := h
    refine And.intro hi ?_
    by_cases hc : (c.2.1 15 l3.toNatClampNeg) = a
    · rw [if_pos hc] at h ⊢
      exact hc4 _ _ _ _ h
    · rw [if_neg hc] at h ⊢
      exact hc4 _ _ _ _ h
def itX2_howMany_4 (kr : Int32 → CS → Prop) : Nat → Int32 → Int32 → Int32 → CS → Prop
  | 0, _, _, _, _ => False
  | n + 1, a, l2, l3, c => bX2_howMany_4 c a l2 l3 kr (fun z1 z2 z3 X => itX2_howMany_4 kr n z1 z2 z3 X)
theorem miX2_howMany_4 {kr kq : Int32 → CS → Prop} (hr : ∀ x X, kr x X → kq x X) : ∀ (n : Nat) (z1 : Int32) (z2 : Int32) (z3 : Int32) (X : CS), itX2_howMany_4 kr n z1 z2 z3 X → itX2_howMany_4 kq n z1 z2 z3 X
  | 0, _, _, _, _, h => h
  | n + 1, _, _, _, _, h => mbX2_howMany_4 hr (fun _ _ _ _ h => miX2_howMany_4 hr n _ _ _ _ h) h
def wX2_howMany (c : CS) (a : Int32) (kr : Int32 → CS → Prop) : Prop := bX2_howMany_0 c a kr (fun z1 z2 z3 X => ∃ N, itX2_howMany_4 kr N z1 z2 z3 X)
theorem mnX2_howMany {c : CS} {a : Int32} {kr kq : Int32 → CS → Prop} (hr : ∀ x X, kr x X → kq x X) (h : wX2_howMany c a kr) : wX2_howMany c a kq := mbX2_howMany_0 hr (fun _ _ _ _ h => h.elim fun N h => ⟨N, miX2_howMany_4 hr N _ _ _ _ h⟩) h
def tX2_howMany : Tr := fun as σ k => match as with
  | [.ref 11, .int a] => ∃ (c : CS) (M : aS), σ = wC c ++ M ∧ wX2_howMany c a (fun x X => k (some (.int x)) (wC X ++ M))
  | _ => False
def ceX2_howMany : List (Nat × Nat × Tr) := []
theorem coX2_howMany (l : Launch) : CEok l yX2_howMany.cls 0 ceX2_howMany := ce_0
abbrev cutX2_howMany : List (Nat × List Nat) := [(4, [0, 1, 2, 3])]
set_option maxRecDepth 20000 in
set_option maxHeartbeats 4000000 in
theorem lbX2_howMany_0 {G : Nat → LV → List Value → aS → Prop} {post : Option Value → aS → Prop} (hG : ∀ n b pc lv st σ, seg (0, fun _ => 0) pgX2_howMany ceX2_howMany cutX2_howMany G (fun v σ => rFit (some .int) v ∧ post v σ) n b pc lv st σ → G pc lv st σ) (c : CS) (M : aS) (a : Int32) (hb : bX2_howMany_0 c a (fun x X => rFit (some .int) (some (.int x)) ∧ post (some (.int x)) (wC X ++ M)) (fun z1 z2 z3 X => G 4 [(0, .ref 11), (1, .int z1), (2, .int z2), (3, .int z3)] [] (wC X ++ M))) : G 0 [(0, .ref 11), (1, .int a)] [] (wC c ++ M) := by
  unfold bX2_howMany_0 at hb
  refine hG 400 false 0 _ _ _ ?_
  exact hb
set_option maxRecDepth 20000 in
set_option maxHeartbeats 4000000 in
theorem lbX2_howMany_4 {G : Nat → LV → List Value → aS → Prop} {post : Option Value → aS → Prop} (hG : ∀ n b pc lv st σ, seg (0, fun _ => 0) pgX2_howMany ceX2_howMany cutX2_howMany G (fun v σ => rFit (some .int) v ∧ post v σ) n b pc lv st σ → G pc lv st σ) (c : CS) (M : aS) (a : Int32) (l2 : Int32) (l3 : Int32) (hb : bX2_howMany_4 c a l2 l3 (fun x X => rFit (some .int) (some (.int x)) ∧ post (some (.int x)) (wC X ++ M)) (fun z1 z2 z3 X => G 4 [(0, .ref 11), (1, .int z1), (2, .int z2), (3, .int z3)] [] (wC X ++ M))) : G 4 [(0, .ref 11), (1, .int a), (2, .int l2), (3, .int l3)] [] (wC c ++ M) := by
  unfold bX2_howMany_4 at hb
  refine hG 400 false 4 _ _ _ ?_
  refine And.intro (fun (h : (c.1 3) ≤ l3) => ?_) (fun (h : ¬ (c.1 3) ≤ l3) => ?_)
  · rw [if_pos h] at hb
    exact hb
  · rw [if_neg h] at hb
    obtain ⟨hi, hb⟩ := hb
    refine And.intro hi ?_
    refine And.intro (fun (h : ¬ (c.2.1 15 l3.toNatClampNeg) = a) => ?_) (fun hq => have h : (c.2.1 15 l3.toNatClampNeg) = a := Classical.not_not.mp hq; ?_)
    · rw [if_neg h] at hb
      exact hb
    · rw [if_pos h] at hb
      exact hb
theorem giX2_howMany_4 {G : Nat → LV → List Value → aS → Prop} {post : Option Value → aS → Prop} (hG : ∀ n b pc lv st σ, seg (0, fun _ => 0) pgX2_howMany ceX2_howMany cutX2_howMany G (fun v σ => rFit (some .int) v ∧ post v σ) n b pc lv st σ → G pc lv st σ) (M : aS) : ∀ (n : Nat) (z1 : Int32) (z2 : Int32) (z3 : Int32) (X : CS), itX2_howMany_4 (fun x X => rFit (some .int) (some (.int x)) ∧ post (some (.int x)) (wC X ++ M)) n z1 z2 z3 X → G 4 [(0, .ref 11), (1, .int z1), (2, .int z2), (3, .int z3)] [] (wC X ++ M)
  | 0, _, _, _, _, h => h.elim
  | n + 1, _, _, _, _, h => lbX2_howMany_4 hG _ M _ _ _ (mbX2_howMany_4 (fun _ _ h => h) (fun _ _ _ _ h => giX2_howMany_4 hG M n _ _ _ _ h) h)
theorem rcX2_howMany : ∀ as σ kk, tX2_howMany as σ kk → ∃ a r fs, as = .ref a :: r ∧ σ[a]? = some (.inr (1, fs)) := by
  intro as σ kk h
  unfold tX2_howMany at h; split at h
  · obtain ⟨c, M, rfl, -⟩ := h
    exact ⟨_, _, _, rfl, rfl⟩
  · exact h.elim
set_option maxRecDepth 20000 in
theorem okX2_howMany (l : Launch) : OK l yX2_howMany cX2_howMany 4 (some .int) 0 tX2_howMany := by
  intro D τ ρ A as σ post h
  unfold tX2_howMany at h; split at h
  · rename_i a; obtain ⟨c, M, rfl, hw⟩ := h
    refine met_of (P := pgX2_howMany) (CE := ceX2_howMany) (cut := cutX2_howMany) (by decide) kkX2_howMany (coX2_howMany l) (Nat.le_of_ble_eq_true rfl) ?_
    intro G hG
    unfold wX2_howMany at hw
    refine lbX2_howMany_0 hG c M a (mbX2_howMany_0 ?_ ?_ hw)
    · exact fun _ _ h => ⟨trivial, h⟩
    · intro _ _ _ _ ⟨N, h⟩; exact giX2_howMany_4 hG M N _ _ _ _ (miX2_howMany_4 (fun _ _ h => ⟨trivial, h⟩) N _ _ _ _ h)
  · exact h.elim
def bX2_howManyStuck_0 (c : CS)  (kr : Int32 → CS → Prop) (kc4 : Int32 → Int32 → CS → Prop) : Prop :=
  kc4 (0 : Int32) (0 : Int32) c
def bX2_howManyStuck_4 (c : CS) (l1 : Int32) (l2 : Int32) (kr : Int32 → CS → Prop) (kc4 : Int32 → Int32 → CS → Prop) : Prop :=
  (if (c.1 3) ≤ l2 then
    kr l1 c
  else
    (vp_in l2 100 ∧ (if (c.2.1 15 l2.toNatClampNeg) = (3 : Int32) then
      (vp_in l2 100 ∧ (if (c.2.1 19 l2.toNatClampNeg) = 0 then
        kc4 l1 (l2 + (1 : Int32)) c
      else
        kc4 (l1 + (1 : Int32)) (l2 + (1 : Int32)) c))
    else
      kc4 l1 (l2 + (1 : Int32)) c)))
set_option maxRecDepth 20000 in
theorem mbX2_howManyStuck_0 {c : CS}  {kr kq : Int32 → CS → Prop} {kc4 kd4 : Int32 → Int32 → CS → Prop} (hr : ∀ x X, kr x X → kq x X) (hc4 : ∀ z1 z2 X, kc4 z1 z2 X → kd4 z1 z2 X) (h : bX2_howManyStuck_0 c  kr kc4) : bX2_howManyStuck_0 c  kq kd4 := by
  unfold bX2_howManyStuck_0 at h ⊢
  exact hc4 _ _ _ h
set_option maxRecDepth 20000 in
theorem mbX2_howManyStuck_4 {c : CS} {l1 : Int32} {l2 : Int32} {kr kq : Int32 → CS → Prop} {kc4 kd4 : Int32 → Int32 → CS → Prop} (hr : ∀ x X, kr x X → kq x X) (hc4 : ∀ z1 z2 X, kc4 z1 z2 X → kd4 z1 z2 X) (h : bX2_howManyStuck_4 c l1 l2 kr kc4) : bX2_howManyStuck_4 c l1 l2 kq kd4 := by
  unfold bX2_howManyStuck_4 at h ⊢
  by_cases hc : (c.1 3) ≤ l2
  · rw [if_pos hc] at h ⊢
    exact hr _ _ h
  · rw [if_neg hc] at h ⊢
    obtain ⟨hi, h⟩ := h
    refine And.intro hi ?_
    by_cases hc : (c.2.1 15 l2.toNatClampNeg) = (3 : Int32)
    · rw [if_pos hc] at h ⊢
      obtain ⟨hi, h⟩ := h
      refine And.intro hi ?_
      by_cases hc : (c.2.1 19 l2.toNatClampNeg) = 0
      · rw [if_pos hc] at h ⊢
        exact hc4 _ _ _ h
      · rw [if_neg hc] at h ⊢
        exact hc4 _ _ _ h
    · rw [if_neg hc] at h ⊢
      exact hc4 _ _ _ h
def itX2_howManyStuck_4 (kr : Int32 → CS → Prop) : Nat → Int32 → Int32 → CS → Prop
  | 0, _, _, _ => False
  | n + 1, l1, l2, c => bX2_howManyStuck_4 c l1 l2 kr (fun z1 z2 X => itX2_howManyStuck_4 kr n z1 z2 X)
theorem miX2_howManyStuck_4 {kr kq : Int32 → CS → Prop} (hr : ∀ x X, kr x X → kq x X) : ∀ (n : Nat) (z1 : Int32) (z2 : Int32) (X : CS), itX2_howManyStuck_4 kr n z1 z2 X → itX2_howManyStuck_4 kq n z1 z2 X
  | 0, _, _, _, h => h
  | n + 1, _, _, _, h => mbX2_howManyStuck_4 hr (fun _ _ _ h => miX2_howManyStuck_4 hr n _ _ _ h) h
def wX2_howManyStuck (c : CS)  (kr : Int32 → CS → Prop) : Prop := bX2_howManyStuck_0 c  kr (fun z1 z2 X => ∃ N, itX2_howManyStuck_4 kr N z1 z2 X)
theorem mnX2_howManyStuck {c : CS}  {kr kq : Int32 → CS → Prop} (hr : ∀ x X, kr x X → kq x X) (h : wX2_howManyStuck c  kr) : wX2_howManyStuck c  kq := mbX2_howManyStuck_0 hr (fun _ _ _ h => h.elim fun N h => ⟨N, miX2_howManyStuck_4 hr N _ _ _ h⟩) h
def tX2_howManyStuck : Tr := fun as σ k => match as with
  | [.ref 11] => ∃ (c : CS) (M : aS), σ = wC c ++ M ∧ wX2_howManyStuck c  (fun x X => k (some (.int x)) (wC X ++ M))
  | _ => False
def ceX2_howManyStuck : List (Nat × Nat × Tr) := []
theorem coX2_howManyStuck (l : Launch) : CEok l yX2_howManyStuck.cls 0 ceX2_howManyStuck := ce_0
abbrev cutX2_howManyStuck : List (Nat × List Nat) := [(4, [0, 1, 2])]
set_option maxRecDepth 20000 in
set_option maxHeartbeats 4000000 in
theorem lbX2_howManyStuck_0 {G : Nat → LV → List Value → aS → Prop} {post : Option Value → aS → Prop} (hG : ∀ n b pc lv st σ, seg (0, fun _ => 0) pgX2_howManyStuck ceX2_howManyStuck cutX2_howManyStuck G (fun v σ => rFit (some .int) v ∧ post v σ) n b pc lv st σ → G pc lv st σ) (c : CS) (M : aS)  (hb : bX2_howManyStuck_0 c  (fun x X => rFit (some .int) (some (.int x)) ∧ post (some (.int x)) (wC X ++ M)) (fun z1 z2 X => G 4 [(0, .ref 11), (1, .int z1), (2, .int z2)] [] (wC X ++ M))) : G 0 [(0, .ref 11)] [] (wC c ++ M) := by
  unfold bX2_howManyStuck_0 at hb
  refine hG 400 false 0 _ _ _ ?_
  exact hb
set_option maxRecDepth 20000 in
set_option maxHeartbeats 4000000 in
theorem lbX2_howManyStuck_4 {G : Nat → LV → List Value → aS → Prop} {post : Option Value → aS → Prop} (hG : ∀ n b pc lv st σ, seg (0, fun _ => 0) pgX2_howManyStuck ceX2_howManyStuck cutX2_howManyStuck G (fun v σ => rFit (some .int) v ∧ post v σ) n b pc lv st σ → G pc lv st σ) (c : CS) (M : aS) (l1 : Int32) (l2 : Int32) (hb : bX2_howManyStuck_4 c l1 l2 (fun x X => rFit (some .int) (some (.int x)) ∧ post (some (.int x)) (wC X ++ M)) (fun z1 z2 X => G 4 [(0, .ref 11), (1, .int z1), (2, .int z2)] [] (wC X ++ M))) : G 4 [(0, .ref 11), (1, .int l1), (2, .int l2)] [] (wC c ++ M) := by
  unfold bX2_howManyStuck_4 at hb
  refine hG 400 false 4 _ _ _ ?_
  refine And.intro (fun (h : (c.1 3) ≤ l2) => ?_) (fun (h : ¬ (c.1 3) ≤ l2) => ?_)
  · rw [if_pos h] at hb
    exact hb
  · rw [if_neg h] at hb
    obtain ⟨hi, hb⟩ := hb
    refine And.intro hi ?_
    refine And.intro (fun (h : ¬ (c.2.1 15 l2.toNatClampNeg) = (3 : Int32)) => ?_) (fun hq => have h : (c.2.1 15 l2.toNatClampNeg) = (3 : Int32) := Classical.not_not.mp hq; ?_)
    · rw [if_neg h] at hb
      exact hb
    · rw [if_pos h] at hb
      obtain ⟨hi, hb⟩ := hb
      refine And.intro hi ?_
      refine And.intro (fun (h : (c.2.1 19 l2.toNatClampNeg) = 0) => ?_) (fun (h : ¬ (c.2.1 19 l2.toNatClampNeg) = 0) => ?_)
      · rw [if_pos h] at hb
        exact hb
      · rw [if_neg h] at hb
        exact hb
theorem giX2_howManyStuck_4 {G : Nat → LV → List Value → aS → Prop} {post : Option Value → aS → Prop} (hG : ∀ n b pc lv st σ, seg (0, fun _ => 0) pgX2_howManyStuck ceX2_howManyStuck cutX2_howManyStuck G (fun v σ => rFit (some .int) v ∧ post v σ) n b pc lv st σ → G pc lv st σ) (M : aS) : ∀ (n : Nat) (z1 : Int32) (z2 : Int32) (X : CS), itX2_howManyStuck_4 (fun x X => rFit (some .int) (some (.int x)) ∧ post (some (.int x)) (wC X ++ M)) n z1 z2 X → G 4 [(0, .ref 11), (1, .int z1), (2, .int z2)] [] (wC X ++ M)
  | 0, _, _, _, h => h.elim
  | n + 1, _, _, _, h => lbX2_howManyStuck_4 hG _ M _ _ (mbX2_howManyStuck_4 (fun _ _ h => h) (fun _ _ _ h => giX2_howManyStuck_4 hG M n _ _ _ h) h)
theorem rcX2_howManyStuck : ∀ as σ kk, tX2_howManyStuck as σ kk → ∃ a r fs, as = .ref a :: r ∧ σ[a]? = some (.inr (1, fs)) := by
  intro as σ kk h
  unfold tX2_howManyStuck at h; split at h
  · obtain ⟨c, M, rfl, -⟩ := h
    exact ⟨_, _, _, rfl, rfl⟩
  · exact h.elim
set_option maxRecDepth 20000 in
theorem okX2_howManyStuck (l : Launch) : OK l yX2_howManyStuck cX2_howManyStuck 3 (some .int) 0 tX2_howManyStuck := by
  intro D τ ρ A as σ post h
  unfold tX2_howManyStuck at h; split at h
  · obtain ⟨c, M, rfl, hw⟩ := h
    refine met_of (P := pgX2_howManyStuck) (CE := ceX2_howManyStuck) (cut := cutX2_howManyStuck) (by decide) kkX2_howManyStuck (coX2_howManyStuck l) (Nat.le_of_ble_eq_true rfl) ?_
    intro G hG
    unfold wX2_howManyStuck at hw
    refine lbX2_howManyStuck_0 hG c M  (mbX2_howManyStuck_0 ?_ ?_ hw)
    · exact fun _ _ h => ⟨trivial, h⟩
    · intro _ _ _ ⟨N, h⟩; exact giX2_howManyStuck_4 hG M N _ _ _ (miX2_howManyStuck_4 (fun _ _ h => ⟨trivial, h⟩) N _ _ _ h)
  · exact h.elim
