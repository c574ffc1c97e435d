def bX4_begin_0 (c : MS)  (kr : Int32 → MS → Prop) (kc32 : Int32 → MS → Prop) : Prop :=
  (if ((msetI c 0 (0 : Int32)).1 1) = 0 then
    kr (-3 : Int32) (msetI c 0 (0 : Int32))
  else
    (((1 : Int32) = 0 ∨ (1 : Int32) = 1) ∧ kc32 (0 : Int32) (msetI (msetI (msetI (msetI c 0 (0 : Int32)) 3 (1 : Int32)) 4 (1 : Int32)) 5 (0 : Int32))))
def bX4_begin_32 (c : MS) (l1 : Int32) (kr : Int32 → MS → Prop) (kc32 : Int32 → MS → Prop) : Prop :=
  (if (c.1 1) ≤ l1 then
    (wX4_judge c (0 : Int32) (fun  X1 => kr (X1.1 1) X1))
  else
    (vp_in l1 3 ∧ (vp_in l1 300 ∧ (vp_in l1 3 ∧ (vp_in l1 300 ∧ (∀ Y2 : MS, Y2 = (msetL (msetL c 28 (vf_upd (c.2.2 28) l1.toNatClampNeg (c.2.2 21 l1.toNatClampNeg))) 29 (vf_upd ((msetL c 28 (vf_upd (c.2.2 28) l1.toNatClampNeg (c.2.2 21 l1.toNatClampNeg))).2.2 29) l1.toNatClampNeg ((msetL c 28 (vf_upd (c.2.2 28) l1.toNatClampNeg (c.2.2 21 l1.toNatClampNeg))).2.2 22 l1.toNatClampNeg))) → kc32 (l1 + (1 : Int32)) Y2))))))
set_option maxRecDepth 20000 in
theorem mbX4_begin_0 {c : MS}  {kr kq : Int32 → MS → Prop} {kc32 kd32 : Int32 → MS → Prop} (hr : ∀ x X, kr x X → kq x X) (hc32 : ∀ z1 X, kc32 z1 X → kd32 z1 X) (h : bX4_begin_0 c  kr kc32) : bX4_begin_0 c  kq kd32 := by
  unfold bX4_begin_0 at h ⊢
  by_cases hc : ((msetI c 0 (0 : Int32)).1 1) = 0
  · rw [if_pos hc] at h ⊢
    exact hr _ _ h
  · rw [if_neg hc] at h ⊢
    obtain ⟨hi, h⟩ := h
    refine And.intro hi ?_
    exact hc32 _ _ h
set_option maxRecDepth 20000 in
theorem mbX4_begin_32 {c : MS} {l1 : Int32} {kr kq : Int32 → MS → Prop} {kc32 kd32 : Int32 → MS → Prop} (hr : ∀ x X, kr x X → kq x X) (hc32 : ∀ z1 X, kc32 z1 X → kd32 z1 X) (h : bX4_begin_32 c l1 kr kc32) : bX4_begin_32 c l1 kq kd32 := by
  unfold bX4_begin_32 at h ⊢
  by_cases hc : (c.1 1) ≤ l1
  · rw [if_pos hc] at h ⊢
    refine mnX4_judge ?_ h
    intro  X1 h
    exact hr _ _ h
  · rw [if_neg hc] at h ⊢
    obtain ⟨hi, h⟩ := h
    refine And.intro hi ?_
    obtain ⟨hi, h⟩ := h
    refine And.intro hi ?_
    obtain ⟨hi, h⟩ := h
    refine And.intro hi ?_
    obtain ⟨hi, h⟩ := h
    refine And.intro hi ?_
    intro Y2 eY2
    replace h := h _ eY2
    exact hc32 _ _ h
def itX4_begin_32 (kr : Int32 → MS → Prop) : Nat → Int32 → MS → Prop
  | 0, _, _ => False
  | n + 1, l1, c => bX4_begin_32 c l1 kr (fun z1 X => itX4_begin_32 kr n z1 X)
theorem miX4_begin_32 {kr kq : Int32 → MS → Prop} (hr : ∀ x X, kr x X → kq x X) : ∀ (n : Nat) (z1 : Int32) (X : MS), itX4_begin_32 kr n z1 X → itX4_begin_32 kq n z1 X
  | 0, _, _, h => h
  | n + 1, _, _, h => mbX4_begin_32 hr (fun _ _ h => miX4_begin_32 hr n _ _ h) h
def wX4_begin (c : MS)  (kr : Int32 → MS → Prop) : Prop := bX4_begin_0 c  kr (fun z1 X => ∃ N, itX4_begin_32 kr N z1 X)
theorem mnX4_begin {c : MS}  {kr kq : Int32 → MS → Prop} (hr : ∀ x X, kr x X → kq x X) (h : wX4_begin c  kr) : wX4_begin c  kq := mbX4_begin_0 hr (fun _ _ h => h.elim fun N h => ⟨N, miX4_begin_32 hr N _ _ h⟩) h
def tX4_begin : Tr := fun as σ k => match as with
  | [.ref 20] => ∃ (c : MS) (u : Nat → aE) (M : aS), σ = pre20 u ++ (wM c ++ M) ∧ wX4_begin c  (fun x X => k (some (.int x)) (pre20 u ++ (wM X ++ M)))
  | _ => False
def ceX4_begin : List (Nat × Nat × Tr) := (2 * 209 + 1, 1 + 1, tX4_judge) :: []
theorem coX4_begin (l : Launch) : CEok l yX4_begin.cls 11 ceX4_begin := ce_V (ci := 3) (n := 1) rfl (okX4_judge l) rcX4_judge (mw 807 (by decide +kernel) rfl) (mw 809 (by decide +kernel) rfl) (ms 19 (by decide +kernel) rfl) (mw 4 (by decide +kernel) rfl) (mw 810 (by decide +kernel) rfl) rfl (by decide) ⟨by decide, by decide⟩ (ce_0)
abbrev cutX4_begin : List (Nat × List Nat) := [(32, [0, 1])]
set_option maxRecDepth 20000 in
set_option maxHeartbeats 4000000 in
theorem lbX4_begin_0 {G : Nat → LV → List Value → aS → Prop} {post : Option Value → aS → Prop} (hG : ∀ n b pc lv st σ, seg (0, fun _ => 0) pgX4_begin ceX4_begin cutX4_begin G (fun v σ => rFit (some .int) v ∧ post v σ) n b pc lv st σ → G pc lv st σ) (c : MS) (u : Nat → aE) (M : aS)  (hb : bX4_begin_0 c  (fun x X => rFit (some .int) (some (.int x)) ∧ post (some (.int x)) (pre20 u ++ (wM X ++ M))) (fun z1 X => G 32 [(0, .ref 20), (1, .int z1)] [] (pre20 u ++ (wM X ++ M)))) : G 0 [(0, .ref 20)] [] (pre20 u ++ (wM c ++ M)) := by
  unfold bX4_begin_0 at hb
  refine hG 400 false 0 _ _ _ ?_
  refine And.intro (fun (h : ¬ ((msetI c 0 (0 : Int32)).1 1) = 0) => ?_) (fun hq => have h : ((msetI c 0 (0 : Int32)).1 1) = 0 := Classical.not_not.mp hq; ?_)
  · rw [if_neg h] at hb
    obtain ⟨hi, hb⟩ := hb
    refine And.intro hi ?_
    exact hb
  · rw [if_pos h] at hb
    exact hb
set_option maxRecDepth 20000 in
set_option maxHeartbeats 4000000 in
theorem lbX4_begin_32 {G : Nat → LV → List Value → aS → Prop} {post : Option Value → aS → Prop} (hG : ∀ n b pc lv st σ, seg (0, fun _ => 0) pgX4_begin ceX4_begin cutX4_begin G (fun v σ => rFit (some .int) v ∧ post v σ) n b pc lv st σ → G pc lv st σ) (c : MS) (u : Nat → aE) (M : aS) (l1 : Int32) (hb : bX4_begin_32 c l1 (fun x X => rFit (some .int) (some (.int x)) ∧ post (some (.int x)) (pre20 u ++ (wM X ++ M))) (fun z1 X => G 32 [(0, .ref 20), (1, .int z1)] [] (pre20 u ++ (wM X ++ M)))) : G 32 [(0, .ref 20), (1, .int l1)] [] (pre20 u ++ (wM c ++ M)) := by
  unfold bX4_begin_32 at hb
  refine hG 400 false 32 _ _ _ ?_
  refine And.intro (fun (h : (c.1 1) ≤ l1) => ?_) (fun (h : ¬ (c.1 1) ≤ l1) => ?_)
  · rw [if_pos h] at hb
    refine Exists.intro c (Exists.intro u (Exists.intro M ((And.intro rfl (mnX4_judge ?_ hb)))))
    intro  X1 hb
    exact hb
  · rw [if_neg h] at hb
    obtain ⟨hi, hb⟩ := hb
    refine And.intro hi ?_
    obtain ⟨hi, hb⟩ := hb
    refine And.intro hi ?_
    obtain ⟨hi, hb⟩ := hb
    refine And.intro hi ?_
    obtain ⟨hi, hb⟩ := hb
    refine And.intro hi ?_
    let Y2 : MS := (msetL (msetL c 28 (vf_upd (c.2.2 28) l1.toNatClampNeg (c.2.2 21 l1.toNatClampNeg))) 29 (vf_upd ((msetL c 28 (vf_upd (c.2.2 28) l1.toNatClampNeg (c.2.2 21 l1.toNatClampNeg))).2.2 29) l1.toNatClampNeg ((msetL c 28 (vf_upd (c.2.2 28) l1.toNatClampNeg (c.2.2 21 l1.toNatClampNeg))).2.2 22 l1.toNatClampNeg)))
    replace hb := hb Y2 rfl
    exact hb
theorem giX4_begin_32 {G : Nat → LV → List Value → aS → Prop} {post : Option Value → aS → Prop} (hG : ∀ n b pc lv st σ, seg (0, fun _ => 0) pgX4_begin ceX4_begin cutX4_begin G (fun v σ => rFit (some .int) v ∧ post v σ) n b pc lv st σ → G pc lv st σ) (u : Nat → aE) (M : aS) : ∀ (n : Nat) (z1 : Int32) (X : MS), itX4_begin_32 (fun x X => rFit (some .int) (some (.int x)) ∧ post (some (.int x)) (pre20 u ++ (wM X ++ M))) n z1 X → G 32 [(0, .ref 20), (1, .int z1)] [] (pre20 u ++ (wM X ++ M))
  | 0, _, _, h => h.elim
  | n + 1, _, _, h => lbX4_begin_32 hG _ u M _ (mbX4_begin_32 (fun _ _ h => h) (fun _ _ h => giX4_begin_32 hG u M n _ _ h) h)
theorem rcX4_begin : ∀ as σ kk, tX4_begin as σ kk → ∃ a r fs, as = .ref a :: r ∧ σ[a]? = some (.inr (3, fs)) := by
  intro as σ kk h
  unfold tX4_begin at h; split at h
  · obtain ⟨c, u, M, rfl, -⟩ := h
    exact ⟨_, _, _, rfl, rfl⟩
  · exact h.elim
set_option maxRecDepth 20000 in
theorem okX4_begin (l : Launch) : OK l yX4_begin cX4_begin 2 (some .int) 11 tX4_begin := by
  intro D τ ρ A as σ post h
  unfold tX4_begin at h; split at h
  · obtain ⟨c, u, M, rfl, hw⟩ := h
    refine met_of (P := pgX4_begin) (CE := ceX4_begin) (cut := cutX4_begin) (by decide) kkX4_begin (coX4_begin l) (Nat.le_of_ble_eq_true rfl) ?_
    intro G hG
    unfold wX4_begin at hw
    refine lbX4_begin_0 hG c u M  (mbX4_begin_0 ?_ ?_ hw)
    · exact fun _ _ h => ⟨trivial, h⟩
    · intro _ _ ⟨N, h⟩; exact giX4_begin_32 hG u M N _ _ (miX4_begin_32 (fun _ _ h => ⟨trivial, h⟩) N _ _ h)
  · exact h.elim
def bX4_widest_0 (c : MS) (a : Int32) (kr : Int32 → MS → Prop) (kc4 : Int32 → Int32 → Int32 → MS → Prop) : Prop :=
  kc4 a (0 : Int32) (1 : Int32) c
def bX4_widest_4 (c : MS) (a : Int32) (l2 : Int32) (l3 : Int32) (kr : Int32 → MS → Prop) (kc4 : Int32 → Int32 → Int32 → MS → Prop) : Prop :=
  (if (c.1 1) ≤ l3 then
    kr l2 c
  else
    (vp_in (((3 : Int32) * a) + l3) 300 ∧ (vp_in (((3 : Int32) * a) + l3) 300 ∧ (vf_n64 (FP.dsub (c.2.2 29 (((3 : Int32) * a) + l3).toNatClampNeg) (c.2.2 28 (((3 : Int32) * a) + l3).toNatClampNeg)) ∧ (vp_in (((3 : Int32) * a) + l2) 300 ∧ (vp_in (((3 : Int32) * a) + l2) 300 ∧ (vf_n64 (FP.dsub (c.2.2 29 (((3 : Int32) * a) + l2).toNatClampNeg) (c.2.2 28 (((3 : Int32) * a) + l2).toNatClampNeg)) ∧ (if (Op.cmpValue (FP.dcmp (FP.dsub (c.2.2 29 (((3 : Int32) * a) + l3).toNatClampNeg) (c.2.2 28 (((3 : Int32) * a) + l3).toNatClampNeg)) (FP.dsub (c.2.2 29 (((3 : Int32) * a) + l2).toNatClampNeg) (c.2.2 28 (((3 : Int32) * a) + l2).toNatClampNeg))) .l) ≤ 0 then
      kc4 a l2 (l3 + (1 : Int32)) c
    else
      kc4 a l3 (l3 + (1 : Int32)) c))))))))
set_option maxRecDepth 20000 in
theorem mbX4_widest_0 {c : MS} {a : Int32} {kr kq : Int32 → MS → Prop} {kc4 kd4 : Int32 → Int32 → Int32 → MS → Prop} (hr : ∀ x X, kr x X → kq x X) (hc4 : ∀ z1 z2 z3 X, kc4 z1 z2 z3 X → kd4 z1 z2 z3 X) (h : bX4_widest_0 c a kr kc4) : bX4_widest_0 c a kq kd4 := by
  unfold bX4_widest_0 at h ⊢
  exact hc4 _ _ _ _ h
set_option maxRecDepth 20000 in
theorem mbX4_widest_4 {c : MS} {a : Int32} {l2 : Int32} {l3 : Int32} {kr kq : Int32 → MS → Prop} {kc4 kd4 : Int32 → Int32 → Int32 → MS → Prop} (hr : ∀ x X, kr x X → kq x X) (hc4 : ∀ z1 z2 z3 X, kc4 z1 z2 z3 X → kd4 z1 z2 z3 X) (h : bX4_widest_4 c a l2 l3 kr kc4) : bX4_widest_4 c a l2 l3 kq kd4 := by
  unfold bX4_widest_4 at h ⊢
  by_cases hc : (c.1 1) ≤ l3
  · rw [if_pos hc] at h ⊢
    exact hr _ _ h
  · rw [if_neg hc] at h ⊢
    obtain ⟨hi, h⟩ := h
    refine And.intro hi ?_
    obtain ⟨hi, h⟩ := h
    refine And.intro hi ?_
    obtain ⟨hi, h⟩ := h
    refine And.intro hi ?_
    obtain ⟨hi, h⟩ := h
    refine And.intro hi ?_
    obtain ⟨hi, h⟩ := h
    refine And.intro hi ?_
    obtain ⟨hi, h⟩ := h
    refine And.intro hi ?_
    by_cases hc : (Op.cmpValue (FP.dcmp (FP.dsub (c.2.2 29 (((3 : Int32) * a) + l3).toNatClampNeg) (c.2.2 28 (((3 : Int32) * a) + l3).toNatClampNeg)) (FP.dsub (c.2.2 29 (((3 : Int32) * a) + l2).toNatClampNeg) (c.2.2 28 (((3 : Int32) * a) + l2).toNatClampNeg))) .l) ≤ 0
    · rw [if_pos hc] at h ⊢
      exact hc4 _ _ _ _ h
    · rw [if_neg hc] at h ⊢
      exact hc4 _ _ _ _ h
def itX4_widest_4 (kr : Int32 → MS → Prop) : Nat → Int32 → Int32 → Int32 → MS → Prop
  | 0, _, _, _, _ => False
  | n + 1, a, l2, l3, c => bX4_widest_4 c a l2 l3 kr (fun z1 z2 z3 X => itX4_widest_4 kr n z1 z2 z3 X)
theorem miX4_widest_4 {kr kq : Int32 → MS → Prop} (hr : ∀ x X, kr x X → kq x X) : ∀ (n : Nat) (z1 : Int32) (z2 : Int32) (z3 : Int32) (X : MS), itX4_widest_4 kr n z1 z2 z3 X → itX4_widest_4 kq n z1 z2 z3 X
  | 0, _, _, _, _, h => h
  | n + 1, _, _, _, _, h => mbX4_widest_4 hr (fun _ _ _ _ h => miX4_widest_4 hr n _ _ _ _ h) h
def wX4_widest (c : MS) (a : Int32) (kr : Int32 → MS → Prop) : Prop := bX4_widest_0 c a kr (fun z1 z2 z3 X => ∃ N, itX4_widest_4 kr N z1 z2 z3 X)
theorem mnX4_widest {c : MS} {a : Int32} {kr kq : Int32 → MS → Prop} (hr : ∀ x X, kr x X → kq x X) (h : wX4_widest c a kr) : wX4_widest c a kq := mbX4_widest_0 hr (fun _ _ _ _ h => h.elim fun N h => ⟨N, miX4_widest_4 hr N _ _ _ _ h⟩) h
def tX4_widest : Tr := fun as σ k => match as with
  | [.ref 20, .int a] => ∃ (c : MS) (u : Nat → aE) (M : aS), σ = pre20 u ++ (wM c ++ M) ∧ wX4_widest c a (fun x X => k (some (.int x)) (pre20 u ++ (wM X ++ M)))
  | _ => False
def ceX4_widest : List (Nat × Nat × Tr) := []
theorem coX4_widest (l : Launch) : CEok l yX4_widest.cls 0 ceX4_widest := ce_0
abbrev cutX4_widest : List (Nat × List Nat) := [(4, [0, 1, 2, 3])]
set_option maxRecDepth 20000 in
set_option maxHeartbeats 4000000 in
theorem lbX4_widest_0 {G : Nat → LV → List Value → aS → Prop} {post : Option Value → aS → Prop} (hG : ∀ n b pc lv st σ, seg (0, fun _ => 0) pgX4_widest ceX4_widest cutX4_widest G (fun v σ => rFit (some .int) v ∧ post v σ) n b pc lv st σ → G pc lv st σ) (c : MS) (u : Nat → aE) (M : aS) (a : Int32) (hb : bX4_widest_0 c a (fun x X => rFit (some .int) (some (.int x)) ∧ post (some (.int x)) (pre20 u ++ (wM X ++ M))) (fun z1 z2 z3 X => G 4 [(0, .ref 20), (1, .int z1), (2, .int z2), (3, .int z3)] [] (pre20 u ++ (wM X ++ M)))) : G 0 [(0, .ref 20), (1, .int a)] [] (pre20 u ++ (wM c ++ M)) := by
  unfold bX4_widest_0 at hb
  refine hG 400 false 0 _ _ _ ?_
  exact hb
set_option maxRecDepth 20000 in
set_option maxHeartbeats 4000000 in
theorem lbX4_widest_4 {G : Nat → LV → List Value → aS → Prop} {post : Option Value → aS → Prop} (hG : ∀ n b pc lv st σ, seg (0, fun _ => 0) pgX4_widest ceX4_widest cutX4_widest G (fun v σ => rFit (some .int) v ∧ post v σ) n b pc lv st σ → G pc lv st σ) (c : MS) (u : Nat → aE) (M : aS) (a : Int32) (l2 : Int32) (l3 : Int32) (hb : bX4_widest_4 c a l2 l3 (fun x X => rFit (some .int) (some (.int x)) ∧ post (some (.int x)) (pre20 u ++ (wM X ++ M))) (fun z1 z2 z3 X => G 4 [(0, .ref 20), (1, .int z1), (2, .int z2), (3, .int z3)] [] (pre20 u ++ (wM X ++ M)))) : G 4 [(0, .ref 20), (1, .int a), (2, .int l2), (3, .int l3)] [] (pre20 u ++ (wM c ++ M)) := by
  unfold bX4_widest_4 at hb
  refine hG 400 false 4 _ _ _ ?_
  refine And.intro (fun (h : (c.1 1) ≤ l3) => ?_) (fun (h : ¬ (c.1 1) ≤ l3) => ?_)
  · rw [if_pos h] at hb
    exact hb
  · rw [if_neg h] at hb
    obtain ⟨hi, hb⟩ := hb
    refine And.intro hi ?_
    obtain ⟨hi, hb⟩ := hb
    refine And.intro hi ?_
    obtain ⟨hi, hb⟩ := hb
    refine And.intro hi ?_
    obtain ⟨hi, hb⟩ := hb
    refine And.intro hi ?_
    obtain ⟨hi, hb⟩ := hb
    refine And.intro hi ?_
    obtain ⟨hi, hb⟩ := hb
    refine And.intro hi ?_
    refine And.intro (fun (h : (Op.cmpValue (FP.dcmp (FP.dsub (c.2.2 29 (((3 : Int32) * a) + l3).toNatClampNeg) (c.2.2 28 (((3 : Int32) * a) + l3).toNatClampNeg)) (FP.dsub (c.2.2 29 (((3 : Int32) * a) + l2).toNatClampNeg) (c.2.2 28 (((3 : Int32) * a) + l2).toNatClampNeg))) .l) ≤ 0) => ?_) (fun (h : ¬ (Op.cmpValue (FP.dcmp (FP.dsub (c.2.2 29 (((3 : Int32) * a) + l3).toNatClampNeg) (c.2.2 28 (((3 : Int32) * a) + l3).toNatClampNeg)) (FP.dsub (c.2.2 29 (((3 : Int32) * a) + l2).toNatClampNeg) (c.2.2 28 (((3 : Int32) * a) + l2).toNatClampNeg))) .l) ≤ 0) => ?_)
    · rw [if_pos h] at hb
      exact hb
    · rw [if_neg h] at hb
      exact hb
theorem giX4_widest_4 {G : Nat → LV → List Value → aS → Prop} {post : Option Value → aS → Prop} (hG : ∀ n b pc lv st σ, seg (0, fun _ => 0) pgX4_widest ceX4_widest cutX4_widest G (fun v σ => rFit (some .int) v ∧ post v σ) n b pc lv st σ → G pc lv st σ) (u : Nat → aE) (M : aS) : ∀ (n : Nat) (z1 : Int32) (z2 : Int32) (z3 : Int32) (X : MS), itX4_widest_4 (fun x X => rFit (some .int) (some (.int x)) ∧ post (some (.int x)) (pre20 u ++ (wM X ++ M))) n z1 z2 z3 X → G 4 [(0, .ref 20), (1, .int z1), (2, .int z2), (3, .int z3)] [] (pre20 u ++ (wM X ++ M))
  | 0, _, _, _, _, h => h.elim
  | n + 1, _, _, _, _, h => lbX4_widest_4 hG _ u M _ _ _ (mbX4_widest_4 (fun _ _ h => h) (fun _ _ _ _ h => giX4_widest_4 hG u M n _ _ _ _ h) h)
theorem rcX4_widest : ∀ as σ kk, tX4_widest as σ kk → ∃ a r fs, as = .ref a :: r ∧ σ[a]? = some (.inr (3, fs)) := by
  intro as σ kk h
  unfold tX4_widest at h; split at h
  · obtain ⟨c, u, M, rfl, -⟩ := h
    exact ⟨_, _, _, rfl, rfl⟩
  · exact h.elim
set_option maxRecDepth 20000 in
theorem okX4_widest (l : Launch) : OK l yX4_widest cX4_widest 4 (some .int) 0 tX4_widest := by
  intro D τ ρ A as σ post h
  unfold tX4_widest at h; split at h
  · rename_i a; obtain ⟨c, u, M, rfl, hw⟩ := h
    refine met_of (P := pgX4_widest) (CE := ceX4_widest) (cut := cutX4_widest) (by decide) kkX4_widest (coX4_widest l) (Nat.le_of_ble_eq_true rfl) ?_
    intro G hG
    unfold wX4_widest at hw
    refine lbX4_widest_0 hG c u M a (mbX4_widest_0 ?_ ?_ hw)
    · exact fun _ _ h => ⟨trivial, h⟩
    · intro _ _ _ _ ⟨N, h⟩; exact giX4_widest_4 hG u M N _ _ _ _ (miX4_widest_4 (fun _ _ h => ⟨trivial, h⟩) N _ _ _ _ h)
  · exact h.elim
def bX4_middle_0 (c : MS) (a : Int32) (kr : UInt64 → MS → Prop)  : Prop :=
  (wX4_widest c a (fun r1 X1 => (vp_in (((3 : Int32) * a) + r1) 300 ∧ (vp_in (((3 : Int32) * a) + r1) 300 ∧ (vp_in (((3 : Int32) * a) + r1) 300 ∧ (vf_n64 (FP.dsub (X1.2.2 29 (((3 : Int32) * a) + r1).toNatClampNeg) (X1.2.2 28 (((3 : Int32) * a) + r1).toNatClampNeg)) ∧ (vf_n64 (FP.ddiv (FP.dsub (X1.2.2 29 (((3 : Int32) * a) + r1).toNatClampNeg) (X1.2.2 28 (((3 : Int32) * a) + r1).toNatClampNeg)) (4611686018427387904 : UInt64)) ∧ (vf_n64 (FP.dadd (X1.2.2 28 (((3 : Int32) * a) + r1).toNatClampNeg) (FP.ddiv (FP.dsub (X1.2.2 29 (((3 : Int32) * a) + r1).toNatClampNeg) (X1.2.2 28 (((3 : Int32) * a) + r1).toNatClampNeg)) (4611686018427387904 : UInt64))) ∧ kr (FP.dadd (X1.2.2 28 (((3 : Int32) * a) + r1).toNatClampNeg) (FP.ddiv (FP.dsub (X1.2.2 29 (((3 : Int32) * a) + r1).toNatClampNeg) (X1.2.2 28 (((3 : Int32) * a) + r1).toNatClampNeg)) (4611686018427387904 : UInt64))) X1))))))))
set_option maxRecDepth 20000 in
theorem mbX4_middle_0 {c : MS} {a : Int32} {kr kq : UInt64 → MS → Prop}  (hr : ∀ x X, kr x X → kq x X)  (h : bX4_middle_0 c a kr ) : bX4_middle_0 c a kq  := by
  unfold bX4_middle_0 at h ⊢
  refine mnX4_widest ?_ h
  intro r1 X1 h
  obtain ⟨hi, h⟩ := h
  refine And.intro hi ?_
  obtain ⟨hi, h⟩ := h
  refine And.intro hi ?_
  obtain ⟨hi, h⟩ := h
  refine And.intro hi ?_
  obtain ⟨hi, h⟩ := h
  refine And.intro hi ?_
  obtain ⟨hi, h⟩ := h
  refine And.intro hi ?_
  obtain ⟨hi, h⟩ := h
  refine And.intro hi ?_
  exact hr _ _ h
def wX4_middle (c : MS) (a : Int32) (kr : UInt64 → MS → Prop) : Prop := bX4_middle_0 c a kr 
theorem mnX4_middle {c : MS} {a : Int32} {kr kq : UInt64 → MS → Prop} (hr : ∀ x X, kr x X → kq x X) (h : wX4_middle c a kr) : wX4_middle c a kq := mbX4_middle_0 hr  h
def tX4_middle : Tr := fun as σ k => match as with
  | [.ref 20, .int a] => ∃ (c : MS) (u : Nat → aE) (M : aS), σ = pre20 u ++ (wM c ++ M) ∧ wX4_middle c a (fun x X => k (some (.double x)) (pre20 u ++ (wM X ++ M)))
  | _ => False
def ceX4_middle : List (Nat × Nat × Tr) := (2 * 213 + 1, 1 + 1, tX4_widest) :: []
theorem coX4_middle (l : Launch) : CEok l yX4_middle.cls 1 ceX4_middle := ce_V (ci := 3) (n := 1) rfl (okX4_widest l) rcX4_widest (mw 863 (by decide +kernel) rfl) (mw 865 (by decide +kernel) rfl) (ms 29 (by decide +kernel) rfl) (mw 4 (by decide +kernel) rfl) (mw 866 (by decide +kernel) rfl) rfl (by decide) ⟨by decide, by decide⟩ (ce_0)
abbrev cutX4_middle : List (Nat × List Nat) := []
set_option maxRecDepth 20000 in
set_option maxHeartbeats 4000000 in
theorem lbX4_middle_0 {G : Nat → LV → List Value → aS → Prop} {post : Option Value → aS → Prop} (hG : ∀ n b pc lv st σ, seg (0, fun _ => 0) pgX4_middle ceX4_middle cutX4_middle G (fun v σ => rFit (some .double) v ∧ post v σ) n b pc lv st σ → G pc lv st σ) (c : MS) (u : Nat → aE) (M : aS) (a : Int32) (hb : bX4_middle_0 c a (fun x X => rFit (some .double) (some (.double x)) ∧ post (some (.double x)) (pre20 u ++ (wM X ++ M))) ) : G 0 [(0, .ref 20), (1, .int a)] [] (pre20 u ++ (wM c ++ M)) := by
  unfold bX4_middle_0 at hb
  refine hG 400 false 0 _ _ _ ?_
  refine Exists.intro c (Exists.intro u (Exists.intro M ((And.intro rfl (mnX4_widest ?_ hb)))))
  intro r1 X1 hb
  obtain ⟨hi, hb⟩ := hb
  refine And.intro hi ?_
  obtain ⟨hi, hb⟩ := hb
  refine And.intro hi ?_
  obtain ⟨hi, hb⟩ := hb
  refine And.intro hi ?_
  obtain ⟨hi, hb⟩ := hb
  refine And.intro hi ?_
  obtain ⟨hi, hb⟩ := hb
  refine And.intro hi ?_
  obtain ⟨hi, hb⟩ := hb
  refine And.intro hi ?_
  exact hb
theorem rcX4_middle : ∀ as σ kk, tX4_middle as σ kk → ∃ a r fs, as = .ref a :: r ∧ σ[a]? = some (.inr (3, fs)) := by
  intro as σ kk h
  unfold tX4_middle at h; split at h
  · obtain ⟨c, u, M, rfl, -⟩ := h
    exact ⟨_, _, _, rfl, rfl⟩
  · exact h.elim
set_option maxRecDepth 20000 in
theorem okX4_middle (l : Launch) : OK l yX4_middle cX4_middle 3 (some .double) 1 tX4_middle := by
  intro D τ ρ A as σ post h
  unfold tX4_middle at h; split at h
  · rename_i a; obtain ⟨c, u, M, rfl, hw⟩ := h
    refine met_of (P := pgX4_middle) (CE := ceX4_middle) (cut := cutX4_middle) (by decide) kkX4_middle (coX4_middle l) (Nat.le_of_ble_eq_true rfl) ?_
    intro G hG
    unfold wX4_middle at hw
    refine lbX4_middle_0 hG c u M a (mbX4_middle_0 ?_  hw)
    · exact fun _ _ h => ⟨trivial, h⟩
  · exact h.elim
def bX4_isTight_0 (c : MS) (a : Int32) (kr : Int32 → MS → Prop)  : Prop :=
  (wX4_widest c a (fun r1 X1 => (wX4_middle X1 a (fun r2 X2 => (vp_in (((3 : Int32) * a) + r1) 300 ∧ (if (Op.cmpValue (FP.dcmp r2 (X2.2.2 28 (((3 : Int32) * a) + r1).toNatClampNeg)) .l) ≤ 0 then
    kr (1 : Int32) X2
  else
    (vp_in (((3 : Int32) * a) + r1) 300 ∧ (if (Op.cmpValue (FP.dcmp r2 (X2.2.2 29 (((3 : Int32) * a) + r1).toNatClampNeg)) .g) < 0 then
      kr (0 : Int32) X2
    else
      kr (1 : Int32) X2))))))))
set_option maxRecDepth 20000 in
theorem mbX4_isTight_0 {c : MS} {a : Int32} {kr kq : Int32 → MS → Prop}  (hr : ∀ x X, (x = 0 ∨ x = 1) → kr x X → kq x X)  (h : bX4_isTight_0 c a kr ) : bX4_isTight_0 c a kq  := by
  unfold bX4_isTight_0 at h ⊢
  refine mnX4_widest ?_ h
  intro r1 X1 h
  refine mnX4_middle ?_ h
  intro r2 X2 h
  obtain ⟨hi, h⟩ := h
  refine And.intro hi ?_
  by_cases hc : (Op.cmpValue (FP.dcmp r2 (X2.2.2 28 (((3 : Int32) * a) + r1).toNatClampNeg)) .l) ≤ 0
  · rw [if_pos hc] at h ⊢
    exact hr _ _ (Or.inr rfl) h
  · rw [if_neg hc] at h ⊢
    obtain ⟨hi, h⟩ := h
    refine And.intro hi ?_
    by_cases hc : (Op.cmpValue (FP.dcmp r2 (X2.2.2 29 (((3 : Int32) * a) + r1).toNatClampNeg)) .g) < 0
    · rw [if_pos hc] at h ⊢
      exact hr _ _ (Or.inl rfl) h
    · rw [if_neg hc] at h ⊢
      exact hr _ _ (Or.inr rfl) h
def wX4_isTight (c : MS) (a : Int32) (kr : Int32 → MS → Prop) : Prop := bX4_isTight_0 c a kr 
theorem mnX4_isTight {c : MS} {a : Int32} {kr kq : Int32 → MS → Prop} (hr : ∀ x X, (x = 0 ∨ x = 1) → kr x X → kq x X) (h : wX4_isTight c a kr) : wX4_isTight c a kq := mbX4_isTight_0 hr  h
def tX4_isTight : Tr := fun as σ k => match as with
  | [.ref 20, .int a] => ∃ (c : MS) (u : Nat → aE) (M : aS), σ = pre20 u ++ (wM c ++ M) ∧ wX4_isTight c a (fun x X => k (some (.int x)) (pre20 u ++ (wM X ++ M)))
  | _ => False
def ceX4_isTight : List (Nat × Nat × Tr) := (2 * 213 + 1, 1 + 1, tX4_widest) :: (2 * 219 + 1, 1 + 1, tX4_middle) :: []
theorem coX4_isTight (l : Launch) : CEok l yX4_isTight.cls 2 ceX4_isTight := ce_V (ci := 3) (n := 1) rfl (okX4_widest l) rcX4_widest (mw 863 (by decide +kernel) rfl) (mw 865 (by decide +kernel) rfl) (ms 29 (by decide +kernel) rfl) (mw 4 (by decide +kernel) rfl) (mw 866 (by decide +kernel) rfl) rfl (by decide) ⟨by decide, by decide⟩ (ce_V (ci := 3) (n := 1) rfl (okX4_middle l) rcX4_middle (mw 867 (by decide +kernel) rfl) (mw 869 (by decide +kernel) rfl) (ms 30 (by decide +kernel) rfl) (mw 4 (by decide +kernel) rfl) (mw 870 (by decide +kernel) rfl) rfl (by decide) ⟨by decide, by decide⟩ (ce_0))
abbrev cutX4_isTight : List (Nat × List Nat) := []
set_option maxRecDepth 20000 in
set_option maxHeartbeats 4000000 in
theorem lbX4_isTight_0 {G : Nat → LV → List Value → aS → Prop} {post : Option Value → aS → Prop} (hG : ∀ n b pc lv st σ, seg (0, fun _ => 0) pgX4_isTight ceX4_isTight cutX4_isTight G (fun v σ => rFit (some .boolean) v ∧ post v σ) n b pc lv st σ → G pc lv st σ) (c : MS) (u : Nat → aE) (M : aS) (a : Int32) (hb : bX4_isTight_0 c a (fun x X => rFit (some .boolean) (some (.int x)) ∧ post (some (.int x)) (pre20 u ++ (wM X ++ M))) ) : G 0 [(0, .ref 20), (1, .int a)] [] (pre20 u ++ (wM c ++ M)) := by
  unfold bX4_isTight_0 at hb
  refine hG 400 false 0 _ _ _ ?_
  refine Exists.intro c (Exists.intro u (Exists.intro M ((And.intro rfl (mnX4_widest ?_ hb)))))
  intro r1 X1 hb
  refine Exists.intro X1 (Exists.intro u (Exists.intro M ((And.intro rfl (mnX4_middle ?_ hb)))))
  intro r2 X2 hb
  obtain ⟨hi, hb⟩ := hb
  refine And.intro hi ?_
  refine And.intro (fun (h : (Op.cmpValue (FP.dcmp r2 (X2.2.2 28 (((3 : Int32) * a) + r1).toNatClampNeg)) .l) ≤ 0) => ?_) (fun (h : ¬ (Op.cmpValue (FP.dcmp r2 (X2.2.2 28 (((3 : Int32) * a) + r1).toNatClampNeg)) .l) ≤ 0) => ?_)
  · rw [if_pos h] at hb
    exact hb
  · rw [if_neg h] at hb
    obtain ⟨hi, hb⟩ := hb
    refine And.intro hi ?_
    refine And.intro (fun (h : (Op.cmpValue (FP.dcmp r2 (X2.2.2 29 (((3 : Int32) * a) + r1).toNatClampNeg)) .g) < 0) => ?_) (fun (h : ¬ (Op.cmpValue (FP.dcmp r2 (X2.2.2 29 (((3 : Int32) * a) + r1).toNatClampNeg)) .g) < 0) => ?_)
    · rw [if_pos h] at hb
      exact hb
    · rw [if_neg h] at hb
      exact hb
theorem rcX4_isTight : ∀ as σ kk, tX4_isTight as σ kk → ∃ a r fs, as = .ref a :: r ∧ σ[a]? = some (.inr (3, fs)) := by
  intro as σ kk h
  unfold tX4_isTight at h; split at h
  · obtain ⟨c, u, M, rfl, -⟩ := h
    exact ⟨_, _, _, rfl, rfl⟩
  · exact h.elim
set_option maxRecDepth 20000 in
theorem okX4_isTight (l : Launch) : OK l yX4_isTight cX4_isTight 5 (some .boolean) 2 tX4_isTight := by
  intro D τ ρ A as σ post h
  unfold tX4_isTight at h; split at h
  · rename_i a; obtain ⟨c, u, M, rfl, hw⟩ := h
    refine met_of (P := pgX4_isTight) (CE := ceX4_isTight) (cut := cutX4_isTight) (by decide) kkX4_isTight (coX4_isTight l) (Nat.le_of_ble_eq_true rfl) ?_
    intro G hG
    unfold wX4_isTight at hw
    refine lbX4_isTight_0 hG c u M a (mbX4_isTight_0 ?_  hw)
    · exact fun _ _ hf h => ⟨hf, h⟩
  · exact h.elim
def bX4_next_0 (c : MS)  (kr : Int32 → MS → Prop) (kc4 : Int32 → Int32 → MS → Prop) : Prop :=
  kc4 (-1 : Int32) (0 : Int32) c
def bX4_next_4 (c : MS) (l1 : Int32) (l2 : Int32) (kr : Int32 → MS → Prop) (kc4 : Int32 → Int32 → MS → Prop) : Prop :=
  (if (c.1 4) ≤ l2 then
    kr l1 c
  else
    (vp_in l2 100 ∧ (if (c.2.1 30 l2.toNatClampNeg) = (3 : Int32) then
      (wX4_isTight c l2 (fun r1 X1 => (if r1 = 0 then
        (if l1 < 0 then
          kc4 l2 (l2 + (1 : Int32)) X1
        else
          (vp_in l2 100 ∧ (vp_in l1 100 ∧ (if (Op.cmpValue (FP.dcmp (X1.2.2 32 l2.toNatClampNeg) (X1.2.2 32 l1.toNatClampNeg)) .l) ≤ 0 then
            kc4 l1 (l2 + (1 : Int32)) X1
          else
            kc4 l2 (l2 + (1 : Int32)) X1))))
      else
        kc4 l1 (l2 + (1 : Int32)) X1)))
    else
      kc4 l1 (l2 + (1 : Int32)) c)))
set_option maxRecDepth 20000 in
theorem mbX4_next_0 {c : MS}  {kr kq : Int32 → MS → Prop} {kc4 kd4 : Int32 → Int32 → MS → Prop} (hr : ∀ x X, kr x X → kq x X) (hc4 : ∀ z1 z2 X, kc4 z1 z2 X → kd4 z1 z2 X) (h : bX4_next_0 c  kr kc4) : bX4_next_0 c  kq kd4 := by
  unfold bX4_next_0 at h ⊢
  exact hc4 _ _ _ h
set_option maxRecDepth 20000 in
theorem mbX4_next_4 {c : MS} {l1 : Int32} {l2 : Int32} {kr kq : Int32 → MS → Prop} {kc4 kd4 : Int32 → Int32 → MS → Prop} (hr : ∀ x X, kr x X → kq x X) (hc4 : ∀ z1 z2 X, kc4 z1 z2 X → kd4 z1 z2 X) (h : bX4_next_4 c l1 l2 kr kc4) : bX4_next_4 c l1 l2 kq kd4 := by
  unfold bX4_next_4 at h ⊢
  by_cases hc : (c.1 4) ≤ l2
  · rw [if_pos hc] at h ⊢
    exact hr _ _ h
  · rw [if_neg hc] at h ⊢
    obtain ⟨hi, h⟩ := h
    refine And.intro hi ?_
    by_cases hc : (c.2.1 30 l2.toNatClampNeg) = (3 : Int32)
    · rw [if_pos hc] at h ⊢
      refine mnX4_isTight ?_ h
      intro r1 X1 _ h
      by_cases hc : r1 = 0
      · rw [if_pos hc] at h ⊢
        by_cases hc : l1 < 0
        · rw [if_pos hc] at h ⊢
          exact hc4 _ _ _ h
        · rw [if_neg hc] at h ⊢
          obtain ⟨hi, h⟩ := h
          refine And.intro hi ?_
          obtain ⟨hi, h⟩ := h
          refine And.intro hi ?_
          by_cases hc : (Op.cmpValue (FP.dcmp (X1.2.2 32 l2.toNatClampNeg) (X1.2.2 32 l1.toNatClampNeg)) .l) ≤ 0
          · rw [if_pos hc] at h ⊢
            exact hc4 _ _ _ h
          · rw [if_neg hc] at h ⊢
            exact hc4 _ _ _ h
      · rw [if_neg hc] at h ⊢
        exact hc4 _ _ _ h
    · rw [if_neg hc] at h ⊢
      exact hc4 _ _ _ h
def itX4_next_4 (kr : Int32 → MS → Prop) : Nat → Int32 → Int32 → MS → Prop
  | 0, _, _, _ => False
  | n + 1, l1, l2, c => bX4_next_4 c l1 l2 kr (fun z1 z2 X => itX4_next_4 kr n z1 z2 X)
theorem miX4_next_4 {kr kq : Int32 → MS → Prop} (hr : ∀ x X, kr x X → kq x X) : ∀ (n : Nat) (z1 : Int32) (z2 : Int32) (X : MS), itX4_next_4 kr n z1 z2 X → itX4_next_4 kq n z1 z2 X
  | 0, _, _, _, h => h
  | n + 1, _, _, _, h => mbX4_next_4 hr (fun _ _ _ h => miX4_next_4 hr n _ _ _ h) h
def wX4_next (c : MS)  (kr : Int32 → MS → Prop) : Prop := bX4_next_0 c  kr (fun z1 z2 X => ∃ N, itX4_next_4 kr N z1 z2 X)
theorem mnX4_next {c : MS}  {kr kq : Int32 → MS → Prop} (hr : ∀ x X, kr x X → kq x X) (h : wX4_next c  kr) : wX4_next c  kq := mbX4_next_0 hr (fun _ _ _ h => h.elim fun N h => ⟨N, miX4_next_4 hr N _ _ _ h⟩) h
def tX4_next : Tr := fun as σ k => match as with
  | [.ref 20] => ∃ (c : MS) (u : Nat → aE) (M : aS), σ = pre20 u ++ (wM c ++ M) ∧ wX4_next c  (fun x X => k (some (.int x)) (pre20 u ++ (wM X ++ M)))
  | _ => False
def ceX4_next : List (Nat × Nat × Tr) := (2 * 223 + 1, 1 + 1, tX4_isTight) :: []
theorem coX4_next (l : Launch) : CEok l yX4_next.cls 3 ceX4_next := ce_V (ci := 3) (n := 1) rfl (okX4_isTight l) rcX4_isTight (mw 859 (by decide +kernel) rfl) (mw 861 (by decide +kernel) rfl) (ms 28 (by decide +kernel) rfl) (mw 4 (by decide +kernel) rfl) (mw 862 (by decide +kernel) rfl) rfl (by decide) ⟨by decide, by decide⟩ (ce_0)
abbrev cutX4_next : List (Nat × List Nat) := [(4, [0, 1, 2])]
set_option maxRecDepth 20000 in
set_option maxHeartbeats 4000000 in
theorem lbX4_next_0 {G : Nat → LV → List Value → aS → Prop} {post : Option Value → aS → Prop} (hG : ∀ n b pc lv st σ, seg (0, fun _ => 0) pgX4_next ceX4_next cutX4_next G (fun v σ => rFit (some .int) v ∧ post v σ) n b pc lv st σ → G pc lv st σ) (c : MS) (u : Nat → aE) (M : aS)  (hb : bX4_next_0 c  (fun x X => rFit (some .int) (some (.int x)) ∧ post (some (.int x)) (pre20 u ++ (wM X ++ M))) (fun z1 z2 X => G 4 [(0, .ref 20), (1, .int z1), (2, .int z2)] [] (pre20 u ++ (wM X ++ M)))) : G 0 [(0, .ref 20)] [] (pre20 u ++ (wM c ++ M)) := by
  unfold bX4_next_0 at hb
  refine hG 400 false 0 _ _ _ ?_
  exact hb
set_option maxRecDepth 20000 in
set_option maxHeartbeats 4000000 in
theorem lbX4_next_4 {G : Nat → LV → List Value → aS → Prop} {post : Option Value → aS → Prop} (hG : ∀ n b pc lv st σ, seg (0, fun _ => 0) pgX4_next ceX4_next cutX4_next G (fun v σ => rFit (some .int) v ∧ post v σ) n b pc lv st σ → G pc lv st σ) (c : MS) (u : Nat → aE) (M : aS) (l1 : Int32) (l2 : Int32) (hb : bX4_next_4 c l1 l2 (fun x X => rFit (some .int) (some (.int x)) ∧ post (some (.int x)) (pre20 u ++ (wM X ++ M))) (fun z1 z2 X => G 4 [(0, .ref 20), (1, .int z1), (2, .int z2)] [] (pre20 u ++ (wM X ++ M)))) : G 4 [(0, .ref 20), (1, .int l1), (2, .int l2)] [] (pre20 u ++ (wM c ++ M)) := by
  unfold bX4_next_4 at hb
  refine hG 400 false 4 _ _ _ ?_
  refine And.intro (fun (h : (c.1 4) ≤ l2) => ?_) (fun (h : ¬ (c.1 4) ≤ l2) => ?_)
  · rw [if_pos h] at hb
    exact hb
  · rw [if_neg h] at hb
    obtain ⟨hi, hb⟩ := hb
    refine And.intro hi ?_
    refine And.intro (fun (h : ¬ (c.2.1 30 l2.toNatClampNeg) = (3 : Int32)) => ?_) (fun hq => have h : (c.2.1 30 l2.toNatClampNeg) = (3 : Int32) := Classical.not_not.mp hq; ?_)
    · rw [if_neg h] at hb
      exact hb
    · rw [if_pos h] at hb
      refine Exists.intro c (Exists.intro u (Exists.intro M ((And.intro rfl (mnX4_isTight ?_ hb)))))
      intro r1 X1 _ hb
      refine And.intro (fun (h : ¬ r1 = 0) => ?_) (fun hq => have h : r1 = 0 := Classical.not_not.mp hq; ?_)
      · rw [if_neg h] at hb
        exact hb
      · rw [if_pos h] at hb
        refine And.intro (fun (h : l1 < 0) => ?_) (fun (h : ¬ l1 < 0) => ?_)
        · rw [if_pos h] at hb
          exact hb
        · rw [if_neg h] at hb
          obtain ⟨hi, hb⟩ := hb
          refine And.intro hi ?_
          obtain ⟨hi, hb⟩ := hb
          refine And.intro hi ?_
          refine And.intro (fun (h : (Op.cmpValue (FP.dcmp (X1.2.2 32 l2.toNatClampNeg) (X1.2.2 32 l1.toNatClampNeg)) .l) ≤ 0) => ?_) (fun (h : ¬ (Op.cmpValue (FP.dcmp (X1.2.2 32 l2.toNatClampNeg) (X1.2.2 32 l1.toNatClampNeg)) .l) ≤ 0) => ?_)
          · rw [if_pos h] at hb
            exact hb
          · rw [if_neg h] at hb
            exact hb
theorem giX4_next_4 {G : Nat → LV → List Value → aS → Prop} {post : Option Value → aS → Prop} (hG : ∀ n b pc lv st σ, seg (0, fun _ => 0) pgX4_next ceX4_next cutX4_next G (fun v σ => rFit (some .int) v ∧ post v σ) n b pc lv st σ → G pc lv st σ) (u : Nat → aE) (M : aS) : ∀ (n : Nat) (z1 : Int32) (z2 : Int32) (X : MS), itX4_next_4 (fun x X => rFit (some .int) (some (.int x)) ∧ post (some (.int x)) (pre20 u ++ (wM X ++ M))) n z1 z2 X → G 4 [(0, .ref 20), (1, .int z1), (2, .int z2)] [] (pre20 u ++ (wM X ++ M))
  | 0, _, _, _, h => h.elim
  | n + 1, _, _, _, h => lbX4_next_4 hG _ u M _ _ (mbX4_next_4 (fun _ _ h => h) (fun _ _ _ h => giX4_next_4 hG u M n _ _ _ h) h)
theorem rcX4_next : ∀ as σ kk, tX4_next as σ kk → ∃ a r fs, as = .ref a :: r ∧ σ[a]? = some (.inr (3, fs)) := by
  intro as σ kk h
  unfold tX4_next at h; split at h
  · obtain ⟨c, u, M, rfl, -⟩ := h
    exact ⟨_, _, _, rfl, rfl⟩
  · exact h.elim
set_option maxRecDepth 20000 in
theorem okX4_next (l : Launch) : OK l yX4_next cX4_next 3 (some .int) 3 tX4_next := by
  intro D τ ρ A as σ post h
  unfold tX4_next at h; split at h
  · obtain ⟨c, u, M, rfl, hw⟩ := h
    refine met_of (P := pgX4_next) (CE := ceX4_next) (cut := cutX4_next) (by decide) kkX4_next (coX4_next l) (Nat.le_of_ble_eq_true rfl) ?_
    intro G hG
    unfold wX4_next at hw
    refine lbX4_next_0 hG c u M  (mbX4_next_0 ?_ ?_ hw)
    · exact fun _ _ h => ⟨trivial, h⟩
    · intro _ _ _ ⟨N, h⟩; exact giX4_next_4 hG u M N _ _ _ (miX4_next_4 (fun _ _ h => ⟨trivial, h⟩) N _ _ _ h)
  · exact h.elim
def bX4_run_0 (c : MS) (a : Int32) (kr : Int32 → MS → Prop) (kc47 : Int32 → Int32 → Int32 → MS → Prop) : Prop :=
  (wX4_in a (0 : Int32) (99 : Int32) (fun r1 => (if r1 = 0 then
    kr (-2 : Int32) (msetI c 0 (0 : Int32))
  else
    (if ((msetI c 0 (0 : Int32)).1 3) = 0 then
      kr (-3 : Int32) (msetI c 0 (0 : Int32))
    else
      (if ((msetI c 0 (0 : Int32)).1 4) = (100 : Int32) then
        kr (-4 : Int32) (msetI c 0 (0 : Int32))
      else
        (wX4_next (msetI c 0 (0 : Int32))  (fun r2 X2 => kc47 a (0 : Int32) r2 X2)))))))
def bX4_run_47 (c : MS) (a : Int32) (l2 : Int32) (l3 : Int32) (kr : Int32 → MS → Prop) (kc47 : Int32 → Int32 → Int32 → MS → Prop) : Prop :=
  (if a ≤ l2 then
    kr l2 c
  else
    (if l3 < 0 then
      kr l2 c
    else
      (if (100 : Int32) ≤ (c.1 4) then
        kr l2 c
      else
        (wX4_widest c l3 (fun r3 X3 => (wX4_middle X3 l3 (fun r4 X4 => (vp_in (((3 : Int32) * l3) + (0 : Int32)) 300 ∧ (vp_in (((3 : Int32) * (X4.1 4)) + (0 : Int32)) 300 ∧ (∀ Y5 : MS, Y5 = (msetL X4 28 (vf_upd (X4.2.2 28) (((3 : Int32) * (X4.1 4)) + (0 : Int32)).toNatClampNeg (X4.2.2 28 (((3 : Int32) * l3) + (0 : Int32)).toNatClampNeg))) → (vp_in (((3 : Int32) * l3) + (0 : Int32)) 300 ∧ (vp_in (((3 : Int32) * (Y5.1 4)) + (0 : Int32)) 300 ∧ (∀ Y6 : MS, Y6 = (msetL Y5 29 (vf_upd (Y5.2.2 29) (((3 : Int32) * (Y5.1 4)) + (0 : Int32)).toNatClampNeg (Y5.2.2 29 (((3 : Int32) * l3) + (0 : Int32)).toNatClampNeg))) → (vp_in (((3 : Int32) * l3) + (1 : Int32)) 300 ∧ (vp_in (((3 : Int32) * (Y6.1 4)) + (1 : Int32)) 300 ∧ (∀ Y7 : MS, Y7 = (msetL Y6 28 (vf_upd (Y6.2.2 28) (((3 : Int32) * (Y6.1 4)) + (1 : Int32)).toNatClampNeg (Y6.2.2 28 (((3 : Int32) * l3) + (1 : Int32)).toNatClampNeg))) → (vp_in (((3 : Int32) * l3) + (1 : Int32)) 300 ∧ (vp_in (((3 : Int32) * (Y7.1 4)) + (1 : Int32)) 300 ∧ (∀ Y8 : MS, Y8 = (msetL Y7 29 (vf_upd (Y7.2.2 29) (((3 : Int32) * (Y7.1 4)) + (1 : Int32)).toNatClampNeg (Y7.2.2 29 (((3 : Int32) * l3) + (1 : Int32)).toNatClampNeg))) → (vp_in (((3 : Int32) * l3) + (2 : Int32)) 300 ∧ (vp_in (((3 : Int32) * (Y8.1 4)) + (2 : Int32)) 300 ∧ (∀ Y9 : MS, Y9 = (msetL Y8 28 (vf_upd (Y8.2.2 28) (((3 : Int32) * (Y8.1 4)) + (2 : Int32)).toNatClampNeg (Y8.2.2 28 (((3 : Int32) * l3) + (2 : Int32)).toNatClampNeg))) → (vp_in (((3 : Int32) * l3) + (2 : Int32)) 300 ∧ (vp_in (((3 : Int32) * (Y9.1 4)) + (2 : Int32)) 300 ∧ (∀ Y10 : MS, Y10 = (msetL Y9 29 (vf_upd (Y9.2.2 29) (((3 : Int32) * (Y9.1 4)) + (2 : Int32)).toNatClampNeg (Y9.2.2 29 (((3 : Int32) * l3) + (2 : Int32)).toNatClampNeg))) → (vp_in (((3 : Int32) * l3) + r3) 300 ∧ (vp_in (((3 : Int32) * ((msetL Y10 29 (vf_upd (Y10.2.2 29) (((3 : Int32) * l3) + r3).toNatClampNeg r4)).1 4)) + r3) 300 ∧ (∀ Y11 : MS, Y11 = (msetL (msetL Y10 29 (vf_upd (Y10.2.2 29) (((3 : Int32) * l3) + r3).toNatClampNeg r4)) 28 (vf_upd ((msetL Y10 29 (vf_upd (Y10.2.2 29) (((3 : Int32) * l3) + r3).toNatClampNeg r4)).2.2 28) (((3 : Int32) * ((msetL Y10 29 (vf_upd (Y10.2.2 29) (((3 : Int32) * l3) + r3).toNatClampNeg r4)).1 4)) + r3).toNatClampNeg r4)) → (wX4_judge (msetI Y11 4 ((Y11.1 4) + (1 : Int32))) l3 (fun  X12 => (wX4_judge X12 ((X12.1 4) - (1 : Int32)) (fun  X13 => (wX4_next (msetI X13 5 ((X13.1 5) + (1 : Int32)))  (fun r14 X14 => kc47 a (l2 + (1 : Int32)) r14 X14))))))))))))))))))))))))))))))))))
set_option maxRecDepth 20000 in
theorem mbX4_run_0 {c : MS} {a : Int32} {kr kq : Int32 → MS → Prop} {kc47 kd47 : Int32 → Int32 → Int32 → MS → Prop} (hr : ∀ x X, kr x X → kq x X) (hc47 : ∀ z1 z2 z3 X, kc47 z1 z2 z3 X → kd47 z1 z2 z3 X) (h : bX4_run_0 c a kr kc47) : bX4_run_0 c a kq kd47 := by
  unfold bX4_run_0 at h ⊢
  refine mnX4_in ?_ h
  intro r1 _ h
  by_cases hc : r1 = 0
  · rw [if_pos hc] at h ⊢
    exact hr _ _ h
  · rw [if_neg hc] at h ⊢
    by_cases hc : ((msetI c 0 (0 : Int32)).1 3) = 0
    · rw [if_pos hc] at h ⊢
      exact hr _ _ h
    · rw [if_neg hc] at h ⊢
      by_cases hc : ((msetI c 0 (0 : Int32)).1 4) = (100 : Int32)
      · rw [if_pos hc] at h ⊢
        exact hr _ _ h
      · rw [if_neg hc] at h ⊢
        refine mnX4_next ?_ h
        intro r2 X2 h
        exact hc47 _ _ _ _ h
set_option maxRecDepth 20000 in
theorem mbX4_run_47 {c : MS} {a : Int32} {l2 : Int32} {l3 : Int32} {kr kq : Int32 → MS → Prop} {kc47 kd47 : Int32 → Int32 → Int32 → MS → Prop} (hr : ∀ x X, kr x X → kq x X) (hc47 : ∀ z1 z2 z3 X, kc47 z1 z2 z3 X → kd47 z1 z2 z3 X) (h : bX4_run_47 c a l2 l3 kr kc47) : bX4_run_47 c a l2 l3 kq kd47 := by
  unfold bX4_run_47 at h ⊢
  by_cases hc : a ≤ l2
  · rw [if_pos hc] at h ⊢
    exact hr _ _ h
  · rw [if_neg hc] at h ⊢
    by_cases hc : l3 < 0
    · rw [if_pos hc] at h ⊢
      exact hr _ _ h
    · rw [if_neg hc] at h ⊢
      by_cases hc : (100 : Int32) ≤ (c.1 4)
      · rw [if_pos hc] at h ⊢
        exact hr _ _ h
      · rw [if_neg hc] at h ⊢
        refine mnX4_widest ?_ h
        intro r3 X3 h
        refine mnX4_middle ?_ h
        intro r4 X4 h
        obtain ⟨hi, h⟩ := h
        refine And.intro hi ?_
        obtain ⟨hi, h⟩ := h
        refine And.intro hi ?_
        intro Y5 eY5
        replace h := h _ eY5
        obtain ⟨hi, h⟩ := h
        refine And.intro hi ?_
        obtain ⟨hi, h⟩ := h
        refine And.intro hi ?_
        intro Y6 eY6
        replace h := h _ eY6
        obtain ⟨hi, h⟩ := h
        refine And.intro hi ?_
        obtain ⟨hi, h⟩ := h
        refine And.intro hi ?_
        intro Y7 eY7
        replace h := h _ eY7
        obtain ⟨hi, h⟩ := h
        refine And.intro hi ?_
        obtain ⟨hi, h⟩ := h
        refine And.intro hi ?_
        intro Y8 eY8
        replace h := h _ eY8
        obtain ⟨hi, h⟩ := h
        refine And.intro hi ?_
        obtain ⟨hi, h⟩ := h
        refine And.intro hi ?_
        intro Y9 eY9
        replace h := h _ eY9
        obtain ⟨hi, h⟩ := h
        refine And.intro hi ?_
        obtain ⟨hi, h⟩ := h
        refine And.intro hi ?_
        intro Y10 eY10
        replace h := h _ eY10
        obtain ⟨hi, h⟩ := h
        refine And.intro hi ?_
        obtain ⟨hi, h⟩ := h
        refine And.intro hi ?_
        intro Y11 eY11
        replace h := h _ eY11
        refine mnX4_judge ?_ h
        intro  X12 h
        refine mnX4_judge ?_ h
        intro  X13 h
        refine mnX4_next ?_ h
        intro r14 X14 h
        exact hc47 _ _ _ _ h
def itX4_run_47 (kr : Int32 → MS → Prop) : Nat → Int32 → Int32 → Int32 → MS → Prop
  | 0, _, _, _, _ => False
  | n + 1, a, l2, l3, c => bX4_run_47 c a l2 l3 kr (fun z1 z2 z3 X => itX4_run_47 kr n z1 z2 z3 X)
theorem miX4_run_47 {kr kq : Int32 → MS → Prop} (hr : ∀ x X, kr x X → kq x X) : ∀ (n : Nat) (z1 : Int32) (z2 : Int32) (z3 : Int32) (X : MS), itX4_run_47 kr n z1 z2 z3 X → itX4_run_47 kq n z1 z2 z3 X
  | 0, _, _, _, _, h => h
  | n + 1, _, _, _, _, h => mbX4_run_47 hr (fun _ _ _ _ h => miX4_run_47 hr n _ _ _ _ h) h
def wX4_run (c : MS) (a : Int32) (kr : Int32 → MS → Prop) : Prop := bX4_run_0 c a kr (fun z1 z2 z3 X => ∃ N, itX4_run_47 kr N z1 z2 z3 X)
theorem mnX4_run {c : MS} {a : Int32} {kr kq : Int32 → MS → Prop} (hr : ∀ x X, kr x X → kq x X) (h : wX4_run c a kr) : wX4_run c a kq := mbX4_run_0 hr (fun _ _ _ _ h => h.elim fun N h => ⟨N, miX4_run_47 hr N _ _ _ _ h⟩) h
def tX4_run : Tr := fun as σ k => match as with
  | [.ref 20, .int a] => ∃ (c : MS) (u : Nat → aE) (M : aS), σ = pre20 u ++ (wM c ++ M) ∧ wX4_run c a (fun x X => k (some (.int x)) (pre20 u ++ (wM X ++ M)))
  | _ => False
def ceX4_run : List (Nat × Nat × Tr) := (2 * 129, 3, tX4_in) :: (2 * 226 + 1, 0 + 1, tX4_next) :: (2 * 213 + 1, 1 + 1, tX4_widest) :: (2 * 219 + 1, 1 + 1, tX4_middle) :: (2 * 209 + 1, 1 + 1, tX4_judge) :: []
theorem coX4_run (l : Launch) : CEok l yX4_run.cls 11 ceX4_run := ce_S (okX4_in l) (mw 726 (by decide +kernel) rfl) (mw 727 (by decide +kernel) rfl) (mw 4 (by decide +kernel) rfl) (mw 728 (by decide +kernel) rfl) (by decide) ⟨by decide, by decide⟩ (ce_V (ci := 3) (n := 0) rfl (okX4_next l) rcX4_next (mw 855 (by decide +kernel) rfl) (mw 857 (by decide +kernel) rfl) (ms 27 (by decide +kernel) rfl) (mw 4 (by decide +kernel) rfl) (mw 858 (by decide +kernel) rfl) rfl (by decide) ⟨by decide, by decide⟩ (ce_V (ci := 3) (n := 1) rfl (okX4_widest l) rcX4_widest (mw 863 (by decide +kernel) rfl) (mw 865 (by decide +kernel) rfl) (ms 29 (by decide +kernel) rfl) (mw 4 (by decide +kernel) rfl) (mw 866 (by decide +kernel) rfl) rfl (by decide) ⟨by decide, by decide⟩ (ce_V (ci := 3) (n := 1) rfl (okX4_middle l) rcX4_middle (mw 867 (by decide +kernel) rfl) (mw 869 (by decide +kernel) rfl) (ms 30 (by decide +kernel) rfl) (mw 4 (by decide +kernel) rfl) (mw 870 (by decide +kernel) rfl) rfl (by decide) ⟨by decide, by decide⟩ (ce_V (ci := 3) (n := 1) rfl (okX4_judge l) rcX4_judge (mw 807 (by decide +kernel) rfl) (mw 809 (by decide +kernel) rfl) (ms 19 (by decide +kernel) rfl) (mw 4 (by decide +kernel) rfl) (mw 810 (by decide +kernel) rfl) rfl (by decide) ⟨by decide, by decide⟩ (ce_0)))))
abbrev cutX4_run : List (Nat × List Nat) := [(47, [0, 1, 2, 3])]
set_option maxRecDepth 20000 in
set_option maxHeartbeats 4000000 in
theorem lbX4_run_0 {G : Nat → LV → List Value → aS → Prop} {post : Option Value → aS → Prop} (hG : ∀ n b pc lv st σ, seg (0, fun _ => 0) pgX4_run ceX4_run cutX4_run G (fun v σ => rFit (some .int) v ∧ post v σ) n b pc lv st σ → G pc lv st σ) (c : MS) (u : Nat → aE) (M : aS) (a : Int32) (hb : bX4_run_0 c a (fun x X => rFit (some .int) (some (.int x)) ∧ post (some (.int x)) (pre20 u ++ (wM X ++ M))) (fun z1 z2 z3 X => G 47 [(0, .ref 20), (1, .int z1), (2, .int z2), (3, .int z3)] [] (pre20 u ++ (wM X ++ M)))) : G 0 [(0, .ref 20), (1, .int a)] [] (pre20 u ++ (wM c ++ M)) := by
  unfold bX4_run_0 at hb
  refine hG 400 false 0 _ _ _ ?_
  refine And.intro trivial (mnX4_in ?_ hb)
  intro r1 _ hb
  refine And.intro (fun (h : ¬ r1 = 0) => ?_) (fun hq => have h : r1 = 0 := Classical.not_not.mp hq; ?_)
  · rw [if_neg h] at hb
    refine And.intro (fun (h : ¬ ((msetI c 0 (0 : Int32)).1 3) = 0) => ?_) (fun hq => have h : ((msetI c 0 (0 : Int32)).1 3) = 0 := Classical.not_not.mp hq; ?_)
    · rw [if_neg h] at hb
      refine And.intro (fun (h : ¬ ((msetI c 0 (0 : Int32)).1 4) = (100 : Int32)) => ?_) (fun hq => have h : ((msetI c 0 (0 : Int32)).1 4) = (100 : Int32) := Classical.not_not.mp hq; ?_)
      · rw [if_neg h] at hb
        refine Exists.intro (msetI c 0 (0 : Int32)) (Exists.intro u (Exists.intro M ((And.intro rfl (mnX4_next ?_ hb)))))
        intro r2 X2 hb
        exact hb
      · rw [if_pos h] at hb
        exact hb
    · rw [if_pos h] at hb
      exact hb
  · rw [if_pos h] at hb
    exact hb
set_option maxRecDepth 20000 in
set_option maxHeartbeats 4000000 in
theorem lbX4_run_47 {G : Nat → LV → List Value → aS → Prop} {post : Option Value → aS → Prop} (hG : ∀ n b pc lv st σ, seg (0, fun _ => 0) pgX4_run ceX4_run cutX4_run G (fun v σ => rFit (some .int) v ∧ post v σ) n b pc lv st σ → G pc lv st σ) (c : MS) (u : Nat → aE) (M : aS) (a : Int32) (l2 : Int32) (l3 : Int32) (hb : bX4_run_47 c a l2 l3 (fun x X => rFit (some .int) (some (.int x)) ∧ post (some (.int x)) (pre20 u ++ (wM X ++ M))) (fun z1 z2 z3 X => G 47 [(0, .ref 20), (1, .int z1), (2, .int z2), (3, .int z3)] [] (pre20 u ++ (wM X ++ M)))) : G 47 [(0, .ref 20), (1, .int a), (2, .int l2), (3, .int l3)] [] (pre20 u ++ (wM c ++ M)) := by
  unfold bX4_run_47 at hb
  refine hG 400 false 47 _ _ _ ?_
  refine And.intro (fun (h : a ≤ l2) => ?_) (fun (h : ¬ a ≤ l2) => ?_)
  · rw [if_pos h] at hb
    exact hb
  · rw [if_neg h] at hb
    refine And.intro (fun (h : l3 < 0) => ?_) (fun (h : ¬ l3 < 0) => ?_)
    · rw [if_pos h] at hb
      exact hb
    · rw [if_neg h] at hb
      refine And.intro (fun (h : (100 : Int32) ≤ (c.1 4)) => ?_) (fun (h : ¬ (100 : Int32) ≤ (c.1 4)) => ?_)
      · rw [if_pos h] at hb
        exact hb
      · rw [if_neg h] at hb
        refine Exists.intro c (Exists.intro u (Exists.intro M ((And.intro rfl (mnX4_widest ?_ hb)))))
        intro r3 X3 hb
        refine Exists.intro X3 (Exists.intro u (Exists.intro M ((And.intro rfl (mnX4_middle ?_ hb)))))
        intro r4 X4 hb
        refine And.intro (fun h => absurd (show (3 : Int32) ≤ (0 : Int32) from h) (by decide)) (fun _ => ?_)
        obtain ⟨hi, hb⟩ := hb
        refine And.intro hi ?_
        obtain ⟨hi, hb⟩ := hb
        refine And.intro hi ?_
        let Y5 : MS := (msetL X4 28 (vf_upd (X4.2.2 28) (((3 : Int32) * (X4.1 4)) + (0 : Int32)).toNatClampNeg (X4.2.2 28 (((3 : Int32) * l3) + (0 : Int32)).toNatClampNeg)))
        replace hb := hb Y5 rfl
        obtain ⟨hi, hb⟩ := hb
        refine And.intro hi ?_
        obtain ⟨hi, hb⟩ := hb
        refine And.intro hi ?_
        let Y6 : MS := (msetL Y5 29 (vf_upd (Y5.2.2 29) (((3 : Int32) * (Y5.1 4)) + (0 : Int32)).toNatClampNeg (Y5.2.2 29 (((3 : Int32) * l3) + (0 : Int32)).toNatClampNeg)))
        replace hb := hb Y6 rfl
        refine And.intro (fun h => absurd (show (3 : Int32) ≤ (1 : Int32) from h) (by decide)) (fun _ => ?_)
        obtain ⟨hi, hb⟩ := hb
        refine And.intro hi ?_
        obtain ⟨hi, hb⟩ := hb
        refine And.intro hi ?_
        let Y7 : MS := (msetL Y6 28 (vf_upd (Y6.2.2 28) (((3 : Int32) * (Y6.1 4)) + (1 : Int32)).toNatClampNeg (Y6.2.2 28 (((3 : Int32) * l3) + (1 : Int32)).toNatClampNeg)))
        replace hb := hb Y7 rfl
        obtain ⟨hi, hb⟩ := hb
        refine And.intro hi ?_
        obtain ⟨hi, hb⟩ := hb
        refine And.intro hi ?_
        let Y8 : MS := (msetL Y7 29 (vf_upd (Y7.2.2 29) (((3 : Int32) * (Y7.1 4)) + (1 : Int32)).toNatClampNeg (Y7.2.2 29 (((3 : Int32) * l3) + (1 : Int32)).toNatClampNeg)))
        replace hb := hb Y8 rfl
        refine And.intro (fun h => absurd (show (3 : Int32) ≤ (2 : Int32) from h) (by decide)) (fun _ => ?_)
        obtain ⟨hi, hb⟩ := hb
        refine And.intro hi ?_
        obtain ⟨hi, hb⟩ := hb
        refine And.intro hi ?_
        let Y9 : MS := (msetL Y8 28 (vf_upd (Y8.2.2 28) (((3 : Int32) * (Y8.1 4)) + (2 : Int32)).toNatClampNeg (Y8.2.2 28 (((3 : Int32) * l3) + (2 : Int32)).toNatClampNeg)))
        replace hb := hb Y9 rfl
        obtain ⟨hi, hb⟩ := hb
        refine And.intro hi ?_
        obtain ⟨hi, hb⟩ := hb
        refine And.intro hi ?_
        let Y10 : MS := (msetL Y9 29 (vf_upd (Y9.2.2 29) (((3 : Int32) * (Y9.1 4)) + (2 : Int32)).toNatClampNeg (Y9.2.2 29 (((3 : Int32) * l3) + (2 : Int32)).toNatClampNeg)))
        replace hb := hb Y10 rfl
        refine And.intro (fun _ => ?_) (fun h => absurd (show (3 : Int32) ≤ (3 : Int32) by decide) h)
        obtain ⟨hi, hb⟩ := hb
        refine And.intro hi ?_
        obtain ⟨hi, hb⟩ := hb
        refine And.intro hi ?_
        let Y11 : MS := (msetL (msetL Y10 29 (vf_upd (Y10.2.2 29) (((3 : Int32) * l3) + r3).toNatClampNeg r4)) 28 (vf_upd ((msetL Y10 29 (vf_upd (Y10.2.2 29) (((3 : Int32) * l3) + r3).toNatClampNeg r4)).2.2 28) (((3 : Int32) * ((msetL Y10 29 (vf_upd (Y10.2.2 29) (((3 : Int32) * l3) + r3).toNatClampNeg r4)).1 4)) + r3).toNatClampNeg r4))
        replace hb := hb Y11 rfl
        refine Exists.intro (msetI Y11 4 ((Y11.1 4) + (1 : Int32))) (Exists.intro u (Exists.intro M ((And.intro rfl (mnX4_judge ?_ hb)))))
        intro  X12 hb
        refine Exists.intro X12 (Exists.intro u (Exists.intro M ((And.intro rfl (mnX4_judge ?_ hb)))))
        intro  X13 hb
        refine Exists.intro (msetI X13 5 ((X13.1 5) + (1 : Int32))) (Exists.intro u (Exists.intro M ((And.intro rfl (mnX4_next ?_ hb)))))
        intro r14 X14 hb
        exact hb
theorem giX4_run_47 {G : Nat → LV → List Value → aS → Prop} {post : Option Value → aS → Prop} (hG : ∀ n b pc lv st σ, seg (0, fun _ => 0) pgX4_run ceX4_run cutX4_run G (fun v σ => rFit (some .int) v ∧ post v σ) n b pc lv st σ → G pc lv st σ) (u : Nat → aE) (M : aS) : ∀ (n : Nat) (z1 : Int32) (z2 : Int32) (z3 : Int32) (X : MS), itX4_run_47 (fun x X => rFit (some .int) (some (.int x)) ∧ post (some (.int x)) (pre20 u ++ (wM X ++ M))) n z1 z2 z3 X → G 47 [(0, .ref 20), (1, .int z1), (2, .int z2), (3, .int z3)] [] (pre20 u ++ (wM X ++ M))
  | 0, _, _, _, _, h => h.elim
  | n + 1, _, _, _, _, h => lbX4_run_47 hG _ u M _ _ _ (mbX4_run_47 (fun _ _ h => h) (fun _ _ _ _ h => giX4_run_47 hG u M n _ _ _ _ h) h)
theorem rcX4_run : ∀ as σ kk, tX4_run as σ kk → ∃ a r fs, as = .ref a :: r ∧ σ[a]? = some (.inr (3, fs)) := by
  intro as σ kk h
  unfold tX4_run at h; split at h
  · obtain ⟨c, u, M, rfl, -⟩ := h
    exact ⟨_, _, _, rfl, rfl⟩
  · exact h.elim
set_option maxRecDepth 20000 in
theorem okX4_run (l : Launch) : OK l yX4_run cX4_run 8 (some .int) 11 tX4_run := by
  intro D τ ρ A as σ post h
  unfold tX4_run at h; split at h
  · rename_i a; obtain ⟨c, u, M, rfl, hw⟩ := h
    refine met_of (P := pgX4_run) (CE := ceX4_run) (cut := cutX4_run) (by decide) kkX4_run (coX4_run l) (Nat.le_of_ble_eq_true rfl) ?_
    intro G hG
    unfold wX4_run at hw
    refine lbX4_run_0 hG c u M a (mbX4_run_0 ?_ ?_ hw)
    · exact fun _ _ h => ⟨trivial, h⟩
    · intro _ _ _ _ ⟨N, h⟩; exact giX4_run_47 hG u M N _ _ _ _ (miX4_run_47 (fun _ _ h => ⟨trivial, h⟩) N _ _ _ _ h)
  · exact h.elim
