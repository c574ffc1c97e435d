def bX3_forgetRoles_0 (c : CS)  (kr : CS → Prop) (kc2 : Int32 → CS → Prop) : Prop :=
  kc2 (0 : Int32) c
def bX3_forgetRoles_2 (c : CS) (l1 : Int32) (kr : CS → Prop) (kc2 : Int32 → CS → Prop) : Prop :=
  (if (5 : Int32) ≤ l1 then
    kr c
  else
    (vp_in l1 5 ∧ kc2 (l1 + (1 : Int32)) (setA c 2 (upd (c.2.1 2) l1.toNatClampNeg (-5 : Int32)))))
set_option maxRecDepth 20000 in
theorem mbX3_forgetRoles_0 {c : CS}  {kr kq : CS → Prop} {kc2 kd2 : Int32 → CS → Prop} (hr : ∀ X, kr X → kq X) (hc2 : ∀ z1 X, kc2 z1 X → kd2 z1 X) (h : bX3_forgetRoles_0 c  kr kc2) : bX3_forgetRoles_0 c  kq kd2 := by
  unfold bX3_forgetRoles_0 at h ⊢
  exact hc2 _ _ h
set_option maxRecDepth 20000 in
theorem mbX3_forgetRoles_2 {c : CS} {l1 : Int32} {kr kq : CS → Prop} {kc2 kd2 : Int32 → CS → Prop} (hr : ∀ X, kr X → kq X) (hc2 : ∀ z1 X, kc2 z1 X → kd2 z1 X) (h : bX3_forgetRoles_2 c l1 kr kc2) : bX3_forgetRoles_2 c l1 kq kd2 := by
  unfold bX3_forgetRoles_2 at h ⊢
  by_cases hc : (5 : Int32) ≤ l1
  · rw [if_pos hc] at h ⊢
    exact hr _ h
  · rw [if_neg hc] at h ⊢
    obtain ⟨hi, h⟩ := h
    refine And.intro hi ?_
    exact hc2 _ _ h
def itX3_forgetRoles_2 (kr : CS → Prop) : Nat → Int32 → CS → Prop
  | 0, _, _ => False
  | n + 1, l1, c => bX3_forgetRoles_2 c l1 kr (fun z1 X => itX3_forgetRoles_2 kr n z1 X)
theorem miX3_forgetRoles_2 {kr kq : CS → Prop} (hr : ∀ X, kr X → kq X) : ∀ (n : Nat) (z1 : Int32) (X : CS), itX3_forgetRoles_2 kr n z1 X → itX3_forgetRoles_2 kq n z1 X
  | 0, _, _, h => h
  | n + 1, _, _, h => mbX3_forgetRoles_2 hr (fun _ _ h => miX3_forgetRoles_2 hr n _ _ h) h
def wX3_forgetRoles (c : CS)  (kr : CS → Prop) : Prop := bX3_forgetRoles_0 c  kr (fun z1 X => ∃ N, itX3_forgetRoles_2 kr N z1 X)
theorem mnX3_forgetRoles {c : CS}  {kr kq : CS → Prop} (hr : ∀ X, kr X → kq X) (h : wX3_forgetRoles c  kr) : wX3_forgetRoles c  kq := mbX3_forgetRoles_0 hr (fun _ _ h => h.elim fun N h => ⟨N, miX3_forgetRoles_2 hr N _ _ h⟩) h
def tX3_forgetRoles : Tr := fun as σ k => match as with
  | [.ref 0] => ∃ (c : CS) (M : aS), σ = wC c ++ M ∧ wX3_forgetRoles c  (fun X => k none (wC X ++ M))
  | _ => False
def ceX3_forgetRoles : List (Nat × Nat × Tr) := []
theorem coX3_forgetRoles (l : Launch) : CEok l yX3_forgetRoles.cls 0 ceX3_forgetRoles := ce_0
abbrev cutX3_forgetRoles : List (Nat × List Nat) := [(2, [0, 1])]
set_option maxRecDepth 20000 in
set_option maxHeartbeats 4000000 in
theorem lbX3_forgetRoles_0 {G : Nat → LV → List Value → aS → Prop} {post : Option Value → aS → Prop} (hG : ∀ n b pc lv st σ, seg (0, fun _ => 0) pgX3_forgetRoles ceX3_forgetRoles cutX3_forgetRoles G (fun v σ => rFit none v ∧ post v σ) n b pc lv st σ → G pc lv st σ) (c : CS) (M : aS)  (hb : bX3_forgetRoles_0 c  (fun X => rFit none none ∧ post none (wC X ++ M)) (fun z1 X => G 2 [(0, .ref 0), (1, .int z1)] [] (wC X ++ M))) : G 0 [(0, .ref 0)] [] (wC c ++ M) := by
  unfold bX3_forgetRoles_0 at hb
  refine hG 400 false 0 _ _ _ ?_
  exact hb
set_option maxRecDepth 20000 in
set_option maxHeartbeats 4000000 in
theorem lbX3_forgetRoles_2 {G : Nat → LV → List Value → aS → Prop} {post : Option Value → aS → Prop} (hG : ∀ n b pc lv st σ, seg (0, fun _ => 0) pgX3_forgetRoles ceX3_forgetRoles cutX3_forgetRoles G (fun v σ => rFit none v ∧ post v σ) n b pc lv st σ → G pc lv st σ) (c : CS) (M : aS) (l1 : Int32) (hb : bX3_forgetRoles_2 c l1 (fun X => rFit none none ∧ post none (wC X ++ M)) (fun z1 X => G 2 [(0, .ref 0), (1, .int z1)] [] (wC X ++ M))) : G 2 [(0, .ref 0), (1, .int l1)] [] (wC c ++ M) := by
  unfold bX3_forgetRoles_2 at hb
  refine hG 400 false 2 _ _ _ ?_
  refine And.intro (fun (h : (5 : Int32) ≤ l1) => ?_) (fun (h : ¬ (5 : Int32) ≤ l1) => ?_)
  · rw [if_pos h] at hb
    exact hb
  · rw [if_neg h] at hb
    obtain ⟨hi, hb⟩ := hb
    refine And.intro hi ?_
    exact hb
theorem giX3_forgetRoles_2 {G : Nat → LV → List Value → aS → Prop} {post : Option Value → aS → Prop} (hG : ∀ n b pc lv st σ, seg (0, fun _ => 0) pgX3_forgetRoles ceX3_forgetRoles cutX3_forgetRoles G (fun v σ => rFit none v ∧ post v σ) n b pc lv st σ → G pc lv st σ) (M : aS) : ∀ (n : Nat) (z1 : Int32) (X : CS), itX3_forgetRoles_2 (fun X => rFit none none ∧ post none (wC X ++ M)) n z1 X → G 2 [(0, .ref 0), (1, .int z1)] [] (wC X ++ M)
  | 0, _, _, h => h.elim
  | n + 1, _, _, h => lbX3_forgetRoles_2 hG _ M _ (mbX3_forgetRoles_2 (fun _ h => h) (fun _ _ h => giX3_forgetRoles_2 hG M n _ _ h) h)
theorem rcX3_forgetRoles : ∀ as σ kk, tX3_forgetRoles as σ kk → ∃ a r fs, as = .ref a :: r ∧ σ[a]? = some (.inr (2, fs)) := by
  intro as σ kk h
  unfold tX3_forgetRoles at h; split at h
  · obtain ⟨c, M, rfl, -⟩ := h
    exact ⟨_, _, _, rfl, rfl⟩
  · exact h.elim
set_option maxRecDepth 20000 in
theorem okX3_forgetRoles (l : Launch) : OK l yX3_forgetRoles cX3_forgetRoles 2 none 0 tX3_forgetRoles := by
  intro D τ ρ A as σ post h
  unfold tX3_forgetRoles at h; split at h
  · obtain ⟨c, M, rfl, hw⟩ := h
    refine met_of (P := pgX3_forgetRoles) (CE := ceX3_forgetRoles) (cut := cutX3_forgetRoles) (by decide) kkX3_forgetRoles (coX3_forgetRoles l) (Nat.le_of_ble_eq_true rfl) ?_
    intro G hG
    unfold wX3_forgetRoles at hw
    refine lbX3_forgetRoles_0 hG c M  (mbX3_forgetRoles_0 ?_ ?_ hw)
    · exact fun _ h => ⟨trivial, h⟩
    · intro _ _ ⟨N, h⟩; exact giX3_forgetRoles_2 hG M N _ _ (miX3_forgetRoles_2 (fun _ h => ⟨trivial, h⟩) N _ _ h)
  · exact h.elim
def bX3_surely_0 (c : CS) (a : Int32) (kr : Int32 → CS → Prop)  : Prop :=
  (if a = (-5 : Int32) then
    kr (1 : Int32) c
  else
    (vp_in a 32 ∧ (if (fX1_isBelow (0 : Int64) (c.2.2 4 a.toNatClampNeg)) = 0 then
      kr (0 : Int32) c
    else
      kr (1 : Int32) c)))
set_option maxRecDepth 20000 in
theorem mbX3_surely_0 {c : CS} {a : Int32} {kr kq : Int32 → CS → Prop}  (hr : ∀ x X, (x = 0 ∨ x = 1) → kr x X → kq x X)  (h : bX3_surely_0 c a kr ) : bX3_surely_0 c a kq  := by
  unfold bX3_surely_0 at h ⊢
  by_cases hc : a = (-5 : Int32)
  · rw [if_pos hc] at h ⊢
    exact hr _ _ (Or.inr rfl) h
  · rw [if_neg hc] at h ⊢
    obtain ⟨hi, h⟩ := h
    refine And.intro hi ?_
    by_cases hc : (fX1_isBelow (0 : Int64) (c.2.2 4 a.toNatClampNeg)) = 0
    · rw [if_pos hc] at h ⊢
      exact hr _ _ (Or.inl rfl) h
    · rw [if_neg hc] at h ⊢
      exact hr _ _ (Or.inr rfl) h
def wX3_surely (c : CS) (a : Int32) (kr : Int32 → CS → Prop) : Prop := bX3_surely_0 c a kr 
theorem mnX3_surely {c : CS} {a : Int32} {kr kq : Int32 → CS → Prop} (hr : ∀ x X, (x = 0 ∨ x = 1) → kr x X → kq x X) (h : wX3_surely c a kr) : wX3_surely c a kq := mbX3_surely_0 hr  h
def tX3_surely : Tr := fun as σ k => match as with
  | [.ref 0, .int a] => ∃ (c : CS) (M : aS), σ = wC c ++ M ∧ wX3_surely c a (fun x X => k (some (.int x)) (wC X ++ M))
  | _ => False
def ceX3_surely : List (Nat × Nat × Tr) := (2 * 44, 2, tX1_isBelow) :: []
theorem coX3_surely (l : Launch) : CEok l yX3_surely.cls 2 ceX3_surely := ce_S (okX1_isBelow l) (mw 133 (by decide +kernel) rfl) (mw 134 (by decide +kernel) rfl) (mw 5 (by decide +kernel) rfl) (mw 135 (by decide +kernel) rfl) (by decide) ⟨by decide, by decide⟩ (ce_0)
abbrev cutX3_surely : List (Nat × List Nat) := []
set_option maxRecDepth 20000 in
set_option maxHeartbeats 4000000 in
theorem lbX3_surely_0 {G : Nat → LV → List Value → aS → Prop} {post : Option Value → aS → Prop} (hG : ∀ n b pc lv st σ, seg (0, fun _ => 0) pgX3_surely ceX3_surely cutX3_surely G (fun v σ => rFit (some .boolean) v ∧ post v σ) n b pc lv st σ → G pc lv st σ) (c : CS) (M : aS) (a : Int32) (hb : bX3_surely_0 c a (fun x X => rFit (some .boolean) (some (.int x)) ∧ post (some (.int x)) (wC X ++ M)) ) : G 0 [(0, .ref 0), (1, .int a)] [] (wC c ++ M) := by
  unfold bX3_surely_0 at hb
  refine hG 400 false 0 _ _ _ ?_
  refine And.intro (fun (h : a = (-5 : Int32)) => ?_) (fun (h : ¬ a = (-5 : Int32)) => ?_)
  · rw [if_pos h] at hb
    exact hb
  · rw [if_neg h] at hb
    obtain ⟨hi, hb⟩ := hb
    refine And.intro hi ?_
    refine And.intro (fun (h : (fX1_isBelow (0 : Int64) (c.2.2 4 a.toNatClampNeg)) = 0) => ?_) (fun (h : ¬ (fX1_isBelow (0 : Int64) (c.2.2 4 a.toNatClampNeg)) = 0) => ?_)
    · rw [if_pos h] at hb
      exact hb
    · rw [if_neg h] at hb
      exact hb
theorem rcX3_surely : ∀ as σ kk, tX3_surely as σ kk → ∃ a r fs, as = .ref a :: r ∧ σ[a]? = some (.inr (2, fs)) := by
  intro as σ kk h
  unfold tX3_surely at h; split at h
  · obtain ⟨c, M, rfl, -⟩ := h
    exact ⟨_, _, _, rfl, rfl⟩
  · exact h.elim
set_option maxRecDepth 20000 in
theorem okX3_surely (l : Launch) : OK l yX3_surely cX3_surely 2 (some .boolean) 2 tX3_surely := by
  intro D τ ρ A as σ post h
  unfold tX3_surely at h; split at h
  · rename_i a; obtain ⟨c, M, rfl, hw⟩ := h
    refine met_of (P := pgX3_surely) (CE := ceX3_surely) (cut := cutX3_surely) (by decide) kkX3_surely (coX3_surely l) (Nat.le_of_ble_eq_true rfl) ?_
    intro G hG
    unfold wX3_surely at hw
    refine lbX3_surely_0 hG c M a (mbX3_surely_0 ?_  hw)
    · exact fun _ _ hf h => ⟨hf, h⟩
  · exact h.elim
def bX3_surelyNot_0 (c : CS) (a : Int32) (kr : Int32 → CS → Prop)  : Prop :=
  (if a = (-5 : Int32) then
    kr (0 : Int32) c
  else
    (vp_in a 32 ∧ (if (fX1_isBelow (0 : Int64) (c.2.2 5 a.toNatClampNeg)) = 0 then
      kr (1 : Int32) c
    else
      kr (0 : Int32) c)))
set_option maxRecDepth 20000 in
theorem mbX3_surelyNot_0 {c : CS} {a : Int32} {kr kq : Int32 → CS → Prop}  (hr : ∀ x X, (x = 0 ∨ x = 1) → kr x X → kq x X)  (h : bX3_surelyNot_0 c a kr ) : bX3_surelyNot_0 c a kq  := by
  unfold bX3_surelyNot_0 at h ⊢
  by_cases hc : a = (-5 : Int32)
  · rw [if_pos hc] at h ⊢
    exact hr _ _ (Or.inl rfl) h
  · rw [if_neg hc] at h ⊢
    obtain ⟨hi, h⟩ := h
    refine And.intro hi ?_
    by_cases hc : (fX1_isBelow (0 : Int64) (c.2.2 5 a.toNatClampNeg)) = 0
    · rw [if_pos hc] at h ⊢
      exact hr _ _ (Or.inr rfl) h
    · rw [if_neg hc] at h ⊢
      exact hr _ _ (Or.inl rfl) h
def wX3_surelyNot (c : CS) (a : Int32) (kr : Int32 → CS → Prop) : Prop := bX3_surelyNot_0 c a kr 
theorem mnX3_surelyNot {c : CS} {a : Int32} {kr kq : Int32 → CS → Prop} (hr : ∀ x X, (x = 0 ∨ x = 1) → kr x X → kq x X) (h : wX3_surelyNot c a kr) : wX3_surelyNot c a kq := mbX3_surelyNot_0 hr  h
def tX3_surelyNot : Tr := fun as σ k => match as with
  | [.ref 0, .int a] => ∃ (c : CS) (M : aS), σ = wC c ++ M ∧ wX3_surelyNot c a (fun x X => k (some (.int x)) (wC X ++ M))
  | _ => False
def ceX3_surelyNot : List (Nat × Nat × Tr) := (2 * 44, 2, tX1_isBelow) :: []
theorem coX3_surelyNot (l : Launch) : CEok l yX3_surelyNot.cls 2 ceX3_surelyNot := ce_S (okX1_isBelow l) (mw 133 (by decide +kernel) rfl) (mw 134 (by decide +kernel) rfl) (mw 5 (by decide +kernel) rfl) (mw 135 (by decide +kernel) rfl) (by decide) ⟨by decide, by decide⟩ (ce_0)
abbrev cutX3_surelyNot : List (Nat × List Nat) := []
set_option maxRecDepth 20000 in
set_option maxHeartbeats 4000000 in
theorem lbX3_surelyNot_0 {G : Nat → LV → List Value → aS → Prop} {post : Option Value → aS → Prop} (hG : ∀ n b pc lv st σ, seg (0, fun _ => 0) pgX3_surelyNot ceX3_surelyNot cutX3_surelyNot G (fun v σ => rFit (some .boolean) v ∧ post v σ) n b pc lv st σ → G pc lv st σ) (c : CS) (M : aS) (a : Int32) (hb : bX3_surelyNot_0 c a (fun x X => rFit (some .boolean) (some (.int x)) ∧ post (some (.int x)) (wC X ++ M)) ) : G 0 [(0, .ref 0), (1, .int a)] [] (wC c ++ M) := by
  unfold bX3_surelyNot_0 at hb
  refine hG 400 false 0 _ _ _ ?_
  refine And.intro (fun (h : a = (-5 : Int32)) => ?_) (fun (h : ¬ a = (-5 : Int32)) => ?_)
  · rw [if_pos h] at hb
    exact hb
  · rw [if_neg h] at hb
    obtain ⟨hi, hb⟩ := hb
    refine And.intro hi ?_
    refine And.intro (fun (h : ¬ (fX1_isBelow (0 : Int64) (c.2.2 5 a.toNatClampNeg)) = 0) => ?_) (fun hq => have h : (fX1_isBelow (0 : Int64) (c.2.2 5 a.toNatClampNeg)) = 0 := Classical.not_not.mp hq; ?_)
    · rw [if_neg h] at hb
      exact hb
    · rw [if_pos h] at hb
      exact hb
theorem rcX3_surelyNot : ∀ as σ kk, tX3_surelyNot as σ kk → ∃ a r fs, as = .ref a :: r ∧ σ[a]? = some (.inr (2, fs)) := by
  intro as σ kk h
  unfold tX3_surelyNot at h; split at h
  · obtain ⟨c, M, rfl, -⟩ := h
    exact ⟨_, _, _, rfl, rfl⟩
  · exact h.elim
set_option maxRecDepth 20000 in
theorem okX3_surelyNot (l : Launch) : OK l yX3_surelyNot cX3_surelyNot 2 (some .boolean) 2 tX3_surelyNot := by
  intro D τ ρ A as σ post h
  unfold tX3_surelyNot at h; split at h
  · rename_i a; obtain ⟨c, M, rfl, hw⟩ := h
    refine met_of (P := pgX3_surelyNot) (CE := ceX3_surelyNot) (cut := cutX3_surelyNot) (by decide) kkX3_surelyNot (coX3_surelyNot l) (Nat.le_of_ble_eq_true rfl) ?_
    intro G hG
    unfold wX3_surelyNot at hw
    refine lbX3_surelyNot_0 hG c M a (mbX3_surelyNot_0 ?_  hw)
    · exact fun _ _ hf h => ⟨hf, h⟩
  · exact h.elim
def bX3_kindNow_0 (c : CS)  (kr : Int32 → CS → Prop)  : Prop :=
  (vp_in (0 : Int32) 5 ∧ (wX3_surelyNot c (c.2.1 2 (0 : Int32).toNatClampNeg) (fun r1 X1 => (if r1 = 0 then
    (vp_in (0 : Int32) 5 ∧ (wX3_surely X1 (X1.2.1 2 (0 : Int32).toNatClampNeg) (fun r2 X2 => (if r2 = 0 then
      kr (3 : Int32) X2
    else
      (vp_in (1 : Int32) 5 ∧ (wX3_surely X2 (X2.2.1 2 (1 : Int32).toNatClampNeg) (fun r3 X3 => (if r3 = 0 then
        (vp_in (1 : Int32) 5 ∧ (wX3_surelyNot X3 (X3.2.1 2 (1 : Int32).toNatClampNeg) (fun r4 X4 => (if r4 = 0 then
          kr (3 : Int32) X4
        else
          kr (2 : Int32) X4))))
      else
        kr (1 : Int32) X3))))))))
  else
    kr (0 : Int32) X1))))
set_option maxRecDepth 20000 in
theorem mbX3_kindNow_0 {c : CS}  {kr kq : Int32 → CS → Prop}  (hr : ∀ x X, kr x X → kq x X)  (h : bX3_kindNow_0 c  kr ) : bX3_kindNow_0 c  kq  := by
  unfold bX3_kindNow_0 at h ⊢
  obtain ⟨hi, h⟩ := h
  refine And.intro hi ?_
  refine mnX3_surelyNot ?_ h
  intro r1 X1 _ h
  by_cases hc : r1 = 0
  · rw [if_pos hc] at h ⊢
    obtain ⟨hi, h⟩ := h
    refine And.intro hi ?_
    refine mnX3_surely ?_ h
    intro r2 X2 _ h
    by_cases hc : r2 = 0
    · rw [if_pos hc] at h ⊢
      exact hr _ _ h
    · rw [if_neg hc] at h ⊢
      obtain ⟨hi, h⟩ := h
      refine And.intro hi ?_
      refine mnX3_surely ?_ h
      intro r3 X3 _ h
      by_cases hc : r3 = 0
      · rw [if_pos hc] at h ⊢
        obtain ⟨hi, h⟩ := h
        refine And.intro hi ?_
        refine mnX3_surelyNot ?_ h
        intro r4 X4 _ h
        by_cases hc : r4 = 0
        · rw [if_pos hc] at h ⊢
          exact hr _ _ h
        · rw [if_neg hc] at h ⊢
          exact hr _ _ h
      · rw [if_neg hc] at h ⊢
        exact hr _ _ h
  · rw [if_neg hc] at h ⊢
    exact hr _ _ h
def wX3_kindNow (c : CS)  (kr : Int32 → CS → Prop) : Prop := bX3_kindNow_0 c  kr 
theorem mnX3_kindNow {c : CS}  {kr kq : Int32 → CS → Prop} (hr : ∀ x X, kr x X → kq x X) (h : wX3_kindNow c  kr) : wX3_kindNow c  kq := mbX3_kindNow_0 hr  h
def tX3_kindNow : Tr := fun as σ k => match as with
  | [.ref 0] => ∃ (c : CS) (M : aS), σ = wC c ++ M ∧ wX3_kindNow c  (fun x X => k (some (.int x)) (wC X ++ M))
  | _ => False
def ceX3_kindNow : List (Nat × Nat × Tr) := (2 * 171 + 1, 1 + 1, tX3_surelyNot) :: (2 * 174 + 1, 1 + 1, tX3_surely) :: []
theorem coX3_kindNow (l : Launch) : CEok l yX3_kindNow.cls 3 ceX3_kindNow := ce_V (ci := 2) (n := 1) rfl (okX3_surelyNot l) rcX3_surelyNot (mw 355 (by decide +kernel) rfl) (mw 357 (by decide +kernel) rfl) (ms 10 (by decide +kernel) rfl) (mw 1 (by decide +kernel) rfl) (mw 358 (by decide +kernel) rfl) rfl (by decide) ⟨by decide, by decide⟩ (ce_V (ci := 2) (n := 1) rfl (okX3_surely l) rcX3_surely (mw 359 (by decide +kernel) rfl) (mw 361 (by decide +kernel) rfl) (ms 11 (by decide +kernel) rfl) (mw 1 (by decide +kernel) rfl) (mw 362 (by decide +kernel) rfl) rfl (by decide) ⟨by decide, by decide⟩ (ce_0))
abbrev cutX3_kindNow : List (Nat × List Nat) := []
set_option maxRecDepth 20000 in
set_option maxHeartbeats 4000000 in
theorem lbX3_kindNow_0 {G : Nat → LV → List Value → aS → Prop} {post : Option Value → aS → Prop} (hG : ∀ n b pc lv st σ, seg (0, fun _ => 0) pgX3_kindNow ceX3_kindNow cutX3_kindNow G (fun v σ => rFit (some .int) v ∧ post v σ) n b pc lv st σ → G pc lv st σ) (c : CS) (M : aS)  (hb : bX3_kindNow_0 c  (fun x X => rFit (some .int) (some (.int x)) ∧ post (some (.int x)) (wC X ++ M)) ) : G 0 [(0, .ref 0)] [] (wC c ++ M) := by
  unfold bX3_kindNow_0 at hb
  refine hG 400 false 0 _ _ _ ?_
  obtain ⟨hi, hb⟩ := hb
  refine And.intro hi ?_
  refine Exists.intro c (Exists.intro M ((And.intro rfl (mnX3_surelyNot ?_ hb))))
  intro r1 X1 _ hb
  refine And.intro (fun (h : r1 = 0) => ?_) (fun (h : ¬ r1 = 0) => ?_)
  · rw [if_pos h] at hb
    obtain ⟨hi, hb⟩ := hb
    refine And.intro hi ?_
    refine Exists.intro X1 (Exists.intro M ((And.intro rfl (mnX3_surely ?_ hb))))
    intro r2 X2 _ hb
    refine And.intro (fun (h : r2 = 0) => ?_) (fun (h : ¬ r2 = 0) => ?_)
    · rw [if_pos h] at hb
      exact hb
    · rw [if_neg h] at hb
      obtain ⟨hi, hb⟩ := hb
      refine And.intro hi ?_
      refine Exists.intro X2 (Exists.intro M ((And.intro rfl (mnX3_surely ?_ hb))))
      intro r3 X3 _ hb
      refine And.intro (fun (h : r3 = 0) => ?_) (fun (h : ¬ r3 = 0) => ?_)
      · rw [if_pos h] at hb
        obtain ⟨hi, hb⟩ := hb
        refine And.intro hi ?_
        refine Exists.intro X3 (Exists.intro M ((And.intro rfl (mnX3_surelyNot ?_ hb))))
        intro r4 X4 _ hb
        refine And.intro (fun (h : r4 = 0) => ?_) (fun (h : ¬ r4 = 0) => ?_)
        · rw [if_pos h] at hb
          exact hb
        · rw [if_neg h] at hb
          exact hb
      · rw [if_neg h] at hb
        exact hb
  · rw [if_neg h] at hb
    exact hb
theorem rcX3_kindNow : ∀ as σ kk, tX3_kindNow as σ kk → ∃ a r fs, as = .ref a :: r ∧ σ[a]? = some (.inr (2, fs)) := by
  intro as σ kk h
  unfold tX3_kindNow at h; split at h
  · obtain ⟨c, M, rfl, -⟩ := h
    exact ⟨_, _, _, rfl, rfl⟩
  · exact h.elim
set_option maxRecDepth 20000 in
theorem okX3_kindNow (l : Launch) : OK l yX3_kindNow cX3_kindNow 1 (some .int) 3 tX3_kindNow := by
  intro D τ ρ A as σ post h
  unfold tX3_kindNow at h; split at h
  · obtain ⟨c, M, rfl, hw⟩ := h
    refine met_of (P := pgX3_kindNow) (CE := ceX3_kindNow) (cut := cutX3_kindNow) (by decide) kkX3_kindNow (coX3_kindNow l) (Nat.le_of_ble_eq_true rfl) ?_
    intro G hG
    unfold wX3_kindNow at hw
    refine lbX3_kindNow_0 hG c M  (mbX3_kindNow_0 ?_  hw)
    · exact fun _ _ h => ⟨trivial, h⟩
  · exact h.elim
def bX3_weigh_0 (c : CS) (a : Int32) (kr : CS → Prop) (kc12 : Int32 → Int64 → Int64 → Int32 → CS → Prop) : Prop :=
  kc12 a (4607182418800017408 : Int64) (4607182418800017408 : Int64) (0 : Int32) c
def bX3_weigh_12 (c : CS) (a : Int32) (l2 : Int64) (l4 : Int64) (l6 : Int32) (kr : CS → Prop) (kc12 : Int32 → Int64 → Int64 → Int32 → CS → Prop) : Prop :=
  (if (c.1 0) ≤ l6 then
    (vp_in a 100 ∧ (vp_in a 100 ∧ kr (setL (setL c 13 (vp_updL (c.2.2 13) a.toNatClampNeg l2)) 14 (vp_updL ((setL c 13 (vp_updL (c.2.2 13) a.toNatClampNeg l2)).2.2 14) a.toNatClampNeg l4))))
  else
    (vp_in l6 3 ∧ (vp_in l6 3 ∧ (vp_in ((2 : Int32) + l6) 5 ∧ (if (c.2.1 2 ((2 : Int32) + l6).toNatClampNeg) = (-5 : Int32) then
      kc12 a (fX1_lowTimes l2 (fX1_down (c.2.2 16 l6.toNatClampNeg))) (fX1_highTimes l4 (fX1_up (c.2.2 16 l6.toNatClampNeg))) (l6 + (1 : Int32)) c
    else
      (vp_in (c.2.1 2 ((2 : Int32) + l6).toNatClampNeg) 32 ∧ (vp_in (c.2.1 2 ((2 : Int32) + l6).toNatClampNeg) 32 ∧ kc12 a (fX1_lowTimes (fX1_lowTimes l2 (fX1_down (c.2.2 16 l6.toNatClampNeg))) (c.2.2 4 (c.2.1 2 ((2 : Int32) + l6).toNatClampNeg).toNatClampNeg)) (fX1_highTimes (fX1_highTimes l4 (fX1_up (c.2.2 16 l6.toNatClampNeg))) (c.2.2 5 (c.2.1 2 ((2 : Int32) + l6).toNatClampNeg).toNatClampNeg)) (l6 + (1 : Int32)) c)))))))
set_option maxRecDepth 20000 in
theorem mbX3_weigh_0 {c : CS} {a : Int32} {kr kq : CS → Prop} {kc12 kd12 : Int32 → Int64 → Int64 → Int32 → CS → Prop} (hr : ∀ X, kr X → kq X) (hc12 : ∀ z1 z2 z4 z6 X, kc12 z1 z2 z4 z6 X → kd12 z1 z2 z4 z6 X) (h : bX3_weigh_0 c a kr kc12) : bX3_weigh_0 c a kq kd12 := by
  unfold bX3_weigh_0 at h ⊢
  exact hc12 _ _ _ _ _ h
set_option maxRecDepth 20000 in
theorem mbX3_weigh_12 {c : CS} {a : Int32} {l2 : Int64} {l4 : Int64} {l6 : Int32} {kr kq : CS → Prop} {kc12 kd12 : Int32 → Int64 → Int64 → Int32 → CS → Prop} (hr : ∀ X, kr X → kq X) (hc12 : ∀ z1 z2 z4 z6 X, kc12 z1 z2 z4 z6 X → kd12 z1 z2 z4 z6 X) (h : bX3_weigh_12 c a l2 l4 l6 kr kc12) : bX3_weigh_12 c a l2 l4 l6 kq kd12 := by
  unfold bX3_weigh_12 at h ⊢
  by_cases hc : (c.1 0) ≤ l6
  · rw [if_pos hc] at h ⊢
    obtain ⟨hi, h⟩ := h
    refine And.intro hi ?_
    obtain ⟨hi, h⟩ := h
    refine And.intro hi ?_
    exact hr _ h
  · rw [if_neg hc] at h ⊢
    obtain ⟨hi, h⟩ := h
    refine And.intro hi ?_
    obtain ⟨hi, h⟩ := h
    refine And.intro hi ?_
    obtain ⟨hi, h⟩ := h
    refine And.intro hi ?_
    by_cases hc : (c.2.1 2 ((2 : Int32) + l6).toNatClampNeg) = (-5 : Int32)
    · rw [if_pos hc] at h ⊢
      exact hc12 _ _ _ _ _ h
    · rw [if_neg hc] at h ⊢
      obtain ⟨hi, h⟩ := h
      refine And.intro hi ?_
      obtain ⟨hi, h⟩ := h
      refine And.intro hi ?_
      exact hc12 _ _ _ _ _ h
def itX3_weigh_12 (kr : CS → Prop) : Nat → Int32 → Int64 → Int64 → Int32 → CS → Prop
  | 0, _, _, _, _, _ => False
  | n + 1, a, l2, l4, l6, c => bX3_weigh_12 c a l2 l4 l6 kr (fun z1 z2 z4 z6 X => itX3_weigh_12 kr n z1 z2 z4 z6 X)
theorem miX3_weigh_12 {kr kq : CS → Prop} (hr : ∀ X, kr X → kq X) : ∀ (n : Nat) (z1 : Int32) (z2 : Int64) (z4 : Int64) (z6 : Int32) (X : CS), itX3_weigh_12 kr n z1 z2 z4 z6 X → itX3_weigh_12 kq n z1 z2 z4 z6 X
  | 0, _, _, _, _, _, h => h
  | n + 1, _, _, _, _, _, h => mbX3_weigh_12 hr (fun _ _ _ _ _ h => miX3_weigh_12 hr n _ _ _ _ _ h) h
def wX3_weigh (c : CS) (a : Int32) (kr : CS → Prop) : Prop := bX3_weigh_0 c a kr (fun z1 z2 z4 z6 X => ∃ N, itX3_weigh_12 kr N z1 z2 z4 z6 X)
theorem mnX3_weigh {c : CS} {a : Int32} {kr kq : CS → Prop} (hr : ∀ X, kr X → kq X) (h : wX3_weigh c a kr) : wX3_weigh c a kq := mbX3_weigh_0 hr (fun _ _ _ _ _ h => h.elim fun N h => ⟨N, miX3_weigh_12 hr N _ _ _ _ _ h⟩) h
def tX3_weigh : Tr := fun as σ k => match as with
  | [.ref 0, .int a] => ∃ (c : CS) (M : aS), σ = wC c ++ M ∧ wX3_weigh c a (fun X => k none (wC X ++ M))
  | _ => False
def ceX3_weigh : List (Nat × Nat × Tr) := (2 * 182, 1, tX1_down) :: (2 * 186, 2, tX1_lowTimes) :: (2 * 190, 1, tX1_up) :: (2 * 193, 2, tX1_highTimes) :: []
theorem coX3_weigh (l : Launch) : CEok l yX3_weigh.cls 5 ceX3_weigh := ce_S (okX1_down l) (mw 378 (by decide +kernel) rfl) (mw 256 (by decide +kernel) rfl) (mw 5 (by decide +kernel) rfl) (mw 257 (by decide +kernel) rfl) (by decide) ⟨by decide, by decide⟩ (ce_S (okX1_lowTimes l) (mw 379 (by decide +kernel) rfl) (mw 380 (by decide +kernel) rfl) (mw 5 (by decide +kernel) rfl) (mw 381 (by decide +kernel) rfl) (by decide) ⟨by decide, by decide⟩ (ce_S (okX1_up l) (mw 385 (by decide +kernel) rfl) (mw 262 (by decide +kernel) rfl) (mw 5 (by decide +kernel) rfl) (mw 263 (by decide +kernel) rfl) (by decide) ⟨by decide, by decide⟩ (ce_S (okX1_highTimes l) (mw 386 (by decide +kernel) rfl) (mw 387 (by decide +kernel) rfl) (mw 5 (by decide +kernel) rfl) (mw 388 (by decide +kernel) rfl) (by decide) ⟨by decide, by decide⟩ (ce_0))))
abbrev cutX3_weigh : List (Nat × List Nat) := [(12, [0, 1, 2, 4, 6])]
set_option maxRecDepth 20000 in
set_option maxHeartbeats 4000000 in
theorem lbX3_weigh_0 {G : Nat → LV → List Value → aS → Prop} {post : Option Value → aS → Prop} (hG : ∀ n b pc lv st σ, seg (0, fun _ => 0) pgX3_weigh ceX3_weigh cutX3_weigh G (fun v σ => rFit none v ∧ post v σ) n b pc lv st σ → G pc lv st σ) (c : CS) (M : aS) (a : Int32) (hb : bX3_weigh_0 c a (fun X => rFit none none ∧ post none (wC X ++ M)) (fun z1 z2 z4 z6 X => G 12 [(0, .ref 0), (1, .int z1), (2, .long z2), (4, .long z4), (6, .int z6)] [] (wC X ++ M))) : G 0 [(0, .ref 0), (1, .int a)] [] (wC c ++ M) := by
  unfold bX3_weigh_0 at hb
  refine hG 400 false 0 _ _ _ ?_
  exact hb
set_option maxRecDepth 20000 in
set_option maxHeartbeats 4000000 in
theorem lbX3_weigh_12 {G : Nat → LV → List Value → aS → Prop} {post : Option Value → aS → Prop} (hG : ∀ n b pc lv st σ, seg (0, fun _ => 0) pgX3_weigh ceX3_weigh cutX3_weigh G (fun v σ => rFit none v ∧ post v σ) n b pc lv st σ → G pc lv st σ) (c : CS) (M : aS) (a : Int32) (l2 : Int64) (l4 : Int64) (l6 : Int32) (hb : bX3_weigh_12 c a l2 l4 l6 (fun X => rFit none none ∧ post none (wC X ++ M)) (fun z1 z2 z4 z6 X => G 12 [(0, .ref 0), (1, .int z1), (2, .long z2), (4, .long z4), (6, .int z6)] [] (wC X ++ M))) : G 12 [(0, .ref 0), (1, .int a), (2, .long l2), (4, .long l4), (6, .int l6)] [] (wC c ++ M) := by
  unfold bX3_weigh_12 at hb
  refine hG 400 false 12 _ _ _ ?_
  refine And.intro (fun (h : (c.1 0) ≤ l6) => ?_) (fun (h : ¬ (c.1 0) ≤ l6) => ?_)
  · rw [if_pos h] at hb
    obtain ⟨hi, hb⟩ := hb
    refine And.intro hi ?_
    obtain ⟨hi, hb⟩ := hb
    refine And.intro hi ?_
    exact hb
  · rw [if_neg h] at hb
    obtain ⟨hi, hb⟩ := hb
    refine And.intro hi ?_
    obtain ⟨hi, hb⟩ := hb
    refine And.intro hi ?_
    obtain ⟨hi, hb⟩ := hb
    refine And.intro hi ?_
    refine And.intro (fun (h : (c.2.1 2 ((2 : Int32) + l6).toNatClampNeg) = (-5 : Int32)) => ?_) (fun (h : ¬ (c.2.1 2 ((2 : Int32) + l6).toNatClampNeg) = (-5 : Int32)) => ?_)
    · rw [if_pos h] at hb
      exact hb
    · rw [if_neg h] at hb
      obtain ⟨hi, hb⟩ := hb
      refine And.intro hi ?_
      obtain ⟨hi, hb⟩ := hb
      refine And.intro hi ?_
      exact hb
theorem giX3_weigh_12 {G : Nat → LV → List Value → aS → Prop} {post : Option Value → aS → Prop} (hG : ∀ n b pc lv st σ, seg (0, fun _ => 0) pgX3_weigh ceX3_weigh cutX3_weigh G (fun v σ => rFit none v ∧ post v σ) n b pc lv st σ → G pc lv st σ) (M : aS) : ∀ (n : Nat) (z1 : Int32) (z2 : Int64) (z4 : Int64) (z6 : Int32) (X : CS), itX3_weigh_12 (fun X => rFit none none ∧ post none (wC X ++ M)) n z1 z2 z4 z6 X → G 12 [(0, .ref 0), (1, .int z1), (2, .long z2), (4, .long z4), (6, .int z6)] [] (wC X ++ M)
  | 0, _, _, _, _, _, h => h.elim
  | n + 1, _, _, _, _, _, h => lbX3_weigh_12 hG _ M _ _ _ _ (mbX3_weigh_12 (fun _ h => h) (fun _ _ _ _ _ h => giX3_weigh_12 hG M n _ _ _ _ _ h) h)
theorem rcX3_weigh : ∀ as σ kk, tX3_weigh as σ kk → ∃ a r fs, as = .ref a :: r ∧ σ[a]? = some (.inr (2, fs)) := by
  intro as σ kk h
  unfold tX3_weigh at h; split at h
  · obtain ⟨c, M, rfl, -⟩ := h
    exact ⟨_, _, _, rfl, rfl⟩
  · exact h.elim
set_option maxRecDepth 20000 in
theorem okX3_weigh (l : Launch) : OK l yX3_weigh cX3_weigh 8 none 5 tX3_weigh := by
  intro D τ ρ A as σ post h
  unfold tX3_weigh at h; split at h
  · rename_i a; obtain ⟨c, M, rfl, hw⟩ := h
    refine met_of (P := pgX3_weigh) (CE := ceX3_weigh) (cut := cutX3_weigh) (by decide) kkX3_weigh (coX3_weigh l) (Nat.le_of_ble_eq_true rfl) ?_
    intro G hG
    unfold wX3_weigh at hw
    refine lbX3_weigh_0 hG c M a (mbX3_weigh_0 ?_ ?_ hw)
    · exact fun _ h => ⟨trivial, h⟩
    · intro _ _ _ _ _ ⟨N, h⟩; exact giX3_weigh_12 hG M N _ _ _ _ _ (miX3_weigh_12 (fun _ h => ⟨trivial, h⟩) N _ _ _ _ _ h)
  · exact h.elim
def bX3_settle_0 (c : CS) (a : Int32) (kr : CS → Prop)  : Prop :=
  (wX0_enclose c (c.1 1) (fX2_place a (0 : Int32)) (fun  X1 => (wX3_kindNow X1  (fun r2 X2 => (vp_in a 100 ∧ (wX2_measure (setA X2 15 (upd (X2.2.1 15) a.toNatClampNeg r2)) a (fun  X3 => (wX3_weigh X3 a (fun  X4 => kr X4)))))))))
set_option maxRecDepth 20000 in
theorem mbX3_settle_0 {c : CS} {a : Int32} {kr kq : CS → Prop}  (hr : ∀ X, kr X → kq X)  (h : bX3_settle_0 c a kr ) : bX3_settle_0 c a kq  := by
  unfold bX3_settle_0 at h ⊢
  refine mnX0_enclose ?_ h
  intro  X1 h
  refine mnX3_kindNow ?_ h
  intro r2 X2 h
  obtain ⟨hi, h⟩ := h
  refine And.intro hi ?_
  refine mnX2_measure ?_ h
  intro  X3 h
  refine mnX3_weigh ?_ h
  intro  X4 h
  exact hr _ h
def wX3_settle (c : CS) (a : Int32) (kr : CS → Prop) : Prop := bX3_settle_0 c a kr 
theorem mnX3_settle {c : CS} {a : Int32} {kr kq : CS → Prop} (hr : ∀ X, kr X → kq X) (h : wX3_settle c a kr) : wX3_settle c a kq := mbX3_settle_0 hr  h
def tX3_settle : Tr := fun as σ k => match as with
  | [.ref 0, .int a] => ∃ (c : CS) (M : aS), σ = wC c ++ M ∧ wX3_settle c a (fun X => k none (wC X ++ M))
  | _ => False
def ceX3_settle : List (Nat × Nat × Tr) := (2 * 105, 2, tX2_place) :: (2 * 115 + 1, 3 + 1, tX0_enclose) :: (2 * 162 + 1, 0 + 1, tX3_kindNow) :: (2 * 165 + 1, 1 + 1, tX2_measure) :: (2 * 168 + 1, 1 + 1, tX3_weigh) :: []
theorem coX3_settle (l : Launch) : CEok l yX3_settle.cls 7 ceX3_settle := ce_S (okX2_place l) (mw 201 (by decide +kernel) rfl) (mw 202 (by decide +kernel) rfl) (mw 3 (by decide +kernel) rfl) (mw 203 (by decide +kernel) rfl) (by decide) ⟨by decide, by decide⟩ (ce_V (ci := 0) (n := 3) rfl (okX0_enclose l) rcX0_enclose (mw 204 (by decide +kernel) rfl) (mw 205 (by decide +kernel) rfl) (mw 206 (by decide +kernel) rfl) (mw 2 (by decide +kernel) rfl) (mw 207 (by decide +kernel) rfl) rfl (by decide) ⟨by decide, by decide⟩ (ce_V (ci := 2) (n := 0) rfl (okX3_kindNow l) rcX3_kindNow (mw 351 (by decide +kernel) rfl) (mw 353 (by decide +kernel) rfl) (ms 9 (by decide +kernel) rfl) (mw 1 (by decide +kernel) rfl) (mw 354 (by decide +kernel) rfl) rfl (by decide) ⟨by decide, by decide⟩ (ce_V (ci := 1) (n := 1) rfl (okX2_measure l) rcX2_measure (mw 363 (by decide +kernel) rfl) (mw 364 (by decide +kernel) rfl) (mw 365 (by decide +kernel) rfl) (mw 3 (by decide +kernel) rfl) (mw 366 (by decide +kernel) rfl) rfl (by decide) ⟨by decide, by decide⟩ (ce_V (ci := 2) (n := 1) rfl (okX3_weigh l) rcX3_weigh (mw 373 (by decide +kernel) rfl) (mw 375 (by decide +kernel) rfl) (ms 12 (by decide +kernel) rfl) (mw 1 (by decide +kernel) rfl) (mw 376 (by decide +kernel) rfl) rfl (by decide) ⟨by decide, by decide⟩ (ce_0)))))
abbrev cutX3_settle : List (Nat × List Nat) := []
set_option maxRecDepth 20000 in
set_option maxHeartbeats 4000000 in
theorem lbX3_settle_0 {G : Nat → LV → List Value → aS → Prop} {post : Option Value → aS → Prop} (hG : ∀ n b pc lv st σ, seg (0, fun _ => 0) pgX3_settle ceX3_settle cutX3_settle G (fun v σ => rFit none v ∧ post v σ) n b pc lv st σ → G pc lv st σ) (c : CS) (M : aS) (a : Int32) (hb : bX3_settle_0 c a (fun X => rFit none none ∧ post none (wC X ++ M)) ) : G 0 [(0, .ref 0), (1, .int a)] [] (wC c ++ M) := by
  unfold bX3_settle_0 at hb
  refine hG 400 false 0 _ _ _ ?_
  refine Exists.intro c (Exists.intro M ((And.intro rfl (mnX0_enclose ?_ hb))))
  intro  X1 hb
  refine Exists.intro X1 (Exists.intro M ((And.intro rfl (mnX3_kindNow ?_ hb))))
  intro r2 X2 hb
  obtain ⟨hi, hb⟩ := hb
  refine And.intro hi ?_
  refine Exists.intro (setA X2 15 (upd (X2.2.1 15) a.toNatClampNeg r2)) (Exists.intro M ((And.intro rfl (mnX2_measure ?_ hb))))
  intro  X3 hb
  refine Exists.intro X3 (Exists.intro M ((And.intro rfl (mnX3_weigh ?_ hb))))
  intro  X4 hb
  exact hb
theorem rcX3_settle : ∀ as σ kk, tX3_settle as σ kk → ∃ a r fs, as = .ref a :: r ∧ σ[a]? = some (.inr (2, fs)) := by
  intro as σ kk h
  unfold tX3_settle at h; split at h
  · obtain ⟨c, M, rfl, -⟩ := h
    exact ⟨_, _, _, rfl, rfl⟩
  · exact h.elim
set_option maxRecDepth 20000 in
theorem okX3_settle (l : Launch) : OK l yX3_settle cX3_settle 2 none 7 tX3_settle := by
  intro D τ ρ A as σ post h
  unfold tX3_settle at h; split at h
  · rename_i a; obtain ⟨c, M, rfl, hw⟩ := h
    refine met_of (P := pgX3_settle) (CE := ceX3_settle) (cut := cutX3_settle) (by decide) kkX3_settle (coX3_settle l) (Nat.le_of_ble_eq_true rfl) ?_
    intro G hG
    unfold wX3_settle at hw
    refine lbX3_settle_0 hG c M a (mbX3_settle_0 ?_  hw)
    · exact fun _ h => ⟨trivial, h⟩
  · exact h.elim
def bX3_lowOdds_0 (c : CS)  (kr : Int64 → CS → Prop)  : Prop :=
  (wX2_lowMass c (1 : Int32) (fun r1 X1 => (wX2_highMass X1 (2 : Int32) (fun r2 X2 => (wX2_highMass X2 (3 : Int32) (fun r3 X3 => kr (fX1_zeroIfLess (fX1_down (fX1_over r1 (fX1_up (fX1_plus (fX1_up (fX1_plus r1 r2)) r3))))) X3))))))
set_option maxRecDepth 20000 in
theorem mbX3_lowOdds_0 {c : CS}  {kr kq : Int64 → CS → Prop}  (hr : ∀ x X, kr x X → kq x X)  (h : bX3_lowOdds_0 c  kr ) : bX3_lowOdds_0 c  kq  := by
  unfold bX3_lowOdds_0 at h ⊢
  refine mnX2_lowMass ?_ h
  intro r1 X1 h
  refine mnX2_highMass ?_ h
  intro r2 X2 h
  refine mnX2_highMass ?_ h
  intro r3 X3 h
  exact hr _ _ h
def wX3_lowOdds (c : CS)  (kr : Int64 → CS → Prop) : Prop := bX3_lowOdds_0 c  kr 
theorem mnX3_lowOdds {c : CS}  {kr kq : Int64 → CS → Prop} (hr : ∀ x X, kr x X → kq x X) (h : wX3_lowOdds c  kr) : wX3_lowOdds c  kq := mbX3_lowOdds_0 hr  h
def tX3_lowOdds : Tr := fun as σ k => match as with
  | [.ref 0] => ∃ (c : CS) (M : aS), σ = wC c ++ M ∧ wX3_lowOdds c  (fun x X => k (some (.long x)) (wC X ++ M))
  | _ => False
def ceX3_lowOdds : List (Nat × Nat × Tr) := (2 * 139 + 1, 1 + 1, tX2_lowMass) :: (2 * 143 + 1, 1 + 1, tX2_highMass) :: (2 * 196, 2, tX1_plus) :: (2 * 190, 1, tX1_up) :: (2 * 199, 2, tX1_over) :: (2 * 182, 1, tX1_down) :: (2 * 202, 1, tX1_zeroIfLess) :: []
theorem coX3_lowOdds (l : Launch) : CEok l yX3_lowOdds.cls 5 ceX3_lowOdds := ce_V (ci := 1) (n := 1) rfl (okX2_lowMass l) rcX2_lowMass (mw 461 (by decide +kernel) rfl) (mw 462 (by decide +kernel) rfl) (mw 463 (by decide +kernel) rfl) (mw 3 (by decide +kernel) rfl) (mw 464 (by decide +kernel) rfl) rfl (by decide) ⟨by decide, by decide⟩ (ce_V (ci := 1) (n := 1) rfl (okX2_highMass l) rcX2_highMass (mw 467 (by decide +kernel) rfl) (mw 468 (by decide +kernel) rfl) (mw 469 (by decide +kernel) rfl) (mw 3 (by decide +kernel) rfl) (mw 470 (by decide +kernel) rfl) rfl (by decide) ⟨by decide, by decide⟩ (ce_S (okX1_plus l) (mw 480 (by decide +kernel) rfl) (mw 224 (by decide +kernel) rfl) (mw 5 (by decide +kernel) rfl) (mw 225 (by decide +kernel) rfl) (by decide) ⟨by decide, by decide⟩ (ce_S (okX1_up l) (mw 385 (by decide +kernel) rfl) (mw 262 (by decide +kernel) rfl) (mw 5 (by decide +kernel) rfl) (mw 263 (by decide +kernel) rfl) (by decide) ⟨by decide, by decide⟩ (ce_S (okX1_over l) (mw 481 (by decide +kernel) rfl) (mw 294 (by decide +kernel) rfl) (mw 5 (by decide +kernel) rfl) (mw 295 (by decide +kernel) rfl) (by decide) ⟨by decide, by decide⟩ (ce_S (okX1_down l) (mw 378 (by decide +kernel) rfl) (mw 256 (by decide +kernel) rfl) (mw 5 (by decide +kernel) rfl) (mw 257 (by decide +kernel) rfl) (by decide) ⟨by decide, by decide⟩ (ce_S (okX1_zeroIfLess l) (mw 482 (by decide +kernel) rfl) (mw 315 (by decide +kernel) rfl) (mw 5 (by decide +kernel) rfl) (mw 316 (by decide +kernel) rfl) (by decide) ⟨by decide, by decide⟩ (ce_0)))))))
abbrev cutX3_lowOdds : List (Nat × List Nat) := []
set_option maxRecDepth 20000 in
set_option maxHeartbeats 4000000 in
theorem lbX3_lowOdds_0 {G : Nat → LV → List Value → aS → Prop} {post : Option Value → aS → Prop} (hG : ∀ n b pc lv st σ, seg (0, fun _ => 0) pgX3_lowOdds ceX3_lowOdds cutX3_lowOdds G (fun v σ => rFit (some .long) v ∧ post v σ) n b pc lv st σ → G pc lv st σ) (c : CS) (M : aS)  (hb : bX3_lowOdds_0 c  (fun x X => rFit (some .long) (some (.long x)) ∧ post (some (.long x)) (wC X ++ M)) ) : G 0 [(0, .ref 0)] [] (wC c ++ M) := by
  unfold bX3_lowOdds_0 at hb
  refine hG 400 false 0 _ _ _ ?_
  refine Exists.intro c (Exists.intro M ((And.intro rfl (mnX2_lowMass ?_ hb))))
  intro r1 X1 hb
  refine Exists.intro X1 (Exists.intro M ((And.intro rfl (mnX2_highMass ?_ hb))))
  intro r2 X2 hb
  refine Exists.intro X2 (Exists.intro M ((And.intro rfl (mnX2_highMass ?_ hb))))
  intro r3 X3 hb
  exact hb
theorem rcX3_lowOdds : ∀ as σ kk, tX3_lowOdds as σ kk → ∃ a r fs, as = .ref a :: r ∧ σ[a]? = some (.inr (2, fs)) := by
  intro as σ kk h
  unfold tX3_lowOdds at h; split at h
  · obtain ⟨c, M, rfl, -⟩ := h
    exact ⟨_, _, _, rfl, rfl⟩
  · exact h.elim
set_option maxRecDepth 20000 in
theorem okX3_lowOdds (l : Launch) : OK l yX3_lowOdds cX3_lowOdds 7 (some .long) 5 tX3_lowOdds := by
  intro D τ ρ A as σ post h
  unfold tX3_lowOdds at h; split at h
  · obtain ⟨c, M, rfl, hw⟩ := h
    refine met_of (P := pgX3_lowOdds) (CE := ceX3_lowOdds) (cut := cutX3_lowOdds) (by decide) kkX3_lowOdds (coX3_lowOdds l) (Nat.le_of_ble_eq_true rfl) ?_
    intro G hG
    unfold wX3_lowOdds at hw
    refine lbX3_lowOdds_0 hG c M  (mbX3_lowOdds_0 ?_  hw)
    · exact fun _ _ h => ⟨trivial, h⟩
  · exact h.elim
def bX3_highOdds_0 (c : CS)  (kr : Int64 → CS → Prop)  : Prop :=
  (wX2_highMass c (1 : Int32) (fun r1 X1 => (wX2_highMass X1 (3 : Int32) (fun r2 X2 => (wX2_lowMass X2 (2 : Int32) (fun r3 X3 => kr (fX1_oneIfMore (fX1_up (fX1_over (fX1_up (fX1_plus r1 r2)) (fX1_down (fX1_plus (fX1_up (fX1_plus r1 r2)) r3))))) X3))))))
set_option maxRecDepth 20000 in
theorem mbX3_highOdds_0 {c : CS}  {kr kq : Int64 → CS → Prop}  (hr : ∀ x X, kr x X → kq x X)  (h : bX3_highOdds_0 c  kr ) : bX3_highOdds_0 c  kq  := by
  unfold bX3_highOdds_0 at h ⊢
  refine mnX2_highMass ?_ h
  intro r1 X1 h
  refine mnX2_highMass ?_ h
  intro r2 X2 h
  refine mnX2_lowMass ?_ h
  intro r3 X3 h
  exact hr _ _ h
def wX3_highOdds (c : CS)  (kr : Int64 → CS → Prop) : Prop := bX3_highOdds_0 c  kr 
theorem mnX3_highOdds {c : CS}  {kr kq : Int64 → CS → Prop} (hr : ∀ x X, kr x X → kq x X) (h : wX3_highOdds c  kr) : wX3_highOdds c  kq := mbX3_highOdds_0 hr  h
def tX3_highOdds : Tr := fun as σ k => match as with
  | [.ref 0] => ∃ (c : CS) (M : aS), σ = wC c ++ M ∧ wX3_highOdds c  (fun x X => k (some (.long x)) (wC X ++ M))
  | _ => False
def ceX3_highOdds : List (Nat × Nat × Tr) := (2 * 143 + 1, 1 + 1, tX2_highMass) :: (2 * 196, 2, tX1_plus) :: (2 * 190, 1, tX1_up) :: (2 * 139 + 1, 1 + 1, tX2_lowMass) :: (2 * 182, 1, tX1_down) :: (2 * 199, 2, tX1_over) :: (2 * 205, 1, tX1_oneIfMore) :: []
theorem coX3_highOdds (l : Launch) : CEok l yX3_highOdds.cls 5 ceX3_highOdds := ce_V (ci := 1) (n := 1) rfl (okX2_highMass l) rcX2_highMass (mw 467 (by decide +kernel) rfl) (mw 468 (by decide +kernel) rfl) (mw 469 (by decide +kernel) rfl) (mw 3 (by decide +kernel) rfl) (mw 470 (by decide +kernel) rfl) rfl (by decide) ⟨by decide, by decide⟩ (ce_S (okX1_plus l) (mw 480 (by decide +kernel) rfl) (mw 224 (by decide +kernel) rfl) (mw 5 (by decide +kernel) rfl) (mw 225 (by decide +kernel) rfl) (by decide) ⟨by decide, by decide⟩ (ce_S (okX1_up l) (mw 385 (by decide +kernel) rfl) (mw 262 (by decide +kernel) rfl) (mw 5 (by decide +kernel) rfl) (mw 263 (by decide +kernel) rfl) (by decide) ⟨by decide, by decide⟩ (ce_V (ci := 1) (n := 1) rfl (okX2_lowMass l) rcX2_lowMass (mw 461 (by decide +kernel) rfl) (mw 462 (by decide +kernel) rfl) (mw 463 (by decide +kernel) rfl) (mw 3 (by decide +kernel) rfl) (mw 464 (by decide +kernel) rfl) rfl (by decide) ⟨by decide, by decide⟩ (ce_S (okX1_down l) (mw 378 (by decide +kernel) rfl) (mw 256 (by decide +kernel) rfl) (mw 5 (by decide +kernel) rfl) (mw 257 (by decide +kernel) rfl) (by decide) ⟨by decide, by decide⟩ (ce_S (okX1_over l) (mw 481 (by decide +kernel) rfl) (mw 294 (by decide +kernel) rfl) (mw 5 (by decide +kernel) rfl) (mw 295 (by decide +kernel) rfl) (by decide) ⟨by decide, by decide⟩ (ce_S (okX1_oneIfMore l) (mw 487 (by decide +kernel) rfl) (mw 488 (by decide +kernel) rfl) (mw 5 (by decide +kernel) rfl) (mw 489 (by decide +kernel) rfl) (by decide) ⟨by decide, by decide⟩ (ce_0)))))))
abbrev cutX3_highOdds : List (Nat × List Nat) := []
set_option maxRecDepth 20000 in
set_option maxHeartbeats 4000000 in
theorem lbX3_highOdds_0 {G : Nat → LV → List Value → aS → Prop} {post : Option Value → aS → Prop} (hG : ∀ n b pc lv st σ, seg (0, fun _ => 0) pgX3_highOdds ceX3_highOdds cutX3_highOdds G (fun v σ => rFit (some .long) v ∧ post v σ) n b pc lv st σ → G pc lv st σ) (c : CS) (M : aS)  (hb : bX3_highOdds_0 c  (fun x X => rFit (some .long) (some (.long x)) ∧ post (some (.long x)) (wC X ++ M)) ) : G 0 [(0, .ref 0)] [] (wC c ++ M) := by
  unfold bX3_highOdds_0 at hb
  refine hG 400 false 0 _ _ _ ?_
  refine Exists.intro c (Exists.intro M ((And.intro rfl (mnX2_highMass ?_ hb))))
  intro r1 X1 hb
  refine Exists.intro X1 (Exists.intro M ((And.intro rfl (mnX2_highMass ?_ hb))))
  intro r2 X2 hb
  refine Exists.intro X2 (Exists.intro M ((And.intro rfl (mnX2_lowMass ?_ hb))))
  intro r3 X3 hb
  exact hb
theorem rcX3_highOdds : ∀ as σ kk, tX3_highOdds as σ kk → ∃ a r fs, as = .ref a :: r ∧ σ[a]? = some (.inr (2, fs)) := by
  intro as σ kk h
  unfold tX3_highOdds at h; split at h
  · obtain ⟨c, M, rfl, -⟩ := h
    exact ⟨_, _, _, rfl, rfl⟩
  · exact h.elim
set_option maxRecDepth 20000 in
theorem okX3_highOdds (l : Launch) : OK l yX3_highOdds cX3_highOdds 5 (some .long) 5 tX3_highOdds := by
  intro D τ ρ A as σ post h
  unfold tX3_highOdds at h; split at h
  · obtain ⟨c, M, rfl, hw⟩ := h
    refine met_of (P := pgX3_highOdds) (CE := ceX3_highOdds) (cut := cutX3_highOdds) (by decide) kkX3_highOdds (coX3_highOdds l) (Nat.le_of_ble_eq_true rfl) ?_
    intro G hG
    unfold wX3_highOdds at hw
    refine lbX3_highOdds_0 hG c M  (mbX3_highOdds_0 ?_  hw)
    · exact fun _ _ h => ⟨trivial, h⟩
  · exact h.elim
def bX3_draw_0 (c : CS) (a : Int64) (b : Int64) (kr : Int32 → CS → Prop)  : Prop :=
  (if (fX1_isFinite a) = 0 then
    kr (-2 : Int32) c
  else
    (if (fX1_isFinite b) = 0 then
      kr (-2 : Int32) c
    else
      (if (fX1_isBelow a b) = 0 then
        kr (-2 : Int32) c
      else
        (if (c.1 0) < (3 : Int32) then
          (vp_in ((2 : Int32) * (c.1 0)) 6 ∧ (vp_in (((2 : Int32) * ((setL c 1 (vp_updL (c.2.2 1) ((2 : Int32) * (c.1 0)).toNatClampNeg a)).1 0)) + (1 : Int32)) 6 ∧ (wX3_forgetRoles (setI (setL (setL c 1 (vp_updL (c.2.2 1) ((2 : Int32) * (c.1 0)).toNatClampNeg a)) 1 (vp_updL ((setL c 1 (vp_updL (c.2.2 1) ((2 : Int32) * (c.1 0)).toNatClampNeg a)).2.2 1) (((2 : Int32) * ((setL c 1 (vp_updL (c.2.2 1) ((2 : Int32) * (c.1 0)).toNatClampNeg a)).1 0)) + (1 : Int32)).toNatClampNeg b)) 0 (((setL (setL c 1 (vp_updL (c.2.2 1) ((2 : Int32) * (c.1 0)).toNatClampNeg a)) 1 (vp_updL ((setL c 1 (vp_updL (c.2.2 1) ((2 : Int32) * (c.1 0)).toNatClampNeg a)).2.2 1) (((2 : Int32) * ((setL c 1 (vp_updL (c.2.2 1) ((2 : Int32) * (c.1 0)).toNatClampNeg a)).1 0)) + (1 : Int32)).toNatClampNeg b)).1 0) + (1 : Int32)))  (fun  X1 => kr (((gX2_end X1 ).1 0) - (1 : Int32)) (gX2_end X1 )))))
        else
          kr (-4 : Int32) c))))
set_option maxRecDepth 20000 in
theorem mbX3_draw_0 {c : CS} {a : Int64} {b : Int64} {kr kq : Int32 → CS → Prop}  (hr : ∀ x X, kr x X → kq x X)  (h : bX3_draw_0 c a b kr ) : bX3_draw_0 c a b kq  := by
  unfold bX3_draw_0 at h ⊢
  by_cases hc : (fX1_isFinite a) = 0
  · rw [if_pos hc] at h ⊢
    exact hr _ _ h
  · rw [if_neg hc] at h ⊢
    by_cases hc : (fX1_isFinite b) = 0
    · rw [if_pos hc] at h ⊢
      exact hr _ _ h
    · rw [if_neg hc] at h ⊢
      by_cases hc : (fX1_isBelow a b) = 0
      · rw [if_pos hc] at h ⊢
        exact hr _ _ h
      · rw [if_neg hc] at h ⊢
        by_cases hc : (c.1 0) < (3 : Int32)
        · rw [if_pos hc] at h ⊢
          obtain ⟨hi, h⟩ := h
          refine And.intro hi ?_
          obtain ⟨hi, h⟩ := h
          refine And.intro hi ?_
          refine mnX3_forgetRoles ?_ h
          intro  X1 h
          exact hr _ _ h
        · rw [if_neg hc] at h ⊢
          exact hr _ _ h
def wX3_draw (c : CS) (a : Int64) (b : Int64) (kr : Int32 → CS → Prop) : Prop := bX3_draw_0 c a b kr 
theorem mnX3_draw {c : CS} {a : Int64} {b : Int64} {kr kq : Int32 → CS → Prop} (hr : ∀ x X, kr x X → kq x X) (h : wX3_draw c a b kr) : wX3_draw c a b kq := mbX3_draw_0 hr  h
def tX3_draw : Tr := fun as σ k => match as with
  | [.ref 0, .long a, .long b] => ∃ (c : CS) (M : aS), σ = wC c ++ M ∧ wX3_draw c a b (fun x X => k (some (.int x)) (wC X ++ M))
  | _ => False
def ceX3_draw : List (Nat × Nat × Tr) := (2 * 38, 1, tX1_isFinite) :: (2 * 44, 2, tX1_isBelow) :: (2 * 48 + 1, 0 + 1, tX3_forgetRoles) :: (2 * 51 + 1, 0 + 1, tX2_end) :: []
theorem coX3_draw (l : Launch) : CEok l yX3_draw.cls 2 ceX3_draw := ce_S (okX1_isFinite l) (mw 128 (by decide +kernel) rfl) (mw 129 (by decide +kernel) rfl) (mw 5 (by decide +kernel) rfl) (mw 130 (by decide +kernel) rfl) (by decide) ⟨by decide, by decide⟩ (ce_S (okX1_isBelow l) (mw 133 (by decide +kernel) rfl) (mw 134 (by decide +kernel) rfl) (mw 5 (by decide +kernel) rfl) (mw 135 (by decide +kernel) rfl) (by decide) ⟨by decide, by decide⟩ (ce_V (ci := 2) (n := 0) rfl (okX3_forgetRoles l) rcX3_forgetRoles (mw 143 (by decide +kernel) rfl) (mw 145 (by decide +kernel) rfl) (ms 0 (by decide +kernel) rfl) (mw 1 (by decide +kernel) rfl) (mw 146 (by decide +kernel) rfl) rfl (by decide) ⟨by decide, by decide⟩ (ce_V (ci := 1) (n := 0) rfl (okX2_end l) rcX2_end (mw 147 (by decide +kernel) rfl) (mw 148 (by decide +kernel) rfl) (mw 149 (by decide +kernel) rfl) (mw 3 (by decide +kernel) rfl) (mw 150 (by decide +kernel) rfl) rfl (by decide) ⟨by decide, by decide⟩ (ce_0))))
abbrev cutX3_draw : List (Nat × List Nat) := []
set_option maxRecDepth 20000 in
set_option maxHeartbeats 4000000 in
theorem lbX3_draw_0 {G : Nat → LV → List Value → aS → Prop} {post : Option Value → aS → Prop} (hG : ∀ n b pc lv st σ, seg (0, fun _ => 0) pgX3_draw ceX3_draw cutX3_draw G (fun v σ => rFit (some .int) v ∧ post v σ) n b pc lv st σ → G pc lv st σ) (c : CS) (M : aS) (a : Int64) (b : Int64) (hb : bX3_draw_0 c a b (fun x X => rFit (some .int) (some (.int x)) ∧ post (some (.int x)) (wC X ++ M)) ) : G 0 [(0, .ref 0), (1, .long a), (3, .long b)] [] (wC c ++ M) := by
  unfold bX3_draw_0 at hb
  refine hG 400 false 0 _ _ _ ?_
  refine And.intro (fun (h : (fX1_isFinite a) = 0) => ?_) (fun (h : ¬ (fX1_isFinite a) = 0) => ?_)
  · rw [if_pos h] at hb
    exact hb
  · rw [if_neg h] at hb
    refine And.intro (fun (h : (fX1_isFinite b) = 0) => ?_) (fun (h : ¬ (fX1_isFinite b) = 0) => ?_)
    · rw [if_pos h] at hb
      exact hb
    · rw [if_neg h] at hb
      refine And.intro (fun (h : ¬ (fX1_isBelow a b) = 0) => ?_) (fun hq => have h : (fX1_isBelow a b) = 0 := Classical.not_not.mp hq; ?_)
      · rw [if_neg h] at hb
        refine And.intro (fun (h : (c.1 0) < (3 : Int32)) => ?_) (fun (h : ¬ (c.1 0) < (3 : Int32)) => ?_)
        · rw [if_pos h] at hb
          obtain ⟨hi, hb⟩ := hb
          refine And.intro hi ?_
          obtain ⟨hi, hb⟩ := hb
          refine And.intro hi ?_
          refine Exists.intro (setI (setL (setL c 1 (vp_updL (c.2.2 1) ((2 : Int32) * (c.1 0)).toNatClampNeg a)) 1 (vp_updL ((setL c 1 (vp_updL (c.2.2 1) ((2 : Int32) * (c.1 0)).toNatClampNeg a)).2.2 1) (((2 : Int32) * ((setL c 1 (vp_updL (c.2.2 1) ((2 : Int32) * (c.1 0)).toNatClampNeg a)).1 0)) + (1 : Int32)).toNatClampNeg b)) 0 (((setL (setL c 1 (vp_updL (c.2.2 1) ((2 : Int32) * (c.1 0)).toNatClampNeg a)) 1 (vp_updL ((setL c 1 (vp_updL (c.2.2 1) ((2 : Int32) * (c.1 0)).toNatClampNeg a)).2.2 1) (((2 : Int32) * ((setL c 1 (vp_updL (c.2.2 1) ((2 : Int32) * (c.1 0)).toNatClampNeg a)).1 0)) + (1 : Int32)).toNatClampNeg b)).1 0) + (1 : Int32))) (Exists.intro M ((And.intro rfl (mnX3_forgetRoles ?_ hb))))
          intro  X1 hb
          refine Exists.intro X1 (Exists.intro M ((And.intro rfl (?_))))
          exact hb
        · rw [if_neg h] at hb
          exact hb
      · rw [if_pos h] at hb
        exact hb
theorem rcX3_draw : ∀ as σ kk, tX3_draw as σ kk → ∃ a r fs, as = .ref a :: r ∧ σ[a]? = some (.inr (2, fs)) := by
  intro as σ kk h
  unfold tX3_draw at h; split at h
  · obtain ⟨c, M, rfl, -⟩ := h
    exact ⟨_, _, _, rfl, rfl⟩
  · exact h.elim
set_option maxRecDepth 20000 in
theorem okX3_draw (l : Launch) : OK l yX3_draw cX3_draw 5 (some .int) 2 tX3_draw := by
  intro D τ ρ A as σ post h
  unfold tX3_draw at h; split at h
  · rename_i a b; obtain ⟨c, M, rfl, hw⟩ := h
    refine met_of (P := pgX3_draw) (CE := ceX3_draw) (cut := cutX3_draw) (by decide) kkX3_draw (coX3_draw l) (Nat.le_of_ble_eq_true rfl) ?_
    intro G hG
    unfold wX3_draw at hw
    refine lbX3_draw_0 hG c M a b (mbX3_draw_0 ?_  hw)
    · exact fun _ _ h => ⟨trivial, h⟩
  · exact h.elim
def bX3_node_0 (c : CS) (a : Int32) (b : Int32) (d : Int32) (e : Int64) (kr : Int32 → CS → Prop)  : Prop :=
  (if (fX0_isKind a) = 0 then
    kr (-2 : Int32) c
  else
    (if (vX0_areParts c a b d (c.1 0)) = 0 then
      kr (-1 : Int32) c
    else
      (if (c.1 2) < (32 : Int32) then
        (vp_in (c.1 2) 32 ∧ kr (vX0_add c a b d e) (gX0_add c a b d e))
      else
        kr (-4 : Int32) c)))
set_option maxRecDepth 20000 in
theorem mbX3_node_0 {c : CS} {a : Int32} {b : Int32} {d : Int32} {e : Int64} {kr kq : Int32 → CS → Prop}  (hr : ∀ x X, kr x X → kq x X)  (h : bX3_node_0 c a b d e kr ) : bX3_node_0 c a b d e kq  := by
  unfold bX3_node_0 at h ⊢
  by_cases hc : (fX0_isKind a) = 0
  · rw [if_pos hc] at h ⊢
    exact hr _ _ h
  · rw [if_neg hc] at h ⊢
    by_cases hc : (vX0_areParts c a b d (c.1 0)) = 0
    · rw [if_pos hc] at h ⊢
      exact hr _ _ h
    · rw [if_neg hc] at h ⊢
      by_cases hc : (c.1 2) < (32 : Int32)
      · rw [if_pos hc] at h ⊢
        obtain ⟨hi, h⟩ := h
        refine And.intro hi ?_
        exact hr _ _ h
      · rw [if_neg hc] at h ⊢
        exact hr _ _ h
def wX3_node (c : CS) (a : Int32) (b : Int32) (d : Int32) (e : Int64) (kr : Int32 → CS → Prop) : Prop := bX3_node_0 c a b d e kr 
theorem mnX3_node {c : CS} {a : Int32} {b : Int32} {d : Int32} {e : Int64} {kr kq : Int32 → CS → Prop} (hr : ∀ x X, kr x X → kq x X) (h : wX3_node c a b d e kr) : wX3_node c a b d e kq := mbX3_node_0 hr  h
def tX3_node : Tr := fun as σ k => match as with
  | [.ref 0, .int a, .int b, .int d, .long e] => ∃ (c : CS) (M : aS), σ = wC c ++ M ∧ wX3_node c a b d e (fun x X => k (some (.int x)) (wC X ++ M))
  | _ => False
def ceX3_node : List (Nat × Nat × Tr) := (2 * 54, 1, tX0_isKind) :: (2 * 58 + 1, 4 + 1, tX0_areParts) :: (2 * 65 + 1, 4 + 1, tX0_add) :: []
theorem coX3_node (l : Launch) : CEok l yX3_node.cls 3 ceX3_node := ce_S (okX0_isKind l) (mw 155 (by decide +kernel) rfl) (mw 156 (by decide +kernel) rfl) (mw 2 (by decide +kernel) rfl) (mw 157 (by decide +kernel) rfl) (by decide) ⟨by decide, by decide⟩ (ce_V (ci := 0) (n := 4) rfl (okX0_areParts l) rcX0_areParts (mw 158 (by decide +kernel) rfl) (mw 159 (by decide +kernel) rfl) (mw 160 (by decide +kernel) rfl) (mw 2 (by decide +kernel) rfl) (mw 161 (by decide +kernel) rfl) rfl (by decide) ⟨by decide, by decide⟩ (ce_V (ci := 0) (n := 4) rfl (okX0_add l) rcX0_add (mw 172 (by decide +kernel) rfl) (mw 173 (by decide +kernel) rfl) (mw 174 (by decide +kernel) rfl) (mw 2 (by decide +kernel) rfl) (mw 175 (by decide +kernel) rfl) rfl (by decide) ⟨by decide, by decide⟩ (ce_0)))
abbrev cutX3_node : List (Nat × List Nat) := []
set_option maxRecDepth 20000 in
set_option maxHeartbeats 4000000 in
theorem lbX3_node_0 {G : Nat → LV → List Value → aS → Prop} {post : Option Value → aS → Prop} (hG : ∀ n b pc lv st σ, seg (0, fun _ => 0) pgX3_node ceX3_node cutX3_node G (fun v σ => rFit (some .int) v ∧ post v σ) n b pc lv st σ → G pc lv st σ) (c : CS) (M : aS) (a : Int32) (b : Int32) (d : Int32) (e : Int64) (hb : bX3_node_0 c a b d e (fun x X => rFit (some .int) (some (.int x)) ∧ post (some (.int x)) (wC X ++ M)) ) : G 0 [(0, .ref 0), (1, .int a), (2, .int b), (3, .int d), (4, .long e)] [] (wC c ++ M) := by
  unfold bX3_node_0 at hb
  refine hG 400 false 0 _ _ _ ?_
  refine And.intro (fun (h : ¬ (fX0_isKind a) = 0) => ?_) (fun hq => have h : (fX0_isKind a) = 0 := Classical.not_not.mp hq; ?_)
  · rw [if_neg h] at hb
    refine Exists.intro c (Exists.intro M ((And.intro rfl (?_))))
    refine And.intro (fun (h : ¬ (vX0_areParts c a b d (c.1 0)) = 0) => ?_) (fun hq => have h : (vX0_areParts c a b d (c.1 0)) = 0 := Classical.not_not.mp hq; ?_)
    · rw [if_neg h] at hb
      refine And.intro (fun (h : (c.1 2) < (32 : Int32)) => ?_) (fun (h : ¬ (c.1 2) < (32 : Int32)) => ?_)
      · rw [if_pos h] at hb
        obtain ⟨hi0, hb⟩ := hb
        refine Exists.intro c (Exists.intro M ((And.intro rfl (And.intro hi0 (?_)))))
        exact hb
      · rw [if_neg h] at hb
        exact hb
    · rw [if_pos h] at hb
      exact hb
  · rw [if_pos h] at hb
    exact hb
theorem rcX3_node : ∀ as σ kk, tX3_node as σ kk → ∃ a r fs, as = .ref a :: r ∧ σ[a]? = some (.inr (2, fs)) := by
  intro as σ kk h
  unfold tX3_node at h; split at h
  · obtain ⟨c, M, rfl, -⟩ := h
    exact ⟨_, _, _, rfl, rfl⟩
  · exact h.elim
set_option maxRecDepth 20000 in
theorem okX3_node (l : Launch) : OK l yX3_node cX3_node 6 (some .int) 3 tX3_node := by
  intro D τ ρ A as σ post h
  unfold tX3_node at h; split at h
  · rename_i a b d e; obtain ⟨c, M, rfl, hw⟩ := h
    refine met_of (P := pgX3_node) (CE := ceX3_node) (cut := cutX3_node) (by decide) kkX3_node (coX3_node l) (Nat.le_of_ble_eq_true rfl) ?_
    intro G hG
    unfold wX3_node at hw
    refine lbX3_node_0 hG c M a b d e (mbX3_node_0 ?_  hw)
    · exact fun _ _ h => ⟨trivial, h⟩
  · exact h.elim
def bX3_role_0 (c : CS) (a : Int32) (b : Int32) (kr : Int32 → CS → Prop)  : Prop :=
  (if a < 0 then
    kr (-2 : Int32) c
  else
    (if ((2 : Int32) + (c.1 0)) ≤ a then
      kr (-2 : Int32) c
    else
      (if a < (5 : Int32) then
        (if b = (-5 : Int32) then
          (vp_in a 5 ∧ (vp_in a 5 ∧ kr (c.2.1 2 a.toNatClampNeg) (gX2_end (setA c 2 (upd (c.2.1 2) a.toNatClampNeg b)) )))
        else
          (if (vX0_has c b) = 0 then
            kr (-1 : Int32) c
          else
            (vp_in a 5 ∧ (vp_in a 5 ∧ kr (c.2.1 2 a.toNatClampNeg) (gX2_end (setA c 2 (upd (c.2.1 2) a.toNatClampNeg b)) )))))
      else
        kr (-2 : Int32) c)))
set_option maxRecDepth 20000 in
theorem mbX3_role_0 {c : CS} {a : Int32} {b : Int32} {kr kq : Int32 → CS → Prop}  (hr : ∀ x X, kr x X → kq x X)  (h : bX3_role_0 c a b kr ) : bX3_role_0 c a b kq  := by
  unfold bX3_role_0 at h ⊢
  by_cases hc : a < 0
  · rw [if_pos hc] at h ⊢
    exact hr _ _ h
  · rw [if_neg hc] at h ⊢
    by_cases hc : ((2 : Int32) + (c.1 0)) ≤ a
    · rw [if_pos hc] at h ⊢
      exact hr _ _ h
    · rw [if_neg hc] at h ⊢
      by_cases hc : a < (5 : Int32)
      · rw [if_pos hc] at h ⊢
        by_cases hc : b = (-5 : Int32)
        · rw [if_pos hc] at h ⊢
          obtain ⟨hi, h⟩ := h
          refine And.intro hi ?_
          obtain ⟨hi, h⟩ := h
          refine And.intro hi ?_
          exact hr _ _ h
        · rw [if_neg hc] at h ⊢
          by_cases hc : (vX0_has c b) = 0
          · rw [if_pos hc] at h ⊢
            exact hr _ _ h
          · rw [if_neg hc] at h ⊢
            obtain ⟨hi, h⟩ := h
            refine And.intro hi ?_
            obtain ⟨hi, h⟩ := h
            refine And.intro hi ?_
            exact hr _ _ h
      · rw [if_neg hc] at h ⊢
        exact hr _ _ h
def wX3_role (c : CS) (a : Int32) (b : Int32) (kr : Int32 → CS → Prop) : Prop := bX3_role_0 c a b kr 
theorem mnX3_role {c : CS} {a : Int32} {b : Int32} {kr kq : Int32 → CS → Prop} (hr : ∀ x X, kr x X → kq x X) (h : wX3_role c a b kr) : wX3_role c a b kq := mbX3_role_0 hr  h
def tX3_role : Tr := fun as σ k => match as with
  | [.ref 0, .int a, .int b] => ∃ (c : CS) (M : aS), σ = wC c ++ M ∧ wX3_role c a b (fun x X => k (some (.int x)) (wC X ++ M))
  | _ => False
def ceX3_role : List (Nat × Nat × Tr) := (2 * 51 + 1, 0 + 1, tX2_end) :: (2 * 69 + 1, 1 + 1, tX0_has) :: []
theorem coX3_role (l : Launch) : CEok l yX3_role.cls 1 ceX3_role := ce_V (ci := 1) (n := 0) rfl (okX2_end l) rcX2_end (mw 147 (by decide +kernel) rfl) (mw 148 (by decide +kernel) rfl) (mw 149 (by decide +kernel) rfl) (mw 3 (by decide +kernel) rfl) (mw 150 (by decide +kernel) rfl) rfl (by decide) ⟨by decide, by decide⟩ (ce_V (ci := 0) (n := 1) rfl (okX0_has l) rcX0_has (mw 184 (by decide +kernel) rfl) (mw 166 (by decide +kernel) rfl) (mw 167 (by decide +kernel) rfl) (mw 2 (by decide +kernel) rfl) (mw 168 (by decide +kernel) rfl) rfl (by decide) ⟨by decide, by decide⟩ (ce_0))
abbrev cutX3_role : List (Nat × List Nat) := []
set_option maxRecDepth 20000 in
set_option maxHeartbeats 4000000 in
theorem lbX3_role_0 {G : Nat → LV → List Value → aS → Prop} {post : Option Value → aS → Prop} (hG : ∀ n b pc lv st σ, seg (0, fun _ => 0) pgX3_role ceX3_role cutX3_role G (fun v σ => rFit (some .int) v ∧ post v σ) n b pc lv st σ → G pc lv st σ) (c : CS) (M : aS) (a : Int32) (b : Int32) (hb : bX3_role_0 c a b (fun x X => rFit (some .int) (some (.int x)) ∧ post (some (.int x)) (wC X ++ M)) ) : G 0 [(0, .ref 0), (1, .int a), (2, .int b)] [] (wC c ++ M) := by
  unfold bX3_role_0 at hb
  refine hG 400 false 0 _ _ _ ?_
  refine And.intro (fun (h : a < 0) => ?_) (fun (h : ¬ a < 0) => ?_)
  · rw [if_pos h] at hb
    exact hb
  · rw [if_neg h] at hb
    refine And.intro (fun (h : ((2 : Int32) + (c.1 0)) ≤ a) => ?_) (fun (h : ¬ ((2 : Int32) + (c.1 0)) ≤ a) => ?_)
    · rw [if_pos h] at hb
      exact hb
    · rw [if_neg h] at hb
      refine And.intro (fun (h : a < (5 : Int32)) => ?_) (fun (h : ¬ a < (5 : Int32)) => ?_)
      · rw [if_pos h] at hb
        refine And.intro (fun (h : b = (-5 : Int32)) => ?_) (fun (h : ¬ b = (-5 : Int32)) => ?_)
        · rw [if_pos h] at hb
          obtain ⟨hi, hb⟩ := hb
          refine And.intro hi ?_
          obtain ⟨hi, hb⟩ := hb
          refine And.intro hi ?_
          refine Exists.intro (setA c 2 (upd (c.2.1 2) a.toNatClampNeg b)) (Exists.intro M ((And.intro rfl (?_))))
          exact hb
        · rw [if_neg h] at hb
          refine Exists.intro c (Exists.intro M ((And.intro rfl (?_))))
          refine And.intro (fun (h : ¬ (vX0_has c b) = 0) => ?_) (fun hq => have h : (vX0_has c b) = 0 := Classical.not_not.mp hq; ?_)
          · rw [if_neg h] at hb
            obtain ⟨hi, hb⟩ := hb
            refine And.intro hi ?_
            obtain ⟨hi, hb⟩ := hb
            refine And.intro hi ?_
            refine Exists.intro (setA c 2 (upd (c.2.1 2) a.toNatClampNeg b)) (Exists.intro M ((And.intro rfl (?_))))
            exact hb
          · rw [if_pos h] at hb
            exact hb
      · rw [if_neg h] at hb
        exact hb
theorem rcX3_role : ∀ as σ kk, tX3_role as σ kk → ∃ a r fs, as = .ref a :: r ∧ σ[a]? = some (.inr (2, fs)) := by
  intro as σ kk h
  unfold tX3_role at h; split at h
  · obtain ⟨c, M, rfl, -⟩ := h
    exact ⟨_, _, _, rfl, rfl⟩
  · exact h.elim
set_option maxRecDepth 20000 in
theorem okX3_role (l : Launch) : OK l yX3_role cX3_role 4 (some .int) 1 tX3_role := by
  intro D τ ρ A as σ post h
  unfold tX3_role at h; split at h
  · rename_i a b; obtain ⟨c, M, rfl, hw⟩ := h
    refine met_of (P := pgX3_role) (CE := ceX3_role) (cut := cutX3_role) (by decide) kkX3_role (coX3_role l) (Nat.le_of_ble_eq_true rfl) ?_
    intro G hG
    unfold wX3_role at hw
    refine lbX3_role_0 hG c M a b (mbX3_role_0 ?_  hw)
    · exact fun _ _ h => ⟨trivial, h⟩
  · exact h.elim
def bX3_begin_0 (c : CS)  (kr : Int32 → CS → Prop) (kc14 : Int32 → Int32 → CS → Prop) : Prop :=
  (if (c.1 0) = 0 then
    kr (-3 : Int32) c
  else
    kc14 (0 : Int32) (0 : Int32) c)
def bX3_begin_14 (c : CS) (l1 : Int32) (l2 : Int32) (kr : Int32 → CS → Prop) (kc14 : Int32 → Int32 → CS → Prop) : Prop :=
  (if (5 : Int32) ≤ l2 then
    (wX0_withParts c l1 (fun r1 X1 => (wX2_start (setI X1 1 r1) ((setI X1 1 r1).1 0) (fun  X2 => (wX3_settle X2 (0 : Int32) (fun  X3 => kr (X3.1 0) X3))))))
  else
    (vp_in l2 5 ∧ (if (c.2.1 2 l2.toNatClampNeg) = (-5 : Int32) then
      kc14 l1 (l2 + (1 : Int32)) c
    else
      (vp_in l2 5 ∧ kc14 (l1 ||| ((1 : Int32) <<< ((c.2.1 2 l2.toNatClampNeg) &&& 31))) (l2 + (1 : Int32)) c))))
set_option maxRecDepth 20000 in
theorem mbX3_begin_0 {c : CS}  {kr kq : Int32 → CS → Prop} {kc14 kd14 : Int32 → Int32 → CS → Prop} (hr : ∀ x X, kr x X → kq x X) (hc14 : ∀ z1 z2 X, kc14 z1 z2 X → kd14 z1 z2 X) (h : bX3_begin_0 c  kr kc14) : bX3_begin_0 c  kq kd14 := by
  unfold bX3_begin_0 at h ⊢
  by_cases hc : (c.1 0) = 0
  · rw [if_pos hc] at h ⊢
    exact hr _ _ h
  · rw [if_neg hc] at h ⊢
    exact hc14 _ _ _ h
set_option maxRecDepth 20000 in
theorem mbX3_begin_14 {c : CS} {l1 : Int32} {l2 : Int32} {kr kq : Int32 → CS → Prop} {kc14 kd14 : Int32 → Int32 → CS → Prop} (hr : ∀ x X, kr x X → kq x X) (hc14 : ∀ z1 z2 X, kc14 z1 z2 X → kd14 z1 z2 X) (h : bX3_begin_14 c l1 l2 kr kc14) : bX3_begin_14 c l1 l2 kq kd14 := by
  unfold bX3_begin_14 at h ⊢
  by_cases hc : (5 : Int32) ≤ l2
  · rw [if_pos hc] at h ⊢
    refine mnX0_withParts ?_ h
    intro r1 X1 h
    refine mnX2_start ?_ h
    intro  X2 h
    refine mnX3_settle ?_ h
    intro  X3 h
    exact hr _ _ h
  · rw [if_neg hc] at h ⊢
    obtain ⟨hi, h⟩ := h
    refine And.intro hi ?_
    by_cases hc : (c.2.1 2 l2.toNatClampNeg) = (-5 : Int32)
    · rw [if_pos hc] at h ⊢
      exact hc14 _ _ _ h
    · rw [if_neg hc] at h ⊢
      obtain ⟨hi, h⟩ := h
      refine And.intro hi ?_
      exact hc14 _ _ _ h
def itX3_begin_14 (kr : Int32 → CS → Prop) : Nat → Int32 → Int32 → CS → Prop
  | 0, _, _, _ => False
  | n + 1, l1, l2, c => bX3_begin_14 c l1 l2 kr (fun z1 z2 X => itX3_begin_14 kr n z1 z2 X)
theorem miX3_begin_14 {kr kq : Int32 → CS → Prop} (hr : ∀ x X, kr x X → kq x X) : ∀ (n : Nat) (z1 : Int32) (z2 : Int32) (X : CS), itX3_begin_14 kr n z1 z2 X → itX3_begin_14 kq n z1 z2 X
  | 0, _, _, _, h => h
  | n + 1, _, _, _, h => mbX3_begin_14 hr (fun _ _ _ h => miX3_begin_14 hr n _ _ _ h) h
def wX3_begin (c : CS)  (kr : Int32 → CS → Prop) : Prop := bX3_begin_0 c  kr (fun z1 z2 X => ∃ N, itX3_begin_14 kr N z1 z2 X)
theorem mnX3_begin {c : CS}  {kr kq : Int32 → CS → Prop} (hr : ∀ x X, kr x X → kq x X) (h : wX3_begin c  kr) : wX3_begin c  kq := mbX3_begin_0 hr (fun _ _ _ h => h.elim fun N h => ⟨N, miX3_begin_14 hr N _ _ _ h⟩) h
def tX3_begin : Tr := fun as σ k => match as with
  | [.ref 0] => ∃ (c : CS) (M : aS), σ = wC c ++ M ∧ wX3_begin c  (fun x X => k (some (.int x)) (wC X ++ M))
  | _ => False
def ceX3_begin : List (Nat × Nat × Tr) := (2 * 72 + 1, 1 + 1, tX0_withParts) :: (2 * 76 + 1, 2 + 1, tX2_start) :: (2 * 80 + 1, 1 + 1, tX3_settle) :: []
theorem coX3_begin (l : Launch) : CEok l yX3_begin.cls 8 ceX3_begin := ce_V (ci := 0) (n := 1) rfl (okX0_withParts l) rcX0_withParts (mw 189 (by decide +kernel) rfl) (mw 190 (by decide +kernel) rfl) (mw 191 (by decide +kernel) rfl) (mw 2 (by decide +kernel) rfl) (mw 192 (by decide +kernel) rfl) rfl (by decide) ⟨by decide, by decide⟩ (ce_V (ci := 1) (n := 2) rfl (okX2_start l) rcX2_start (mw 193 (by decide +kernel) rfl) (mw 194 (by decide +kernel) rfl) (mw 195 (by decide +kernel) rfl) (mw 3 (by decide +kernel) rfl) (mw 196 (by decide +kernel) rfl) rfl (by decide) ⟨by decide, by decide⟩ (ce_V (ci := 2) (n := 1) rfl (okX3_settle l) rcX3_settle (mw 197 (by decide +kernel) rfl) (mw 199 (by decide +kernel) rfl) (ms 1 (by decide +kernel) rfl) (mw 1 (by decide +kernel) rfl) (mw 200 (by decide +kernel) rfl) rfl (by decide) ⟨by decide, by decide⟩ (ce_0)))
abbrev cutX3_begin : List (Nat × List Nat) := [(14, [0, 1, 2])]
set_option maxRecDepth 20000 in
set_option maxHeartbeats 4000000 in
theorem lbX3_begin_0 {G : Nat → LV → List Value → aS → Prop} {post : Option Value → aS → Prop} (hG : ∀ n b pc lv st σ, seg (0, fun _ => 0) pgX3_begin ceX3_begin cutX3_begin G (fun v σ => rFit (some .int) v ∧ post v σ) n b pc lv st σ → G pc lv st σ) (c : CS) (M : aS)  (hb : bX3_begin_0 c  (fun x X => rFit (some .int) (some (.int x)) ∧ post (some (.int x)) (wC X ++ M)) (fun z1 z2 X => G 14 [(0, .ref 0), (1, .int z1), (2, .int z2)] [] (wC X ++ M))) : G 0 [(0, .ref 0)] [] (wC c ++ M) := by
  unfold bX3_begin_0 at hb
  refine hG 400 false 0 _ _ _ ?_
  refine And.intro (fun (h : ¬ (c.1 0) = 0) => ?_) (fun hq => have h : (c.1 0) = 0 := Classical.not_not.mp hq; ?_)
  · rw [if_neg h] at hb
    exact hb
  · rw [if_pos h] at hb
    exact hb
set_option maxRecDepth 20000 in
set_option maxHeartbeats 4000000 in
theorem lbX3_begin_14 {G : Nat → LV → List Value → aS → Prop} {post : Option Value → aS → Prop} (hG : ∀ n b pc lv st σ, seg (0, fun _ => 0) pgX3_begin ceX3_begin cutX3_begin G (fun v σ => rFit (some .int) v ∧ post v σ) n b pc lv st σ → G pc lv st σ) (c : CS) (M : aS) (l1 : Int32) (l2 : Int32) (hb : bX3_begin_14 c l1 l2 (fun x X => rFit (some .int) (some (.int x)) ∧ post (some (.int x)) (wC X ++ M)) (fun z1 z2 X => G 14 [(0, .ref 0), (1, .int z1), (2, .int z2)] [] (wC X ++ M))) : G 14 [(0, .ref 0), (1, .int l1), (2, .int l2)] [] (wC c ++ M) := by
  unfold bX3_begin_14 at hb
  refine hG 400 false 14 _ _ _ ?_
  refine And.intro (fun (h : (5 : Int32) ≤ l2) => ?_) (fun (h : ¬ (5 : Int32) ≤ l2) => ?_)
  · rw [if_pos h] at hb
    refine Exists.intro c (Exists.intro M ((And.intro rfl (mnX0_withParts ?_ hb))))
    intro r1 X1 hb
    refine Exists.intro (setI X1 1 r1) (Exists.intro M ((And.intro rfl (mnX2_start ?_ hb))))
    intro  X2 hb
    refine Exists.intro X2 (Exists.intro M ((And.intro rfl (mnX3_settle ?_ hb))))
    intro  X3 hb
    exact hb
  · rw [if_neg h] at hb
    obtain ⟨hi, hb⟩ := hb
    refine And.intro hi ?_
    refine And.intro (fun (h : (c.2.1 2 l2.toNatClampNeg) = (-5 : Int32)) => ?_) (fun (h : ¬ (c.2.1 2 l2.toNatClampNeg) = (-5 : Int32)) => ?_)
    · rw [if_pos h] at hb
      exact hb
    · rw [if_neg h] at hb
      obtain ⟨hi, hb⟩ := hb
      refine And.intro hi ?_
      exact hb
theorem giX3_begin_14 {G : Nat → LV → List Value → aS → Prop} {post : Option Value → aS → Prop} (hG : ∀ n b pc lv st σ, seg (0, fun _ => 0) pgX3_begin ceX3_begin cutX3_begin G (fun v σ => rFit (some .int) v ∧ post v σ) n b pc lv st σ → G pc lv st σ) (M : aS) : ∀ (n : Nat) (z1 : Int32) (z2 : Int32) (X : CS), itX3_begin_14 (fun x X => rFit (some .int) (some (.int x)) ∧ post (some (.int x)) (wC X ++ M)) n z1 z2 X → G 14 [(0, .ref 0), (1, .int z1), (2, .int z2)] [] (wC X ++ M)
  | 0, _, _, _, h => h.elim
  | n + 1, _, _, _, h => lbX3_begin_14 hG _ M _ _ (mbX3_begin_14 (fun _ _ h => h) (fun _ _ _ h => giX3_begin_14 hG M n _ _ _ h) h)
theorem rcX3_begin : ∀ as σ kk, tX3_begin as σ kk → ∃ a r fs, as = .ref a :: r ∧ σ[a]? = some (.inr (2, fs)) := by
  intro as σ kk h
  unfold tX3_begin at h; split at h
  · obtain ⟨c, M, rfl, -⟩ := h
    exact ⟨_, _, _, rfl, rfl⟩
  · exact h.elim
set_option maxRecDepth 20000 in
theorem okX3_begin (l : Launch) : OK l yX3_begin cX3_begin 3 (some .int) 8 tX3_begin := by
  intro D τ ρ A as σ post h
  unfold tX3_begin at h; split at h
  · obtain ⟨c, M, rfl, hw⟩ := h
    refine met_of (P := pgX3_begin) (CE := ceX3_begin) (cut := cutX3_begin) (by decide) kkX3_begin (coX3_begin l) (Nat.le_of_ble_eq_true rfl) ?_
    intro G hG
    unfold wX3_begin at hw
    refine lbX3_begin_0 hG c M  (mbX3_begin_0 ?_ ?_ hw)
    · exact fun _ _ h => ⟨trivial, h⟩
    · intro _ _ _ ⟨N, h⟩; exact giX3_begin_14 hG M N _ _ _ (miX3_begin_14 (fun _ _ h => ⟨trivial, h⟩) N _ _ _ h)
  · exact h.elim
