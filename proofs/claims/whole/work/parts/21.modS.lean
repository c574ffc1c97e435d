def bJxe99ae_isNaN_b9ae7_0 (a : UInt64) (kr : Int32 → Prop)  : Prop :=
  (if (Op.cmpValue (FP.dcmp a a) .l) = 0 then
    kr (0 : Int32) 
  else
    kr (1 : Int32) )
set_option maxRecDepth 20000 in
theorem mbJxe99ae_isNaN_b9ae7_0 {a : UInt64} {kr kq : Int32 → Prop}  (hr : ∀ x , (x = 0 ∨ x = 1) → kr x  → kq x )  (h : bJxe99ae_isNaN_b9ae7_0 a kr ) : bJxe99ae_isNaN_b9ae7_0 a kq  := by
  unfold bJxe99ae_isNaN_b9ae7_0 at h ⊢
  by_cases hc : (Op.cmpValue (FP.dcmp a a) .l) = 0
  · rw [if_pos hc] at h ⊢
    exact hr _ (Or.inl rfl) h
  · rw [if_neg hc] at h ⊢
    exact hr _ (Or.inr rfl) h
def wJxe99ae_isNaN_b9ae7 (a : UInt64) (kr : Int32 → Prop) : Prop := bJxe99ae_isNaN_b9ae7_0 a kr 
theorem mnJxe99ae_isNaN_b9ae7 {a : UInt64} {kr kq : Int32 → Prop} (hr : ∀ x , (x = 0 ∨ x = 1) → kr x  → kq x ) (h : wJxe99ae_isNaN_b9ae7 a kr) : wJxe99ae_isNaN_b9ae7 a kq := mbJxe99ae_isNaN_b9ae7_0 hr  h
def tJxe99ae_isNaN_b9ae7 : Tr := fun as σ k => match as with
  | [.double a] => True ∧ wJxe99ae_isNaN_b9ae7 a (fun x  => k (some (.int x)) (σ))
  | _ => False
def ceJxe99ae_isNaN_b9ae7 : List (Nat × Nat × Tr) := []
theorem coJxe99ae_isNaN_b9ae7 (l : Launch) : CEok l yJxe99ae_isNaN_b9ae7.cls 0 ceJxe99ae_isNaN_b9ae7 := ce_0
abbrev cutJxe99ae_isNaN_b9ae7 : List (Nat × List Nat) := []
set_option maxRecDepth 20000 in
set_option maxHeartbeats 4000000 in
theorem lbJxe99ae_isNaN_b9ae7_0 {G : Nat → LV → List Value → aS → Prop} {post : Option Value → aS → Prop} (hG : ∀ n b pc lv st σ, seg (0, fun _ => 0) pgJxe99ae_isNaN_b9ae7 ceJxe99ae_isNaN_b9ae7 cutJxe99ae_isNaN_b9ae7 G (fun v σ => rFit (some .boolean) v ∧ post v σ) n b pc lv st σ → G pc lv st σ) (σ : aS) (a : UInt64) (hb : bJxe99ae_isNaN_b9ae7_0 a (fun x  => rFit (some .boolean) (some (.int x)) ∧ post (some (.int x)) (σ)) ) : G 0 [(0, .double a)] [] (σ) := by
  unfold bJxe99ae_isNaN_b9ae7_0 at hb
  refine hG 400 false 0 _ _ _ ?_
  refine And.intro (fun (h : (Op.cmpValue (FP.dcmp a a) .l) = 0) => ?_) (fun (h : ¬ (Op.cmpValue (FP.dcmp a a) .l) = 0) => ?_)
  · rw [if_pos h] at hb
    exact hb
  · rw [if_neg h] at hb
    exact hb
set_option maxRecDepth 20000 in
theorem okJxe99ae_isNaN_b9ae7 (l : Launch) : OK l yJxe99ae_isNaN_b9ae7 cJxe99ae_isNaN_b9ae7 2 (some .boolean) 0 tJxe99ae_isNaN_b9ae7 := by
  intro D τ ρ A as σ post h
  unfold tJxe99ae_isNaN_b9ae7 at h; split at h
  · rename_i a; have hw := h.2
    refine met_of (P := pgJxe99ae_isNaN_b9ae7) (CE := ceJxe99ae_isNaN_b9ae7) (cut := cutJxe99ae_isNaN_b9ae7) (by decide) kkJxe99ae_isNaN_b9ae7 (coJxe99ae_isNaN_b9ae7 l) (Nat.le_of_ble_eq_true rfl) ?_
    intro G hG
    unfold wJxe99ae_isNaN_b9ae7 at hw
    refine lbJxe99ae_isNaN_b9ae7_0 hG σ a (mbJxe99ae_isNaN_b9ae7_0 ?_  hw)
    · exact fun _ hf h => ⟨hf, h⟩
  · exact h.elim
def bJxe99ae_doubleToLongBits_ccdee_0 (a : UInt64) (kr : Int64 → Prop)  : Prop :=
  (wJxe99ae_isNaN_b9ae7 a (fun r1 => (if r1 = 0 then
    kr a.toInt64 
  else
    kr (9221120237041090560 : Int64) )))
set_option maxRecDepth 20000 in
theorem mbJxe99ae_doubleToLongBits_ccdee_0 {a : UInt64} {kr kq : Int64 → Prop}  (hr : ∀ x , kr x  → kq x )  (h : bJxe99ae_doubleToLongBits_ccdee_0 a kr ) : bJxe99ae_doubleToLongBits_ccdee_0 a kq  := by
  unfold bJxe99ae_doubleToLongBits_ccdee_0 at h ⊢
  refine mnJxe99ae_isNaN_b9ae7 ?_ h
  intro r1 _ h
  by_cases hc : r1 = 0
  · rw [if_pos hc] at h ⊢
    exact hr _ h
  · rw [if_neg hc] at h ⊢
    exact hr _ h
def wJxe99ae_doubleToLongBits_ccdee (a : UInt64) (kr : Int64 → Prop) : Prop := bJxe99ae_doubleToLongBits_ccdee_0 a kr 
theorem mnJxe99ae_doubleToLongBits_ccdee {a : UInt64} {kr kq : Int64 → Prop} (hr : ∀ x , kr x  → kq x ) (h : wJxe99ae_doubleToLongBits_ccdee a kr) : wJxe99ae_doubleToLongBits_ccdee a kq := mbJxe99ae_doubleToLongBits_ccdee_0 hr  h
def tJxe99ae_doubleToLongBits_ccdee : Tr := fun as σ k => match as with
  | [.double a] => True ∧ wJxe99ae_doubleToLongBits_ccdee a (fun x  => k (some (.long x)) (σ))
  | _ => False
def ceJxe99ae_doubleToLongBits_ccdee : List (Nat × Nat × Tr) := (2 * 122, 1, tJxe99ae_isNaN_b9ae7) :: (2 * 134, 1, tD2L) :: []
theorem coJxe99ae_doubleToLongBits_ccdee (l : Launch) : CEok l yJxe99ae_doubleToLongBits_ccdee.cls 1 ceJxe99ae_doubleToLongBits_ccdee := ce_S (okJxe99ae_isNaN_b9ae7 l) (mw 778 (by decide +kernel) rfl) (mw 779 (by decide +kernel) rfl) (mw 6 (by decide +kernel) rfl) (mw 780 (by decide +kernel) rfl) (by decide) ⟨by decide, by decide⟩ (ce_D2L (mw 781 (by decide +kernel) rfl) (by decide) (ce_0))
abbrev cutJxe99ae_doubleToLongBits_ccdee : List (Nat × List Nat) := []
set_option maxRecDepth 20000 in
set_option maxHeartbeats 4000000 in
theorem lbJxe99ae_doubleToLongBits_ccdee_0 {G : Nat → LV → List Value → aS → Prop} {post : Option Value → aS → Prop} (hG : ∀ n b pc lv st σ, seg (0, fun _ => 0) pgJxe99ae_doubleToLongBits_ccdee ceJxe99ae_doubleToLongBits_ccdee cutJxe99ae_doubleToLongBits_ccdee G (fun v σ => rFit (some .long) v ∧ post v σ) n b pc lv st σ → G pc lv st σ) (σ : aS) (a : UInt64) (hb : bJxe99ae_doubleToLongBits_ccdee_0 a (fun x  => rFit (some .long) (some (.long x)) ∧ post (some (.long x)) (σ)) ) : G 0 [(0, .double a)] [] (σ) := by
  unfold bJxe99ae_doubleToLongBits_ccdee_0 at hb
  refine hG 400 false 0 _ _ _ ?_
  refine And.intro trivial (mnJxe99ae_isNaN_b9ae7 ?_ hb)
  intro r1 _ hb
  refine And.intro (fun (h : ¬ r1 = 0) => ?_) (fun hq => have h : r1 = 0 := Classical.not_not.mp hq; ?_)
  · rw [if_neg h] at hb
    exact hb
  · rw [if_pos h] at hb
    exact hb
set_option maxRecDepth 20000 in
theorem okJxe99ae_doubleToLongBits_ccdee (l : Launch) : OK l yJxe99ae_doubleToLongBits_ccdee cJxe99ae_doubleToLongBits_ccdee 2 (some .long) 1 tJxe99ae_doubleToLongBits_ccdee := by
  intro D τ ρ A as σ post h
  unfold tJxe99ae_doubleToLongBits_ccdee at h; split at h
  · rename_i a; have hw := h.2
    refine met_of (P := pgJxe99ae_doubleToLongBits_ccdee) (CE := ceJxe99ae_doubleToLongBits_ccdee) (cut := cutJxe99ae_doubleToLongBits_ccdee) (by decide) kkJxe99ae_doubleToLongBits_ccdee (coJxe99ae_doubleToLongBits_ccdee l) (Nat.le_of_ble_eq_true rfl) ?_
    intro G hG
    unfold wJxe99ae_doubleToLongBits_ccdee at hw
    refine lbJxe99ae_doubleToLongBits_ccdee_0 hG σ a (mbJxe99ae_doubleToLongBits_ccdee_0 ?_  hw)
    · exact fun _ h => ⟨trivial, h⟩
  · exact h.elim
def bX4_in_0 (a : Int32) (b : Int32) (d : Int32) (kr : Int32 → Prop)  : Prop :=
  (if a < b then
    kr (0 : Int32) 
  else
    (if d < a then
      kr (0 : Int32) 
    else
      kr (1 : Int32) ))
set_option maxRecDepth 20000 in
theorem mbX4_in_0 {a : Int32} {b : Int32} {d : Int32} {kr kq : Int32 → Prop}  (hr : ∀ x , (x = 0 ∨ x = 1) → kr x  → kq x )  (h : bX4_in_0 a b d kr ) : bX4_in_0 a b d kq  := by
  unfold bX4_in_0 at h ⊢
  by_cases hc : a < b
  · rw [if_pos hc] at h ⊢
    exact hr _ (Or.inl rfl) h
  · rw [if_neg hc] at h ⊢
    by_cases hc : d < a
    · rw [if_pos hc] at h ⊢
      exact hr _ (Or.inl rfl) h
    · rw [if_neg hc] at h ⊢
      exact hr _ (Or.inr rfl) h
def wX4_in (a : Int32) (b : Int32) (d : Int32) (kr : Int32 → Prop) : Prop := bX4_in_0 a b d kr 
theorem mnX4_in {a : Int32} {b : Int32} {d : Int32} {kr kq : Int32 → Prop} (hr : ∀ x , (x = 0 ∨ x = 1) → kr x  → kq x ) (h : wX4_in a b d kr) : wX4_in a b d kq := mbX4_in_0 hr  h
def tX4_in : Tr := fun as σ k => match as with
  | [.int a, .int b, .int d] => True ∧ wX4_in a b d (fun x  => k (some (.int x)) (σ))
  | _ => False
def ceX4_in : List (Nat × Nat × Tr) := []
theorem coX4_in (l : Launch) : CEok l yX4_in.cls 0 ceX4_in := ce_0
abbrev cutX4_in : List (Nat × List Nat) := []
set_option maxRecDepth 20000 in
set_option maxHeartbeats 4000000 in
theorem lbX4_in_0 {G : Nat → LV → List Value → aS → Prop} {post : Option Value → aS → Prop} (hG : ∀ n b pc lv st σ, seg (0, fun _ => 0) pgX4_in ceX4_in cutX4_in G (fun v σ => rFit (some .boolean) v ∧ post v σ) n b pc lv st σ → G pc lv st σ) (σ : aS) (a : Int32) (b : Int32) (d : Int32) (hb : bX4_in_0 a b d (fun x  => rFit (some .boolean) (some (.int x)) ∧ post (some (.int x)) (σ)) ) : G 0 [(0, .int a), (1, .int b), (2, .int d)] [] (σ) := by
  unfold bX4_in_0 at hb
  refine hG 400 false 0 _ _ _ ?_
  refine And.intro (fun (h : a < b) => ?_) (fun (h : ¬ a < b) => ?_)
  · rw [if_pos h] at hb
    exact hb
  · rw [if_neg h] at hb
    refine And.intro (fun (h : d < a) => ?_) (fun (h : ¬ d < a) => ?_)
    · rw [if_pos h] at hb
      exact hb
    · rw [if_neg h] at hb
      exact hb
set_option maxRecDepth 20000 in
theorem okX4_in (l : Launch) : OK l yX4_in cX4_in 3 (some .boolean) 0 tX4_in := by
  intro D τ ρ A as σ post h
  unfold tX4_in at h; split at h
  · rename_i a b d; have hw := h.2
    refine met_of (P := pgX4_in) (CE := ceX4_in) (cut := cutX4_in) (by decide) kkX4_in (coX4_in l) (Nat.le_of_ble_eq_true rfl) ?_
    intro G hG
    unfold wX4_in at hw
    refine lbX4_in_0 hG σ a b d (mbX4_in_0 ?_  hw)
    · exact fun _ hf h => ⟨hf, h⟩
  · exact h.elim
def bX4_bits_0 (a : UInt64) (kr : Int64 → Prop)  : Prop :=
  (wJxe99ae_doubleToLongBits_ccdee a (fun r1 => kr r1 ))
set_option maxRecDepth 20000 in
theorem mbX4_bits_0 {a : UInt64} {kr kq : Int64 → Prop}  (hr : ∀ x , kr x  → kq x )  (h : bX4_bits_0 a kr ) : bX4_bits_0 a kq  := by
  unfold bX4_bits_0 at h ⊢
  refine mnJxe99ae_doubleToLongBits_ccdee ?_ h
  intro r1 h
  exact hr _ h
def wX4_bits (a : UInt64) (kr : Int64 → Prop) : Prop := bX4_bits_0 a kr 
theorem mnX4_bits {a : UInt64} {kr kq : Int64 → Prop} (hr : ∀ x , kr x  → kq x ) (h : wX4_bits a kr) : wX4_bits a kq := mbX4_bits_0 hr  h
def tX4_bits : Tr := fun as σ k => match as with
  | [.double a] => True ∧ wX4_bits a (fun x  => k (some (.long x)) (σ))
  | _ => False
def ceX4_bits : List (Nat × Nat × Tr) := (2 * 60, 1, tJxe99ae_doubleToLongBits_ccdee) :: []
theorem coX4_bits (l : Launch) : CEok l yX4_bits.cls 2 ceX4_bits := ce_S (okJxe99ae_doubleToLongBits_ccdee l) (mw 775 (by decide +kernel) rfl) (mw 776 (by decide +kernel) rfl) (mw 6 (by decide +kernel) rfl) (mw 777 (by decide +kernel) rfl) (by decide) ⟨by decide, by decide⟩ (ce_0)
abbrev cutX4_bits : List (Nat × List Nat) := []
set_option maxRecDepth 20000 in
set_option maxHeartbeats 4000000 in
theorem lbX4_bits_0 {G : Nat → LV → List Value → aS → Prop} {post : Option Value → aS → Prop} (hG : ∀ n b pc lv st σ, seg (0, fun _ => 0) pgX4_bits ceX4_bits cutX4_bits G (fun v σ => rFit (some .long) v ∧ post v σ) n b pc lv st σ → G pc lv st σ) (σ : aS) (a : UInt64) (hb : bX4_bits_0 a (fun x  => rFit (some .long) (some (.long x)) ∧ post (some (.long x)) (σ)) ) : G 0 [(0, .double a)] [] (σ) := by
  unfold bX4_bits_0 at hb
  refine hG 400 false 0 _ _ _ ?_
  refine And.intro trivial (mnJxe99ae_doubleToLongBits_ccdee ?_ hb)
  intro r1 hb
  exact hb
set_option maxRecDepth 20000 in
theorem okX4_bits (l : Launch) : OK l yX4_bits cX4_bits 2 (some .long) 2 tX4_bits := by
  intro D τ ρ A as σ post h
  unfold tX4_bits at h; split at h
  · rename_i a; have hw := h.2
    refine met_of (P := pgX4_bits) (CE := ceX4_bits) (cut := cutX4_bits) (by decide) kkX4_bits (coX4_bits l) (Nat.le_of_ble_eq_true rfl) ?_
    intro G hG
    unfold wX4_bits at hw
    refine lbX4_bits_0 hG σ a (mbX4_bits_0 ?_  hw)
    · exact fun _ h => ⟨trivial, h⟩
  · exact h.elim
def bX4_of_0 (a : Int64) (kr : UInt64 → Prop)  : Prop :=
  (if (lg_cmp (a &&& (9223372036854775807 : Int64)) (9218868437227405312 : Int64)) ≤ 0 then
    (vn_snl2d a = false ∧ kr a.toUInt64 )
  else
    kr (9221120237041090560 : UInt64) )
set_option maxRecDepth 20000 in
theorem mbX4_of_0 {a : Int64} {kr kq : UInt64 → Prop}  (hr : ∀ x , kr x  → kq x )  (h : bX4_of_0 a kr ) : bX4_of_0 a kq  := by
  unfold bX4_of_0 at h ⊢
  by_cases hc : (lg_cmp (a &&& (9223372036854775807 : Int64)) (9218868437227405312 : Int64)) ≤ 0
  · rw [if_pos hc] at h ⊢
    obtain ⟨hi, h⟩ := h
    refine And.intro hi ?_
    exact hr _ h
  · rw [if_neg hc] at h ⊢
    exact hr _ h
def wX4_of (a : Int64) (kr : UInt64 → Prop) : Prop := bX4_of_0 a kr 
theorem mnX4_of {a : Int64} {kr kq : UInt64 → Prop} (hr : ∀ x , kr x  → kq x ) (h : wX4_of a kr) : wX4_of a kq := mbX4_of_0 hr  h
def tX4_of : Tr := fun as σ k => match as with
  | [.long a] => True ∧ wX4_of a (fun x  => k (some (.double x)) (σ))
  | _ => False
def ceX4_of : List (Nat × Nat × Tr) := (2 * 72, 1, tL2D) :: []
theorem coX4_of (l : Launch) : CEok l yX4_of.cls 1 ceX4_of := ce_L2D (mw 713 (by decide +kernel) rfl) (by decide) (ce_0)
abbrev cutX4_of : List (Nat × List Nat) := []
set_option maxRecDepth 20000 in
set_option maxHeartbeats 4000000 in
theorem lbX4_of_0 {G : Nat → LV → List Value → aS → Prop} {post : Option Value → aS → Prop} (hG : ∀ n b pc lv st σ, seg (0, fun _ => 0) pgX4_of ceX4_of cutX4_of G (fun v σ => rFit (some .double) v ∧ post v σ) n b pc lv st σ → G pc lv st σ) (σ : aS) (a : Int64) (hb : bX4_of_0 a (fun x  => rFit (some .double) (some (.double x)) ∧ post (some (.double x)) (σ)) ) : G 0 [(0, .long a)] [] (σ) := by
  unfold bX4_of_0 at hb
  refine hG 400 false 0 _ _ _ ?_
  refine And.intro (fun (h : (lg_cmp (a &&& (9223372036854775807 : Int64)) (9218868437227405312 : Int64)) ≤ 0) => ?_) (fun (h : ¬ (lg_cmp (a &&& (9223372036854775807 : Int64)) (9218868437227405312 : Int64)) ≤ 0) => ?_)
  · rw [if_pos h] at hb
    obtain ⟨hi, hb⟩ := hb
    refine And.intro hi ?_
    exact hb
  · rw [if_neg h] at hb
    exact hb
set_option maxRecDepth 20000 in
theorem okX4_of (l : Launch) : OK l yX4_of cX4_of 2 (some .double) 1 tX4_of := by
  intro D τ ρ A as σ post h
  unfold tX4_of at h; split at h
  · rename_i a; have hw := h.2
    refine met_of (P := pgX4_of) (CE := ceX4_of) (cut := cutX4_of) (by decide) kkX4_of (coX4_of l) (Nat.le_of_ble_eq_true rfl) ?_
    intro G hG
    unfold wX4_of at hw
    refine lbX4_of_0 hG σ a (mbX4_of_0 ?_  hw)
    · exact fun _ h => ⟨trivial, h⟩
  · exact h.elim
def bX4_isNot_0 (a : UInt64) (kr : Int32 → Prop)  : Prop :=
  (if (Op.cmpValue (FP.dcmp a a) .l) = 0 then
    kr (0 : Int32) 
  else
    kr (1 : Int32) )
set_option maxRecDepth 20000 in
theorem mbX4_isNot_0 {a : UInt64} {kr kq : Int32 → Prop}  (hr : ∀ x , (x = 0 ∨ x = 1) → kr x  → kq x )  (h : bX4_isNot_0 a kr ) : bX4_isNot_0 a kq  := by
  unfold bX4_isNot_0 at h ⊢
  by_cases hc : (Op.cmpValue (FP.dcmp a a) .l) = 0
  · rw [if_pos hc] at h ⊢
    exact hr _ (Or.inl rfl) h
  · rw [if_neg hc] at h ⊢
    exact hr _ (Or.inr rfl) h
def wX4_isNot (a : UInt64) (kr : Int32 → Prop) : Prop := bX4_isNot_0 a kr 
theorem mnX4_isNot {a : UInt64} {kr kq : Int32 → Prop} (hr : ∀ x , (x = 0 ∨ x = 1) → kr x  → kq x ) (h : wX4_isNot a kr) : wX4_isNot a kq := mbX4_isNot_0 hr  h
def tX4_isNot : Tr := fun as σ k => match as with
  | [.double a] => True ∧ wX4_isNot a (fun x  => k (some (.int x)) (σ))
  | _ => False
def ceX4_isNot : List (Nat × Nat × Tr) := []
theorem coX4_isNot (l : Launch) : CEok l yX4_isNot.cls 0 ceX4_isNot := ce_0
abbrev cutX4_isNot : List (Nat × List Nat) := []
set_option maxRecDepth 20000 in
set_option maxHeartbeats 4000000 in
theorem lbX4_isNot_0 {G : Nat → LV → List Value → aS → Prop} {post : Option Value → aS → Prop} (hG : ∀ n b pc lv st σ, seg (0, fun _ => 0) pgX4_isNot ceX4_isNot cutX4_isNot G (fun v σ => rFit (some .boolean) v ∧ post v σ) n b pc lv st σ → G pc lv st σ) (σ : aS) (a : UInt64) (hb : bX4_isNot_0 a (fun x  => rFit (some .boolean) (some (.int x)) ∧ post (some (.int x)) (σ)) ) : G 0 [(0, .double a)] [] (σ) := by
  unfold bX4_isNot_0 at hb
  refine hG 400 false 0 _ _ _ ?_
  refine And.intro (fun (h : (Op.cmpValue (FP.dcmp a a) .l) = 0) => ?_) (fun (h : ¬ (Op.cmpValue (FP.dcmp a a) .l) = 0) => ?_)
  · rw [if_pos h] at hb
    exact hb
  · rw [if_neg h] at hb
    exact hb
set_option maxRecDepth 20000 in
theorem okX4_isNot (l : Launch) : OK l yX4_isNot cX4_isNot 2 (some .boolean) 0 tX4_isNot := by
  intro D τ ρ A as σ post h
  unfold tX4_isNot at h; split at h
  · rename_i a; have hw := h.2
    refine met_of (P := pgX4_isNot) (CE := ceX4_isNot) (cut := cutX4_isNot) (by decide) kkX4_isNot (coX4_isNot l) (Nat.le_of_ble_eq_true rfl) ?_
    intro G hG
    unfold wX4_isNot at hw
    refine lbX4_isNot_0 hG σ a (mbX4_isNot_0 ?_  hw)
    · exact fun _ hf h => ⟨hf, h⟩
  · exact h.elim
def bX4_up_0 (a : UInt64) (kr : UInt64 → Prop)  : Prop :=
  (if (Op.cmpValue (FP.dcmp a a) .l) = 0 then
    (if (Op.cmpValue (FP.dcmp a (9218868437227405312 : UInt64)) .l) = 0 then
      kr a 
    else
      (if (Op.cmpValue (FP.dcmp a (FP.dconst0 : UInt64)) .l) = 0 then
        (wX4_of (1 : Int64) (fun r5 => kr r5 ))
      else
        (if (Op.cmpValue (FP.dcmp a (FP.dconst0 : UInt64)) .l) ≤ 0 then
          (wX4_bits a (fun r1 => (wX4_of (r1 - (1 : Int64)) (fun r2 => kr r2 ))))
        else
          (wX4_bits a (fun r3 => (wX4_of (r3 + (1 : Int64)) (fun r4 => kr r4 )))))))
  else
    kr a )
set_option maxRecDepth 20000 in
theorem mbX4_up_0 {a : UInt64} {kr kq : UInt64 → Prop}  (hr : ∀ x , kr x  → kq x )  (h : bX4_up_0 a kr ) : bX4_up_0 a kq  := by
  unfold bX4_up_0 at h ⊢
  by_cases hc : (Op.cmpValue (FP.dcmp a a) .l) = 0
  · rw [if_pos hc] at h ⊢
    by_cases hc : (Op.cmpValue (FP.dcmp a (9218868437227405312 : UInt64)) .l) = 0
    · rw [if_pos hc] at h ⊢
      exact hr _ h
    · rw [if_neg hc] at h ⊢
      by_cases hc : (Op.cmpValue (FP.dcmp a (FP.dconst0 : UInt64)) .l) = 0
      · rw [if_pos hc] at h ⊢
        refine mnX4_of ?_ h
        intro r5 h
        exact hr _ h
      · rw [if_neg hc] at h ⊢
        by_cases hc : (Op.cmpValue (FP.dcmp a (FP.dconst0 : UInt64)) .l) ≤ 0
        · rw [if_pos hc] at h ⊢
          refine mnX4_bits ?_ h
          intro r1 h
          refine mnX4_of ?_ h
          intro r2 h
          exact hr _ h
        · rw [if_neg hc] at h ⊢
          refine mnX4_bits ?_ h
          intro r3 h
          refine mnX4_of ?_ h
          intro r4 h
          exact hr _ h
  · rw [if_neg hc] at h ⊢
    exact hr _ h
def wX4_up (a : UInt64) (kr : UInt64 → Prop) : Prop := bX4_up_0 a kr 
theorem mnX4_up {a : UInt64} {kr kq : UInt64 → Prop} (hr : ∀ x , kr x  → kq x ) (h : wX4_up a kr) : wX4_up a kq := mbX4_up_0 hr  h
def tX4_up : Tr := fun as σ k => match as with
  | [.double a] => True ∧ wX4_up a (fun x  => k (some (.double x)) (σ))
  | _ => False
def ceX4_up : List (Nat × Nat × Tr) := (2 * 81, 1, tX4_bits) :: (2 * 78, 1, tX4_of) :: []
theorem coX4_up (l : Launch) : CEok l yX4_up.cls 3 ceX4_up := ce_S (okX4_bits l) (mw 772 (by decide +kernel) rfl) (mw 773 (by decide +kernel) rfl) (mw 4 (by decide +kernel) rfl) (mw 774 (by decide +kernel) rfl) (by decide) ⟨by decide, by decide⟩ (ce_S (okX4_of l) (mw 707 (by decide +kernel) rfl) (mw 708 (by decide +kernel) rfl) (mw 4 (by decide +kernel) rfl) (mw 709 (by decide +kernel) rfl) (by decide) ⟨by decide, by decide⟩ (ce_0))
abbrev cutX4_up : List (Nat × List Nat) := []
set_option maxRecDepth 20000 in
set_option maxHeartbeats 4000000 in
theorem lbX4_up_0 {G : Nat → LV → List Value → aS → Prop} {post : Option Value → aS → Prop} (hG : ∀ n b pc lv st σ, seg (0, fun _ => 0) pgX4_up ceX4_up cutX4_up G (fun v σ => rFit (some .double) v ∧ post v σ) n b pc lv st σ → G pc lv st σ) (σ : aS) (a : UInt64) (hb : bX4_up_0 a (fun x  => rFit (some .double) (some (.double x)) ∧ post (some (.double x)) (σ)) ) : G 0 [(0, .double a)] [] (σ) := by
  unfold bX4_up_0 at hb
  refine hG 400 false 0 _ _ _ ?_
  refine And.intro (fun (h : ¬ (Op.cmpValue (FP.dcmp a a) .l) = 0) => ?_) (fun hq => have h : (Op.cmpValue (FP.dcmp a a) .l) = 0 := Classical.not_not.mp hq; ?_)
  · rw [if_neg h] at hb
    exact hb
  · rw [if_pos h] at hb
    refine And.intro (fun (h : ¬ (Op.cmpValue (FP.dcmp a (9218868437227405312 : UInt64)) .l) = 0) => ?_) (fun hq => have h : (Op.cmpValue (FP.dcmp a (9218868437227405312 : UInt64)) .l) = 0 := Classical.not_not.mp hq; ?_)
    · rw [if_neg h] at hb
      refine And.intro (fun (h : ¬ (Op.cmpValue (FP.dcmp a (FP.dconst0 : UInt64)) .l) = 0) => ?_) (fun hq => have h : (Op.cmpValue (FP.dcmp a (FP.dconst0 : UInt64)) .l) = 0 := Classical.not_not.mp hq; ?_)
      · rw [if_neg h] at hb
        refine And.intro (fun (h : (Op.cmpValue (FP.dcmp a (FP.dconst0 : UInt64)) .l) ≤ 0) => ?_) (fun (h : ¬ (Op.cmpValue (FP.dcmp a (FP.dconst0 : UInt64)) .l) ≤ 0) => ?_)
        · rw [if_pos h] at hb
          refine And.intro trivial (mnX4_bits ?_ hb)
          intro r1 hb
          refine And.intro trivial (mnX4_of ?_ hb)
          intro r2 hb
          exact hb
        · rw [if_neg h] at hb
          refine And.intro trivial (mnX4_bits ?_ hb)
          intro r3 hb
          refine And.intro trivial (mnX4_of ?_ hb)
          intro r4 hb
          exact hb
      · rw [if_pos h] at hb
        refine And.intro trivial (mnX4_of ?_ hb)
        intro r5 hb
        exact hb
    · rw [if_pos h] at hb
      exact hb
set_option maxRecDepth 20000 in
theorem okX4_up (l : Launch) : OK l yX4_up cX4_up 2 (some .double) 3 tX4_up := by
  intro D τ ρ A as σ post h
  unfold tX4_up at h; split at h
  · rename_i a; have hw := h.2
    refine met_of (P := pgX4_up) (CE := ceX4_up) (cut := cutX4_up) (by decide) kkX4_up (coX4_up l) (Nat.le_of_ble_eq_true rfl) ?_
    intro G hG
    unfold wX4_up at hw
    refine lbX4_up_0 hG σ a (mbX4_up_0 ?_  hw)
    · exact fun _ h => ⟨trivial, h⟩
  · exact h.elim
def bX4_isMinus_0 (a : UInt64) (kr : Int32 → Prop)  : Prop :=
  (wX4_bits a (fun r1 => (if 0 ≤ (lg_cmp r1 (0 : Int64)) then
    kr (0 : Int32) 
  else
    kr (1 : Int32) )))
set_option maxRecDepth 20000 in
theorem mbX4_isMinus_0 {a : UInt64} {kr kq : Int32 → Prop}  (hr : ∀ x , (x = 0 ∨ x = 1) → kr x  → kq x )  (h : bX4_isMinus_0 a kr ) : bX4_isMinus_0 a kq  := by
  unfold bX4_isMinus_0 at h ⊢
  refine mnX4_bits ?_ h
  intro r1 h
  by_cases hc : 0 ≤ (lg_cmp r1 (0 : Int64))
  · rw [if_pos hc] at h ⊢
    exact hr _ (Or.inl rfl) h
  · rw [if_neg hc] at h ⊢
    exact hr _ (Or.inr rfl) h
def wX4_isMinus (a : UInt64) (kr : Int32 → Prop) : Prop := bX4_isMinus_0 a kr 
theorem mnX4_isMinus {a : UInt64} {kr kq : Int32 → Prop} (hr : ∀ x , (x = 0 ∨ x = 1) → kr x  → kq x ) (h : wX4_isMinus a kr) : wX4_isMinus a kq := mbX4_isMinus_0 hr  h
def tX4_isMinus : Tr := fun as σ k => match as with
  | [.double a] => True ∧ wX4_isMinus a (fun x  => k (some (.int x)) (σ))
  | _ => False
def ceX4_isMinus : List (Nat × Nat × Tr) := (2 * 81, 1, tX4_bits) :: []
theorem coX4_isMinus (l : Launch) : CEok l yX4_isMinus.cls 3 ceX4_isMinus := ce_S (okX4_bits l) (mw 772 (by decide +kernel) rfl) (mw 773 (by decide +kernel) rfl) (mw 4 (by decide +kernel) rfl) (mw 774 (by decide +kernel) rfl) (by decide) ⟨by decide, by decide⟩ (ce_0)
abbrev cutX4_isMinus : List (Nat × List Nat) := []
set_option maxRecDepth 20000 in
set_option maxHeartbeats 4000000 in
theorem lbX4_isMinus_0 {G : Nat → LV → List Value → aS → Prop} {post : Option Value → aS → Prop} (hG : ∀ n b pc lv st σ, seg (0, fun _ => 0) pgX4_isMinus ceX4_isMinus cutX4_isMinus G (fun v σ => rFit (some .boolean) v ∧ post v σ) n b pc lv st σ → G pc lv st σ) (σ : aS) (a : UInt64) (hb : bX4_isMinus_0 a (fun x  => rFit (some .boolean) (some (.int x)) ∧ post (some (.int x)) (σ)) ) : G 0 [(0, .double a)] [] (σ) := by
  unfold bX4_isMinus_0 at hb
  refine hG 400 false 0 _ _ _ ?_
  refine And.intro trivial (mnX4_bits ?_ hb)
  intro r1 hb
  refine And.intro (fun (h : 0 ≤ (lg_cmp r1 (0 : Int64))) => ?_) (fun (h : ¬ 0 ≤ (lg_cmp r1 (0 : Int64))) => ?_)
  · rw [if_pos h] at hb
    exact hb
  · rw [if_neg h] at hb
    exact hb
set_option maxRecDepth 20000 in
theorem okX4_isMinus (l : Launch) : OK l yX4_isMinus cX4_isMinus 2 (some .boolean) 3 tX4_isMinus := by
  intro D τ ρ A as σ post h
  unfold tX4_isMinus at h; split at h
  · rename_i a; have hw := h.2
    refine met_of (P := pgX4_isMinus) (CE := ceX4_isMinus) (cut := cutX4_isMinus) (by decide) kkX4_isMinus (coX4_isMinus l) (Nat.le_of_ble_eq_true rfl) ?_
    intro G hG
    unfold wX4_isMinus at hw
    refine lbX4_isMinus_0 hG σ a (mbX4_isMinus_0 ?_  hw)
    · exact fun _ hf h => ⟨hf, h⟩
  · exact h.elim
def bX4_down_0 (a : UInt64) (kr : UInt64 → Prop)  : Prop :=
  (if (Op.cmpValue (FP.dcmp a a) .l) = 0 then
    (wX4_up (FP.dneg a) (fun r1 => kr (FP.dneg r1) ))
  else
    kr a )
set_option maxRecDepth 20000 in
theorem mbX4_down_0 {a : UInt64} {kr kq : UInt64 → Prop}  (hr : ∀ x , kr x  → kq x )  (h : bX4_down_0 a kr ) : bX4_down_0 a kq  := by
  unfold bX4_down_0 at h ⊢
  by_cases hc : (Op.cmpValue (FP.dcmp a a) .l) = 0
  · rw [if_pos hc] at h ⊢
    refine mnX4_up ?_ h
    intro r1 h
    exact hr _ h
  · rw [if_neg hc] at h ⊢
    exact hr _ h
def wX4_down (a : UInt64) (kr : UInt64 → Prop) : Prop := bX4_down_0 a kr 
theorem mnX4_down {a : UInt64} {kr kq : UInt64 → Prop} (hr : ∀ x , kr x  → kq x ) (h : wX4_down a kr) : wX4_down a kq := mbX4_down_0 hr  h
def tX4_down : Tr := fun as σ k => match as with
  | [.double a] => True ∧ wX4_down a (fun x  => k (some (.double x)) (σ))
  | _ => False
def ceX4_down : List (Nat × Nat × Tr) := (2 * 84, 1, tX4_up) :: []
theorem coX4_down (l : Launch) : CEok l yX4_down.cls 4 ceX4_down := ce_S (okX4_up l) (mw 830 (by decide +kernel) rfl) (mw 831 (by decide +kernel) rfl) (mw 4 (by decide +kernel) rfl) (mw 832 (by decide +kernel) rfl) (by decide) ⟨by decide, by decide⟩ (ce_0)
abbrev cutX4_down : List (Nat × List Nat) := []
set_option maxRecDepth 20000 in
set_option maxHeartbeats 4000000 in
theorem lbX4_down_0 {G : Nat → LV → List Value → aS → Prop} {post : Option Value → aS → Prop} (hG : ∀ n b pc lv st σ, seg (0, fun _ => 0) pgX4_down ceX4_down cutX4_down G (fun v σ => rFit (some .double) v ∧ post v σ) n b pc lv st σ → G pc lv st σ) (σ : aS) (a : UInt64) (hb : bX4_down_0 a (fun x  => rFit (some .double) (some (.double x)) ∧ post (some (.double x)) (σ)) ) : G 0 [(0, .double a)] [] (σ) := by
  unfold bX4_down_0 at hb
  refine hG 400 false 0 _ _ _ ?_
  refine And.intro (fun (h : (Op.cmpValue (FP.dcmp a a) .l) = 0) => ?_) (fun (h : ¬ (Op.cmpValue (FP.dcmp a a) .l) = 0) => ?_)
  · rw [if_pos h] at hb
    refine And.intro trivial (mnX4_up ?_ hb)
    intro r1 hb
    exact hb
  · rw [if_neg h] at hb
    exact hb
set_option maxRecDepth 20000 in
theorem okX4_down (l : Launch) : OK l yX4_down cX4_down 2 (some .double) 4 tX4_down := by
  intro D τ ρ A as σ post h
  unfold tX4_down at h; split at h
  · rename_i a; have hw := h.2
    refine met_of (P := pgX4_down) (CE := ceX4_down) (cut := cutX4_down) (by decide) kkX4_down (coX4_down l) (Nat.le_of_ble_eq_true rfl) ?_
    intro G hG
    unfold wX4_down at hw
    refine lbX4_down_0 hG σ a (mbX4_down_0 ?_  hw)
    · exact fun _ h => ⟨trivial, h⟩
  · exact h.elim
def bX4_least_0 (a : UInt64) (b : UInt64) (kr : UInt64 → Prop)  : Prop :=
  (if (Op.cmpValue (FP.dcmp a a) .l) = 0 then
    (if (Op.cmpValue (FP.dcmp b b) .l) = 0 then
      (if (Op.cmpValue (FP.dcmp a b) .g) < 0 then
        kr a 
      else
        (if (Op.cmpValue (FP.dcmp a b) .l) = 0 then
          (wX4_isMinus a (fun r1 => (if r1 = 0 then
            kr b 
          else
            kr a )))
        else
          kr b ))
    else
      kr (9221120237041090560 : UInt64) )
  else
    kr (9221120237041090560 : UInt64) )
set_option maxRecDepth 20000 in
theorem mbX4_least_0 {a : UInt64} {b : UInt64} {kr kq : UInt64 → Prop}  (hr : ∀ x , kr x  → kq x )  (h : bX4_least_0 a b kr ) : bX4_least_0 a b kq  := by
  unfold bX4_least_0 at h ⊢
  by_cases hc : (Op.cmpValue (FP.dcmp a a) .l) = 0
  · rw [if_pos hc] at h ⊢
    by_cases hc : (Op.cmpValue (FP.dcmp b b) .l) = 0
    · rw [if_pos hc] at h ⊢
      by_cases hc : (Op.cmpValue (FP.dcmp a b) .g) < 0
      · rw [if_pos hc] at h ⊢
        exact hr _ h
      · rw [if_neg hc] at h ⊢
        by_cases hc : (Op.cmpValue (FP.dcmp a b) .l) = 0
        · rw [if_pos hc] at h ⊢
          refine mnX4_isMinus ?_ h
          intro r1 _ h
          by_cases hc : r1 = 0
          · rw [if_pos hc] at h ⊢
            exact hr _ h
          · rw [if_neg hc] at h ⊢
            exact hr _ h
        · rw [if_neg hc] at h ⊢
          exact hr _ h
    · rw [if_neg hc] at h ⊢
      exact hr _ h
  · rw [if_neg hc] at h ⊢
    exact hr _ h
def wX4_least (a : UInt64) (b : UInt64) (kr : UInt64 → Prop) : Prop := bX4_least_0 a b kr 
theorem mnX4_least {a : UInt64} {b : UInt64} {kr kq : UInt64 → Prop} (hr : ∀ x , kr x  → kq x ) (h : wX4_least a b kr) : wX4_least a b kq := mbX4_least_0 hr  h
def tX4_least : Tr := fun as σ k => match as with
  | [.double a, .double b] => True ∧ wX4_least a b (fun x  => k (some (.double x)) (σ))
  | _ => False
def ceX4_least : List (Nat × Nat × Tr) := (2 * 88, 1, tX4_isMinus) :: []
theorem coX4_least (l : Launch) : CEok l yX4_least.cls 4 ceX4_least := ce_S (okX4_isMinus l) (mw 769 (by decide +kernel) rfl) (mw 770 (by decide +kernel) rfl) (mw 4 (by decide +kernel) rfl) (mw 771 (by decide +kernel) rfl) (by decide) ⟨by decide, by decide⟩ (ce_0)
abbrev cutX4_least : List (Nat × List Nat) := []
set_option maxRecDepth 20000 in
set_option maxHeartbeats 4000000 in
theorem lbX4_least_0 {G : Nat → LV → List Value → aS → Prop} {post : Option Value → aS → Prop} (hG : ∀ n b pc lv st σ, seg (0, fun _ => 0) pgX4_least ceX4_least cutX4_least G (fun v σ => rFit (some .double) v ∧ post v σ) n b pc lv st σ → G pc lv st σ) (σ : aS) (a : UInt64) (b : UInt64) (hb : bX4_least_0 a b (fun x  => rFit (some .double) (some (.double x)) ∧ post (some (.double x)) (σ)) ) : G 0 [(0, .double a), (2, .double b)] [] (σ) := by
  unfold bX4_least_0 at hb
  refine hG 400 false 0 _ _ _ ?_
  refine And.intro (fun (h : ¬ (Op.cmpValue (FP.dcmp a a) .l) = 0) => ?_) (fun hq => have h : (Op.cmpValue (FP.dcmp a a) .l) = 0 := Classical.not_not.mp hq; ?_)
  · rw [if_neg h] at hb
    exact hb
  · rw [if_pos h] at hb
    refine And.intro (fun (h : (Op.cmpValue (FP.dcmp b b) .l) = 0) => ?_) (fun (h : ¬ (Op.cmpValue (FP.dcmp b b) .l) = 0) => ?_)
    · rw [if_pos h] at hb
      refine And.intro (fun (h : (Op.cmpValue (FP.dcmp a b) .g) < 0) => ?_) (fun (h : ¬ (Op.cmpValue (FP.dcmp a b) .g) < 0) => ?_)
      · rw [if_pos h] at hb
        exact hb
      · rw [if_neg h] at hb
        refine And.intro (fun (h : ¬ (Op.cmpValue (FP.dcmp a b) .l) = 0) => ?_) (fun hq => have h : (Op.cmpValue (FP.dcmp a b) .l) = 0 := Classical.not_not.mp hq; ?_)
        · rw [if_neg h] at hb
          exact hb
        · rw [if_pos h] at hb
          refine And.intro trivial (mnX4_isMinus ?_ hb)
          intro r1 _ hb
          refine And.intro (fun (h : r1 = 0) => ?_) (fun (h : ¬ r1 = 0) => ?_)
          · rw [if_pos h] at hb
            exact hb
          · rw [if_neg h] at hb
            exact hb
    · rw [if_neg h] at hb
      exact hb
set_option maxRecDepth 20000 in
theorem okX4_least (l : Launch) : OK l yX4_least cX4_least 4 (some .double) 4 tX4_least := by
  intro D τ ρ A as σ post h
  unfold tX4_least at h; split at h
  · rename_i a b; have hw := h.2
    refine met_of (P := pgX4_least) (CE := ceX4_least) (cut := cutX4_least) (by decide) kkX4_least (coX4_least l) (Nat.le_of_ble_eq_true rfl) ?_
    intro G hG
    unfold wX4_least at hw
    refine lbX4_least_0 hG σ a b (mbX4_least_0 ?_  hw)
    · exact fun _ h => ⟨trivial, h⟩
  · exact h.elim
def bX4_greatest_0 (a : UInt64) (b : UInt64) (kr : UInt64 → Prop)  : Prop :=
  (if (Op.cmpValue (FP.dcmp a a) .l) = 0 then
    (if (Op.cmpValue (FP.dcmp b b) .l) = 0 then
      (if 0 < (Op.cmpValue (FP.dcmp a b) .l) then
        kr a 
      else
        (if (Op.cmpValue (FP.dcmp a b) .l) = 0 then
          (wX4_isMinus a (fun r1 => (if r1 = 0 then
            kr a 
          else
            kr b )))
        else
          kr b ))
    else
      kr (9221120237041090560 : UInt64) )
  else
    kr (9221120237041090560 : UInt64) )
set_option maxRecDepth 20000 in
theorem mbX4_greatest_0 {a : UInt64} {b : UInt64} {kr kq : UInt64 → Prop}  (hr : ∀ x , kr x  → kq x )  (h : bX4_greatest_0 a b kr ) : bX4_greatest_0 a b kq  := by
  unfold bX4_greatest_0 at h ⊢
  by_cases hc : (Op.cmpValue (FP.dcmp a a) .l) = 0
  · rw [if_pos hc] at h ⊢
    by_cases hc : (Op.cmpValue (FP.dcmp b b) .l) = 0
    · rw [if_pos hc] at h ⊢
      by_cases hc : 0 < (Op.cmpValue (FP.dcmp a b) .l)
      · rw [if_pos hc] at h ⊢
        exact hr _ h
      · rw [if_neg hc] at h ⊢
        by_cases hc : (Op.cmpValue (FP.dcmp a b) .l) = 0
        · rw [if_pos hc] at h ⊢
          refine mnX4_isMinus ?_ h
          intro r1 _ h
          by_cases hc : r1 = 0
          · rw [if_pos hc] at h ⊢
            exact hr _ h
          · rw [if_neg hc] at h ⊢
            exact hr _ h
        · rw [if_neg hc] at h ⊢
          exact hr _ h
    · rw [if_neg hc] at h ⊢
      exact hr _ h
  · rw [if_neg hc] at h ⊢
    exact hr _ h
def wX4_greatest (a : UInt64) (b : UInt64) (kr : UInt64 → Prop) : Prop := bX4_greatest_0 a b kr 
theorem mnX4_greatest {a : UInt64} {b : UInt64} {kr kq : UInt64 → Prop} (hr : ∀ x , kr x  → kq x ) (h : wX4_greatest a b kr) : wX4_greatest a b kq := mbX4_greatest_0 hr  h
def tX4_greatest : Tr := fun as σ k => match as with
  | [.double a, .double b] => True ∧ wX4_greatest a b (fun x  => k (some (.double x)) (σ))
  | _ => False
def ceX4_greatest : List (Nat × Nat × Tr) := (2 * 88, 1, tX4_isMinus) :: []
theorem coX4_greatest (l : Launch) : CEok l yX4_greatest.cls 4 ceX4_greatest := ce_S (okX4_isMinus l) (mw 769 (by decide +kernel) rfl) (mw 770 (by decide +kernel) rfl) (mw 4 (by decide +kernel) rfl) (mw 771 (by decide +kernel) rfl) (by decide) ⟨by decide, by decide⟩ (ce_0)
abbrev cutX4_greatest : List (Nat × List Nat) := []
set_option maxRecDepth 20000 in
set_option maxHeartbeats 4000000 in
theorem lbX4_greatest_0 {G : Nat → LV → List Value → aS → Prop} {post : Option Value → aS → Prop} (hG : ∀ n b pc lv st σ, seg (0, fun _ => 0) pgX4_greatest ceX4_greatest cutX4_greatest G (fun v σ => rFit (some .double) v ∧ post v σ) n b pc lv st σ → G pc lv st σ) (σ : aS) (a : UInt64) (b : UInt64) (hb : bX4_greatest_0 a b (fun x  => rFit (some .double) (some (.double x)) ∧ post (some (.double x)) (σ)) ) : G 0 [(0, .double a), (2, .double b)] [] (σ) := by
  unfold bX4_greatest_0 at hb
  refine hG 400 false 0 _ _ _ ?_
  refine And.intro (fun (h : ¬ (Op.cmpValue (FP.dcmp a a) .l) = 0) => ?_) (fun hq => have h : (Op.cmpValue (FP.dcmp a a) .l) = 0 := Classical.not_not.mp hq; ?_)
  · rw [if_neg h] at hb
    exact hb
  · rw [if_pos h] at hb
    refine And.intro (fun (h : (Op.cmpValue (FP.dcmp b b) .l) = 0) => ?_) (fun (h : ¬ (Op.cmpValue (FP.dcmp b b) .l) = 0) => ?_)
    · rw [if_pos h] at hb
      refine And.intro (fun (h : 0 < (Op.cmpValue (FP.dcmp a b) .l)) => ?_) (fun (h : ¬ 0 < (Op.cmpValue (FP.dcmp a b) .l)) => ?_)
      · rw [if_pos h] at hb
        exact hb
      · rw [if_neg h] at hb
        refine And.intro (fun (h : ¬ (Op.cmpValue (FP.dcmp a b) .l) = 0) => ?_) (fun hq => have h : (Op.cmpValue (FP.dcmp a b) .l) = 0 := Classical.not_not.mp hq; ?_)
        · rw [if_neg h] at hb
          exact hb
        · rw [if_pos h] at hb
          refine And.intro trivial (mnX4_isMinus ?_ hb)
          intro r1 _ hb
          refine And.intro (fun (h : ¬ r1 = 0) => ?_) (fun hq => have h : r1 = 0 := Classical.not_not.mp hq; ?_)
          · rw [if_neg h] at hb
            exact hb
          · rw [if_pos h] at hb
            exact hb
    · rw [if_neg h] at hb
      exact hb
set_option maxRecDepth 20000 in
theorem okX4_greatest (l : Launch) : OK l yX4_greatest cX4_greatest 4 (some .double) 4 tX4_greatest := by
  intro D τ ρ A as σ post h
  unfold tX4_greatest at h; split at h
  · rename_i a b; have hw := h.2
    refine met_of (P := pgX4_greatest) (CE := ceX4_greatest) (cut := cutX4_greatest) (by decide) kkX4_greatest (coX4_greatest l) (Nat.le_of_ble_eq_true rfl) ?_
    intro G hG
    unfold wX4_greatest at hw
    refine lbX4_greatest_0 hG σ a b (mbX4_greatest_0 ?_  hw)
    · exact fun _ h => ⟨trivial, h⟩
  · exact h.elim
def bX4_size_0 (a : UInt64) (kr : UInt64 → Prop)  : Prop :=
  (wX4_isMinus a (fun r1 => (if r1 = 0 then
    kr a 
  else
    kr (FP.dneg a) )))
set_option maxRecDepth 20000 in
theorem mbX4_size_0 {a : UInt64} {kr kq : UInt64 → Prop}  (hr : ∀ x , kr x  → kq x )  (h : bX4_size_0 a kr ) : bX4_size_0 a kq  := by
  unfold bX4_size_0 at h ⊢
  refine mnX4_isMinus ?_ h
  intro r1 _ h
  by_cases hc : r1 = 0
  · rw [if_pos hc] at h ⊢
    exact hr _ h
  · rw [if_neg hc] at h ⊢
    exact hr _ h
def wX4_size (a : UInt64) (kr : UInt64 → Prop) : Prop := bX4_size_0 a kr 
theorem mnX4_size {a : UInt64} {kr kq : UInt64 → Prop} (hr : ∀ x , kr x  → kq x ) (h : wX4_size a kr) : wX4_size a kq := mbX4_size_0 hr  h
def tX4_size : Tr := fun as σ k => match as with
  | [.double a] => True ∧ wX4_size a (fun x  => k (some (.double x)) (σ))
  | _ => False
def ceX4_size : List (Nat × Nat × Tr) := (2 * 88, 1, tX4_isMinus) :: []
theorem coX4_size (l : Launch) : CEok l yX4_size.cls 4 ceX4_size := ce_S (okX4_isMinus l) (mw 769 (by decide +kernel) rfl) (mw 770 (by decide +kernel) rfl) (mw 4 (by decide +kernel) rfl) (mw 771 (by decide +kernel) rfl) (by decide) ⟨by decide, by decide⟩ (ce_0)
abbrev cutX4_size : List (Nat × List Nat) := []
set_option maxRecDepth 20000 in
set_option maxHeartbeats 4000000 in
theorem lbX4_size_0 {G : Nat → LV → List Value → aS → Prop} {post : Option Value → aS → Prop} (hG : ∀ n b pc lv st σ, seg (0, fun _ => 0) pgX4_size ceX4_size cutX4_size G (fun v σ => rFit (some .double) v ∧ post v σ) n b pc lv st σ → G pc lv st σ) (σ : aS) (a : UInt64) (hb : bX4_size_0 a (fun x  => rFit (some .double) (some (.double x)) ∧ post (some (.double x)) (σ)) ) : G 0 [(0, .double a)] [] (σ) := by
  unfold bX4_size_0 at hb
  refine hG 400 false 0 _ _ _ ?_
  refine And.intro trivial (mnX4_isMinus ?_ hb)
  intro r1 _ hb
  refine And.intro (fun (h : r1 = 0) => ?_) (fun (h : ¬ r1 = 0) => ?_)
  · rw [if_pos h] at hb
    exact hb
  · rw [if_neg h] at hb
    exact hb
set_option maxRecDepth 20000 in
theorem okX4_size (l : Launch) : OK l yX4_size cX4_size 2 (some .double) 4 tX4_size := by
  intro D τ ρ A as σ post h
  unfold tX4_size at h; split at h
  · rename_i a; have hw := h.2
    refine met_of (P := pgX4_size) (CE := ceX4_size) (cut := cutX4_size) (by decide) kkX4_size (coX4_size l) (Nat.le_of_ble_eq_true rfl) ?_
    intro G hG
    unfold wX4_size at hw
    refine lbX4_size_0 hG σ a (mbX4_size_0 ?_  hw)
    · exact fun _ h => ⟨trivial, h⟩
  · exact h.elim
def bX4_isFar_0 (a : UInt64) (kr : Int32 → Prop)  : Prop :=
  (if (Op.cmpValue (FP.dcmp a (9218868437227405312 : UInt64)) .l) = 0 then
    kr (1 : Int32) 
  else
    (if (Op.cmpValue (FP.dcmp a (18442240474082181120 : UInt64)) .l) = 0 then
      kr (1 : Int32) 
    else
      kr (0 : Int32) ))
set_option maxRecDepth 20000 in
theorem mbX4_isFar_0 {a : UInt64} {kr kq : Int32 → Prop}  (hr : ∀ x , (x = 0 ∨ x = 1) → kr x  → kq x )  (h : bX4_isFar_0 a kr ) : bX4_isFar_0 a kq  := by
  unfold bX4_isFar_0 at h ⊢
  by_cases hc : (Op.cmpValue (FP.dcmp a (9218868437227405312 : UInt64)) .l) = 0
  · rw [if_pos hc] at h ⊢
    exact hr _ (Or.inr rfl) h
  · rw [if_neg hc] at h ⊢
    by_cases hc : (Op.cmpValue (FP.dcmp a (18442240474082181120 : UInt64)) .l) = 0
    · rw [if_pos hc] at h ⊢
      exact hr _ (Or.inr rfl) h
    · rw [if_neg hc] at h ⊢
      exact hr _ (Or.inl rfl) h
def wX4_isFar (a : UInt64) (kr : Int32 → Prop) : Prop := bX4_isFar_0 a kr 
theorem mnX4_isFar {a : UInt64} {kr kq : Int32 → Prop} (hr : ∀ x , (x = 0 ∨ x = 1) → kr x  → kq x ) (h : wX4_isFar a kr) : wX4_isFar a kq := mbX4_isFar_0 hr  h
def tX4_isFar : Tr := fun as σ k => match as with
  | [.double a] => True ∧ wX4_isFar a (fun x  => k (some (.int x)) (σ))
  | _ => False
def ceX4_isFar : List (Nat × Nat × Tr) := []
theorem coX4_isFar (l : Launch) : CEok l yX4_isFar.cls 0 ceX4_isFar := ce_0
abbrev cutX4_isFar : List (Nat × List Nat) := []
set_option maxRecDepth 20000 in
set_option maxHeartbeats 4000000 in
theorem lbX4_isFar_0 {G : Nat → LV → List Value → aS → Prop} {post : Option Value → aS → Prop} (hG : ∀ n b pc lv st σ, seg (0, fun _ => 0) pgX4_isFar ceX4_isFar cutX4_isFar G (fun v σ => rFit (some .boolean) v ∧ post v σ) n b pc lv st σ → G pc lv st σ) (σ : aS) (a : UInt64) (hb : bX4_isFar_0 a (fun x  => rFit (some .boolean) (some (.int x)) ∧ post (some (.int x)) (σ)) ) : G 0 [(0, .double a)] [] (σ) := by
  unfold bX4_isFar_0 at hb
  refine hG 400 false 0 _ _ _ ?_
  refine And.intro (fun (h : (Op.cmpValue (FP.dcmp a (9218868437227405312 : UInt64)) .l) = 0) => ?_) (fun (h : ¬ (Op.cmpValue (FP.dcmp a (9218868437227405312 : UInt64)) .l) = 0) => ?_)
  · rw [if_pos h] at hb
    exact hb
  · rw [if_neg h] at hb
    refine And.intro (fun (h : ¬ (Op.cmpValue (FP.dcmp a (18442240474082181120 : UInt64)) .l) = 0) => ?_) (fun hq => have h : (Op.cmpValue (FP.dcmp a (18442240474082181120 : UInt64)) .l) = 0 := Classical.not_not.mp hq; ?_)
    · rw [if_neg h] at hb
      exact hb
    · rw [if_pos h] at hb
      exact hb
set_option maxRecDepth 20000 in
theorem okX4_isFar (l : Launch) : OK l yX4_isFar cX4_isFar 2 (some .boolean) 0 tX4_isFar := by
  intro D τ ρ A as σ post h
  unfold tX4_isFar at h; split at h
  · rename_i a; have hw := h.2
    refine met_of (P := pgX4_isFar) (CE := ceX4_isFar) (cut := cutX4_isFar) (by decide) kkX4_isFar (coX4_isFar l) (Nat.le_of_ble_eq_true rfl) ?_
    intro G hG
    unfold wX4_isFar at hw
    refine lbX4_isFar_0 hG σ a (mbX4_isFar_0 ?_  hw)
    · exact fun _ hf h => ⟨hf, h⟩
  · exact h.elim
def bX4_added_0 (a : UInt64) (b : UInt64) (kr : UInt64 → Prop)  : Prop :=
  (if (Op.cmpValue (FP.dcmp a a) .l) = 0 then
    (if (Op.cmpValue (FP.dcmp b b) .l) = 0 then
      (wX4_isFar a (fun r1 => (if r1 = 0 then
        (vf_n64 (FP.dadd a b) ∧ kr (FP.dadd a b) )
      else
        (wX4_isFar b (fun r2 => (if r2 = 0 then
          (vf_n64 (FP.dadd a b) ∧ kr (FP.dadd a b) )
        else
          (if (Op.cmpValue (FP.dcmp a b) .l) = 0 then
            (vf_n64 (FP.dadd a b) ∧ kr (FP.dadd a b) )
          else
            kr (9221120237041090560 : UInt64) )))))))
    else
      kr (9221120237041090560 : UInt64) )
  else
    kr (9221120237041090560 : UInt64) )
set_option maxRecDepth 20000 in
theorem mbX4_added_0 {a : UInt64} {b : UInt64} {kr kq : UInt64 → Prop}  (hr : ∀ x , kr x  → kq x )  (h : bX4_added_0 a b kr ) : bX4_added_0 a b kq  := by
  unfold bX4_added_0 at h ⊢
  by_cases hc : (Op.cmpValue (FP.dcmp a a) .l) = 0
  · rw [if_pos hc] at h ⊢
    by_cases hc : (Op.cmpValue (FP.dcmp b b) .l) = 0
    · rw [if_pos hc] at h ⊢
      refine mnX4_isFar ?_ h
      intro r1 _ h
      by_cases hc : r1 = 0
      · rw [if_pos hc] at h ⊢
        obtain ⟨hi, h⟩ := h
        refine And.intro hi ?_
        exact hr _ h
      · rw [if_neg hc] at h ⊢
        refine mnX4_isFar ?_ h
        intro r2 _ h
        by_cases hc : r2 = 0
        · rw [if_pos hc] at h ⊢
          obtain ⟨hi, h⟩ := h
          refine And.intro hi ?_
          exact hr _ h
        · rw [if_neg hc] at h ⊢
          by_cases hc : (Op.cmpValue (FP.dcmp a b) .l) = 0
          · rw [if_pos hc] at h ⊢
            obtain ⟨hi, h⟩ := h
            refine And.intro hi ?_
            exact hr _ h
          · rw [if_neg hc] at h ⊢
            exact hr _ h
    · rw [if_neg hc] at h ⊢
      exact hr _ h
  · rw [if_neg hc] at h ⊢
    exact hr _ h
def wX4_added (a : UInt64) (b : UInt64) (kr : UInt64 → Prop) : Prop := bX4_added_0 a b kr 
theorem mnX4_added {a : UInt64} {b : UInt64} {kr kq : UInt64 → Prop} (hr : ∀ x , kr x  → kq x ) (h : wX4_added a b kr) : wX4_added a b kq := mbX4_added_0 hr  h
def tX4_added : Tr := fun as σ k => match as with
  | [.double a, .double b] => True ∧ wX4_added a b (fun x  => k (some (.double x)) (σ))
  | _ => False
def ceX4_added : List (Nat × Nat × Tr) := (2 * 94, 1, tX4_isFar) :: []
theorem coX4_added (l : Launch) : CEok l yX4_added.cls 1 ceX4_added := ce_S (okX4_isFar l) (mw 754 (by decide +kernel) rfl) (mw 755 (by decide +kernel) rfl) (mw 4 (by decide +kernel) rfl) (mw 756 (by decide +kernel) rfl) (by decide) ⟨by decide, by decide⟩ (ce_0)
abbrev cutX4_added : List (Nat × List Nat) := []
set_option maxRecDepth 20000 in
set_option maxHeartbeats 4000000 in
theorem lbX4_added_0 {G : Nat → LV → List Value → aS → Prop} {post : Option Value → aS → Prop} (hG : ∀ n b pc lv st σ, seg (0, fun _ => 0) pgX4_added ceX4_added cutX4_added G (fun v σ => rFit (some .double) v ∧ post v σ) n b pc lv st σ → G pc lv st σ) (σ : aS) (a : UInt64) (b : UInt64) (hb : bX4_added_0 a b (fun x  => rFit (some .double) (some (.double x)) ∧ post (some (.double x)) (σ)) ) : G 0 [(0, .double a), (2, .double b)] [] (σ) := by
  unfold bX4_added_0 at hb
  refine hG 400 false 0 _ _ _ ?_
  refine And.intro (fun (h : ¬ (Op.cmpValue (FP.dcmp a a) .l) = 0) => ?_) (fun hq => have h : (Op.cmpValue (FP.dcmp a a) .l) = 0 := Classical.not_not.mp hq; ?_)
  · rw [if_neg h] at hb
    exact hb
  · rw [if_pos h] at hb
    refine And.intro (fun (h : ¬ (Op.cmpValue (FP.dcmp b b) .l) = 0) => ?_) (fun hq => have h : (Op.cmpValue (FP.dcmp b b) .l) = 0 := Classical.not_not.mp hq; ?_)
    · rw [if_neg h] at hb
      exact hb
    · rw [if_pos h] at hb
      refine And.intro trivial (mnX4_isFar ?_ hb)
      intro r1 _ hb
      refine And.intro (fun (h : r1 = 0) => ?_) (fun (h : ¬ r1 = 0) => ?_)
      · rw [if_pos h] at hb
        obtain ⟨hi, hb⟩ := hb
        refine And.intro hi ?_
        exact hb
      · rw [if_neg h] at hb
        refine And.intro trivial (mnX4_isFar ?_ hb)
        intro r2 _ hb
        refine And.intro (fun (h : r2 = 0) => ?_) (fun (h : ¬ r2 = 0) => ?_)
        · rw [if_pos h] at hb
          obtain ⟨hi, hb⟩ := hb
          refine And.intro hi ?_
          exact hb
        · rw [if_neg h] at hb
          refine And.intro (fun (h : (Op.cmpValue (FP.dcmp a b) .l) = 0) => ?_) (fun (h : ¬ (Op.cmpValue (FP.dcmp a b) .l) = 0) => ?_)
          · rw [if_pos h] at hb
            obtain ⟨hi, hb⟩ := hb
            refine And.intro hi ?_
            exact hb
          · rw [if_neg h] at hb
            exact hb
set_option maxRecDepth 20000 in
theorem okX4_added (l : Launch) : OK l yX4_added cX4_added 4 (some .double) 1 tX4_added := by
  intro D τ ρ A as σ post h
  unfold tX4_added at h; split at h
  · rename_i a b; have hw := h.2
    refine met_of (P := pgX4_added) (CE := ceX4_added) (cut := cutX4_added) (by decide) kkX4_added (coX4_added l) (Nat.le_of_ble_eq_true rfl) ?_
    intro G hG
    unfold wX4_added at hw
    refine lbX4_added_0 hG σ a b (mbX4_added_0 ?_  hw)
    · exact fun _ h => ⟨trivial, h⟩
  · exact h.elim
def bX4_lessened_0 (a : UInt64) (b : UInt64) (kr : UInt64 → Prop)  : Prop :=
  (if (Op.cmpValue (FP.dcmp a a) .l) = 0 then
    (if (Op.cmpValue (FP.dcmp b b) .l) = 0 then
      (wX4_isFar a (fun r1 => (if r1 = 0 then
        (vf_n64 (FP.dsub a b) ∧ kr (FP.dsub a b) )
      else
        (if (Op.cmpValue (FP.dcmp a b) .l) = 0 then
          kr (9221120237041090560 : UInt64) 
        else
          (vf_n64 (FP.dsub a b) ∧ kr (FP.dsub a b) )))))
    else
      kr (9221120237041090560 : UInt64) )
  else
    kr (9221120237041090560 : UInt64) )
set_option maxRecDepth 20000 in
theorem mbX4_lessened_0 {a : UInt64} {b : UInt64} {kr kq : UInt64 → Prop}  (hr : ∀ x , kr x  → kq x )  (h : bX4_lessened_0 a b kr ) : bX4_lessened_0 a b kq  := by
  unfold bX4_lessened_0 at h ⊢
  by_cases hc : (Op.cmpValue (FP.dcmp a a) .l) = 0
  · rw [if_pos hc] at h ⊢
    by_cases hc : (Op.cmpValue (FP.dcmp b b) .l) = 0
    · rw [if_pos hc] at h ⊢
      refine mnX4_isFar ?_ h
      intro r1 _ h
      by_cases hc : r1 = 0
      · rw [if_pos hc] at h ⊢
        obtain ⟨hi, h⟩ := h
        refine And.intro hi ?_
        exact hr _ h
      · rw [if_neg hc] at h ⊢
        by_cases hc : (Op.cmpValue (FP.dcmp a b) .l) = 0
        · rw [if_pos hc] at h ⊢
          exact hr _ h
        · rw [if_neg hc] at h ⊢
          obtain ⟨hi, h⟩ := h
          refine And.intro hi ?_
          exact hr _ h
    · rw [if_neg hc] at h ⊢
      exact hr _ h
  · rw [if_neg hc] at h ⊢
    exact hr _ h
def wX4_lessened (a : UInt64) (b : UInt64) (kr : UInt64 → Prop) : Prop := bX4_lessened_0 a b kr 
theorem mnX4_lessened {a : UInt64} {b : UInt64} {kr kq : UInt64 → Prop} (hr : ∀ x , kr x  → kq x ) (h : wX4_lessened a b kr) : wX4_lessened a b kq := mbX4_lessened_0 hr  h
def tX4_lessened : Tr := fun as σ k => match as with
  | [.double a, .double b] => True ∧ wX4_lessened a b (fun x  => k (some (.double x)) (σ))
  | _ => False
def ceX4_lessened : List (Nat × Nat × Tr) := (2 * 94, 1, tX4_isFar) :: []
theorem coX4_lessened (l : Launch) : CEok l yX4_lessened.cls 1 ceX4_lessened := ce_S (okX4_isFar l) (mw 754 (by decide +kernel) rfl) (mw 755 (by decide +kernel) rfl) (mw 4 (by decide +kernel) rfl) (mw 756 (by decide +kernel) rfl) (by decide) ⟨by decide, by decide⟩ (ce_0)
abbrev cutX4_lessened : List (Nat × List Nat) := []
set_option maxRecDepth 20000 in
set_option maxHeartbeats 4000000 in
theorem lbX4_lessened_0 {G : Nat → LV → List Value → aS → Prop} {post : Option Value → aS → Prop} (hG : ∀ n b pc lv st σ, seg (0, fun _ => 0) pgX4_lessened ceX4_lessened cutX4_lessened G (fun v σ => rFit (some .double) v ∧ post v σ) n b pc lv st σ → G pc lv st σ) (σ : aS) (a : UInt64) (b : UInt64) (hb : bX4_lessened_0 a b (fun x  => rFit (some .double) (some (.double x)) ∧ post (some (.double x)) (σ)) ) : G 0 [(0, .double a), (2, .double b)] [] (σ) := by
  unfold bX4_lessened_0 at hb
  refine hG 400 false 0 _ _ _ ?_
  refine And.intro (fun (h : ¬ (Op.cmpValue (FP.dcmp a a) .l) = 0) => ?_) (fun hq => have h : (Op.cmpValue (FP.dcmp a a) .l) = 0 := Classical.not_not.mp hq; ?_)
  · rw [if_neg h] at hb
    exact hb
  · rw [if_pos h] at hb
    refine And.intro (fun (h : ¬ (Op.cmpValue (FP.dcmp b b) .l) = 0) => ?_) (fun hq => have h : (Op.cmpValue (FP.dcmp b b) .l) = 0 := Classical.not_not.mp hq; ?_)
    · rw [if_neg h] at hb
      exact hb
    · rw [if_pos h] at hb
      refine And.intro trivial (mnX4_isFar ?_ hb)
      intro r1 _ hb
      refine And.intro (fun (h : r1 = 0) => ?_) (fun (h : ¬ r1 = 0) => ?_)
      · rw [if_pos h] at hb
        obtain ⟨hi, hb⟩ := hb
        refine And.intro hi ?_
        exact hb
      · rw [if_neg h] at hb
        refine And.intro (fun (h : ¬ (Op.cmpValue (FP.dcmp a b) .l) = 0) => ?_) (fun hq => have h : (Op.cmpValue (FP.dcmp a b) .l) = 0 := Classical.not_not.mp hq; ?_)
        · rw [if_neg h] at hb
          obtain ⟨hi, hb⟩ := hb
          refine And.intro hi ?_
          exact hb
        · rw [if_pos h] at hb
          exact hb
set_option maxRecDepth 20000 in
theorem okX4_lessened (l : Launch) : OK l yX4_lessened cX4_lessened 4 (some .double) 1 tX4_lessened := by
  intro D τ ρ A as σ post h
  unfold tX4_lessened at h; split at h
  · rename_i a b; have hw := h.2
    refine met_of (P := pgX4_lessened) (CE := ceX4_lessened) (cut := cutX4_lessened) (by decide) kkX4_lessened (coX4_lessened l) (Nat.le_of_ble_eq_true rfl) ?_
    intro G hG
    unfold wX4_lessened at hw
    refine lbX4_lessened_0 hG σ a b (mbX4_lessened_0 ?_  hw)
    · exact fun _ h => ⟨trivial, h⟩
  · exact h.elim
def bX4_timed_0 (a : UInt64) (b : UInt64) (kr : UInt64 → Prop)  : Prop :=
  (if (Op.cmpValue (FP.dcmp a a) .l) = 0 then
    (if (Op.cmpValue (FP.dcmp b b) .l) = 0 then
      (if (Op.cmpValue (FP.dcmp a (FP.dconst0 : UInt64)) .l) = 0 then
        (wX4_isFar b (fun r2 => (if r2 = 0 then
          (wX4_isFar a (fun r3 => (if r3 = 0 then
            (vf_n64 (FP.dmul a b) ∧ kr (FP.dmul a b) )
          else
            (if (Op.cmpValue (FP.dcmp b (FP.dconst0 : UInt64)) .l) = 0 then
              kr (9221120237041090560 : UInt64) 
            else
              (vf_n64 (FP.dmul a b) ∧ kr (FP.dmul a b) )))))
        else
          kr (9221120237041090560 : UInt64) )))
      else
        (wX4_isFar a (fun r1 => (if r1 = 0 then
          (vf_n64 (FP.dmul a b) ∧ kr (FP.dmul a b) )
        else
          (if (Op.cmpValue (FP.dcmp b (FP.dconst0 : UInt64)) .l) = 0 then
            kr (9221120237041090560 : UInt64) 
          else
            (vf_n64 (FP.dmul a b) ∧ kr (FP.dmul a b) ))))))
    else
      kr (9221120237041090560 : UInt64) )
  else
    kr (9221120237041090560 : UInt64) )
set_option maxRecDepth 20000 in
theorem mbX4_timed_0 {a : UInt64} {b : UInt64} {kr kq : UInt64 → Prop}  (hr : ∀ x , kr x  → kq x )  (h : bX4_timed_0 a b kr ) : bX4_timed_0 a b kq  := by
  unfold bX4_timed_0 at h ⊢
  by_cases hc : (Op.cmpValue (FP.dcmp a a) .l) = 0
  · rw [if_pos hc] at h ⊢
    by_cases hc : (Op.cmpValue (FP.dcmp b b) .l) = 0
    · rw [if_pos hc] at h ⊢
      by_cases hc : (Op.cmpValue (FP.dcmp a (FP.dconst0 : UInt64)) .l) = 0
      · rw [if_pos hc] at h ⊢
        refine mnX4_isFar ?_ h
        intro r2 _ h
        by_cases hc : r2 = 0
        · rw [if_pos hc] at h ⊢
          refine mnX4_isFar ?_ h
          intro r3 _ h
          by_cases hc : r3 = 0
          · rw [if_pos hc] at h ⊢
            obtain ⟨hi, h⟩ := h
            refine And.intro hi ?_
            exact hr _ h
          · rw [if_neg hc] at h ⊢
            by_cases hc : (Op.cmpValue (FP.dcmp b (FP.dconst0 : UInt64)) .l) = 0
            · rw [if_pos hc] at h ⊢
              exact hr _ h
            · rw [if_neg hc] at h ⊢
              obtain ⟨hi, h⟩ := h
              refine And.intro hi ?_
              exact hr _ h
        · rw [if_neg hc] at h ⊢
          exact hr _ h
      · rw [if_neg hc] at h ⊢
        refine mnX4_isFar ?_ h
        intro r1 _ h
        by_cases hc : r1 = 0
        · rw [if_pos hc] at h ⊢
          obtain ⟨hi, h⟩ := h
          refine And.intro hi ?_
          exact hr _ h
        · rw [if_neg hc] at h ⊢
          by_cases hc : (Op.cmpValue (FP.dcmp b (FP.dconst0 : UInt64)) .l) = 0
          · rw [if_pos hc] at h ⊢
            exact hr _ h
          · rw [if_neg hc] at h ⊢
            obtain ⟨hi, h⟩ := h
            refine And.intro hi ?_
            exact hr _ h
    · rw [if_neg hc] at h ⊢
      exact hr _ h
  · rw [if_neg hc] at h ⊢
    exact hr _ h
def wX4_timed (a : UInt64) (b : UInt64) (kr : UInt64 → Prop) : Prop := bX4_timed_0 a b kr 
theorem mnX4_timed {a : UInt64} {b : UInt64} {kr kq : UInt64 → Prop} (hr : ∀ x , kr x  → kq x ) (h : wX4_timed a b kr) : wX4_timed a b kq := mbX4_timed_0 hr  h
def tX4_timed : Tr := fun as σ k => match as with
  | [.double a, .double b] => True ∧ wX4_timed a b (fun x  => k (some (.double x)) (σ))
  | _ => False
def ceX4_timed : List (Nat × Nat × Tr) := (2 * 94, 1, tX4_isFar) :: []
theorem coX4_timed (l : Launch) : CEok l yX4_timed.cls 1 ceX4_timed := ce_S (okX4_isFar l) (mw 754 (by decide +kernel) rfl) (mw 755 (by decide +kernel) rfl) (mw 4 (by decide +kernel) rfl) (mw 756 (by decide +kernel) rfl) (by decide) ⟨by decide, by decide⟩ (ce_0)
abbrev cutX4_timed : List (Nat × List Nat) := []
set_option maxRecDepth 20000 in
set_option maxHeartbeats 4000000 in
theorem lbX4_timed_0 {G : Nat → LV → List Value → aS → Prop} {post : Option Value → aS → Prop} (hG : ∀ n b pc lv st σ, seg (0, fun _ => 0) pgX4_timed ceX4_timed cutX4_timed G (fun v σ => rFit (some .double) v ∧ post v σ) n b pc lv st σ → G pc lv st σ) (σ : aS) (a : UInt64) (b : UInt64) (hb : bX4_timed_0 a b (fun x  => rFit (some .double) (some (.double x)) ∧ post (some (.double x)) (σ)) ) : G 0 [(0, .double a), (2, .double b)] [] (σ) := by
  unfold bX4_timed_0 at hb
  refine hG 400 false 0 _ _ _ ?_
  refine And.intro (fun (h : ¬ (Op.cmpValue (FP.dcmp a a) .l) = 0) => ?_) (fun hq => have h : (Op.cmpValue (FP.dcmp a a) .l) = 0 := Classical.not_not.mp hq; ?_)
  · rw [if_neg h] at hb
    exact hb
  · rw [if_pos h] at hb
    refine And.intro (fun (h : ¬ (Op.cmpValue (FP.dcmp b b) .l) = 0) => ?_) (fun hq => have h : (Op.cmpValue (FP.dcmp b b) .l) = 0 := Classical.not_not.mp hq; ?_)
    · rw [if_neg h] at hb
      exact hb
    · rw [if_pos h] at hb
      refine And.intro (fun (h : ¬ (Op.cmpValue (FP.dcmp a (FP.dconst0 : UInt64)) .l) = 0) => ?_) (fun hq => have h : (Op.cmpValue (FP.dcmp a (FP.dconst0 : UInt64)) .l) = 0 := Classical.not_not.mp hq; ?_)
      · rw [if_neg h] at hb
        refine And.intro trivial (mnX4_isFar ?_ hb)
        intro r1 _ hb
        refine And.intro (fun (h : r1 = 0) => ?_) (fun (h : ¬ r1 = 0) => ?_)
        · rw [if_pos h] at hb
          obtain ⟨hi, hb⟩ := hb
          refine And.intro hi ?_
          exact hb
        · rw [if_neg h] at hb
          refine And.intro (fun (h : ¬ (Op.cmpValue (FP.dcmp b (FP.dconst0 : UInt64)) .l) = 0) => ?_) (fun hq => have h : (Op.cmpValue (FP.dcmp b (FP.dconst0 : UInt64)) .l) = 0 := Classical.not_not.mp hq; ?_)
          · rw [if_neg h] at hb
            obtain ⟨hi, hb⟩ := hb
            refine And.intro hi ?_
            exact hb
          · rw [if_pos h] at hb
            exact hb
      · rw [if_pos h] at hb
        refine And.intro trivial (mnX4_isFar ?_ hb)
        intro r2 _ hb
        refine And.intro (fun (h : ¬ r2 = 0) => ?_) (fun hq => have h : r2 = 0 := Classical.not_not.mp hq; ?_)
        · rw [if_neg h] at hb
          exact hb
        · rw [if_pos h] at hb
          refine And.intro trivial (mnX4_isFar ?_ hb)
          intro r3 _ hb
          refine And.intro (fun (h : r3 = 0) => ?_) (fun (h : ¬ r3 = 0) => ?_)
          · rw [if_pos h] at hb
            obtain ⟨hi, hb⟩ := hb
            refine And.intro hi ?_
            exact hb
          · rw [if_neg h] at hb
            refine And.intro (fun (h : ¬ (Op.cmpValue (FP.dcmp b (FP.dconst0 : UInt64)) .l) = 0) => ?_) (fun hq => have h : (Op.cmpValue (FP.dcmp b (FP.dconst0 : UInt64)) .l) = 0 := Classical.not_not.mp hq; ?_)
            · rw [if_neg h] at hb
              obtain ⟨hi, hb⟩ := hb
              refine And.intro hi ?_
              exact hb
            · rw [if_pos h] at hb
              exact hb
set_option maxRecDepth 20000 in
theorem okX4_timed (l : Launch) : OK l yX4_timed cX4_timed 4 (some .double) 1 tX4_timed := by
  intro D τ ρ A as σ post h
  unfold tX4_timed at h; split at h
  · rename_i a b; have hw := h.2
    refine met_of (P := pgX4_timed) (CE := ceX4_timed) (cut := cutX4_timed) (by decide) kkX4_timed (coX4_timed l) (Nat.le_of_ble_eq_true rfl) ?_
    intro G hG
    unfold wX4_timed at hw
    refine lbX4_timed_0 hG σ a b (mbX4_timed_0 ?_  hw)
    · exact fun _ h => ⟨trivial, h⟩
  · exact h.elim
def bX4_divided_0 (a : UInt64) (b : UInt64) (kr : UInt64 → Prop)  : Prop :=
  (if (Op.cmpValue (FP.dcmp a a) .l) = 0 then
    (if (Op.cmpValue (FP.dcmp b b) .l) = 0 then
      (if (Op.cmpValue (FP.dcmp a (FP.dconst0 : UInt64)) .l) = 0 then
        (if (Op.cmpValue (FP.dcmp b (FP.dconst0 : UInt64)) .l) = 0 then
          kr (9221120237041090560 : UInt64) 
        else
          (wX4_isFar a (fun r3 => (if r3 = 0 then
            (vf_n64 (FP.ddiv a b) ∧ kr (FP.ddiv a b) )
          else
            (wX4_isFar b (fun r4 => (if r4 = 0 then
              (vf_n64 (FP.ddiv a b) ∧ kr (FP.ddiv a b) )
            else
              kr (9221120237041090560 : UInt64) )))))))
      else
        (wX4_isFar a (fun r1 => (if r1 = 0 then
          (vf_n64 (FP.ddiv a b) ∧ kr (FP.ddiv a b) )
        else
          (wX4_isFar b (fun r2 => (if r2 = 0 then
            (vf_n64 (FP.ddiv a b) ∧ kr (FP.ddiv a b) )
          else
            kr (9221120237041090560 : UInt64) )))))))
    else
      kr (9221120237041090560 : UInt64) )
  else
    kr (9221120237041090560 : UInt64) )
set_option maxRecDepth 20000 in
theorem mbX4_divided_0 {a : UInt64} {b : UInt64} {kr kq : UInt64 → Prop}  (hr : ∀ x , kr x  → kq x )  (h : bX4_divided_0 a b kr ) : bX4_divided_0 a b kq  := by
  unfold bX4_divided_0 at h ⊢
  by_cases hc : (Op.cmpValue (FP.dcmp a a) .l) = 0
  · rw [if_pos hc] at h ⊢
    by_cases hc : (Op.cmpValue (FP.dcmp b b) .l) = 0
    · rw [if_pos hc] at h ⊢
      by_cases hc : (Op.cmpValue (FP.dcmp a (FP.dconst0 : UInt64)) .l) = 0
      · rw [if_pos hc] at h ⊢
        by_cases hc : (Op.cmpValue (FP.dcmp b (FP.dconst0 : UInt64)) .l) = 0
        · rw [if_pos hc] at h ⊢
          exact hr _ h
        · rw [if_neg hc] at h ⊢
          refine mnX4_isFar ?_ h
          intro r3 _ h
          by_cases hc : r3 = 0
          · rw [if_pos hc] at h ⊢
            obtain ⟨hi, h⟩ := h
            refine And.intro hi ?_
            exact hr _ h
          · rw [if_neg hc] at h ⊢
            refine mnX4_isFar ?_ h
            intro r4 _ h
            by_cases hc : r4 = 0
            · rw [if_pos hc] at h ⊢
              obtain ⟨hi, h⟩ := h
              refine And.intro hi ?_
              exact hr _ h
            · rw [if_neg hc] at h ⊢
              exact hr _ h
      · rw [if_neg hc] at h ⊢
        refine mnX4_isFar ?_ h
        intro r1 _ h
        by_cases hc : r1 = 0
        · rw [if_pos hc] at h ⊢
          obtain ⟨hi, h⟩ := h
          refine And.intro hi ?_
          exact hr _ h
        · rw [if_neg hc] at h ⊢
          refine mnX4_isFar ?_ h
          intro r2 _ h
          by_cases hc : r2 = 0
          · rw [if_pos hc] at h ⊢
            obtain ⟨hi, h⟩ := h
            refine And.intro hi ?_
            exact hr _ h
          · rw [if_neg hc] at h ⊢
            exact hr _ h
    · rw [if_neg hc] at h ⊢
      exact hr _ h
  · rw [if_neg hc] at h ⊢
    exact hr _ h
def wX4_divided (a : UInt64) (b : UInt64) (kr : UInt64 → Prop) : Prop := bX4_divided_0 a b kr 
theorem mnX4_divided {a : UInt64} {b : UInt64} {kr kq : UInt64 → Prop} (hr : ∀ x , kr x  → kq x ) (h : wX4_divided a b kr) : wX4_divided a b kq := mbX4_divided_0 hr  h
def tX4_divided : Tr := fun as σ k => match as with
  | [.double a, .double b] => True ∧ wX4_divided a b (fun x  => k (some (.double x)) (σ))
  | _ => False
def ceX4_divided : List (Nat × Nat × Tr) := (2 * 94, 1, tX4_isFar) :: []
theorem coX4_divided (l : Launch) : CEok l yX4_divided.cls 1 ceX4_divided := ce_S (okX4_isFar l) (mw 754 (by decide +kernel) rfl) (mw 755 (by decide +kernel) rfl) (mw 4 (by decide +kernel) rfl) (mw 756 (by decide +kernel) rfl) (by decide) ⟨by decide, by decide⟩ (ce_0)
abbrev cutX4_divided : List (Nat × List Nat) := []
set_option maxRecDepth 20000 in
set_option maxHeartbeats 4000000 in
theorem lbX4_divided_0 {G : Nat → LV → List Value → aS → Prop} {post : Option Value → aS → Prop} (hG : ∀ n b pc lv st σ, seg (0, fun _ => 0) pgX4_divided ceX4_divided cutX4_divided G (fun v σ => rFit (some .double) v ∧ post v σ) n b pc lv st σ → G pc lv st σ) (σ : aS) (a : UInt64) (b : UInt64) (hb : bX4_divided_0 a b (fun x  => rFit (some .double) (some (.double x)) ∧ post (some (.double x)) (σ)) ) : G 0 [(0, .double a), (2, .double b)] [] (σ) := by
  unfold bX4_divided_0 at hb
  refine hG 400 false 0 _ _ _ ?_
  refine And.intro (fun (h : ¬ (Op.cmpValue (FP.dcmp a a) .l) = 0) => ?_) (fun hq => have h : (Op.cmpValue (FP.dcmp a a) .l) = 0 := Classical.not_not.mp hq; ?_)
  · rw [if_neg h] at hb
    exact hb
  · rw [if_pos h] at hb
    refine And.intro (fun (h : ¬ (Op.cmpValue (FP.dcmp b b) .l) = 0) => ?_) (fun hq => have h : (Op.cmpValue (FP.dcmp b b) .l) = 0 := Classical.not_not.mp hq; ?_)
    · rw [if_neg h] at hb
      exact hb
    · rw [if_pos h] at hb
      refine And.intro (fun (h : ¬ (Op.cmpValue (FP.dcmp a (FP.dconst0 : UInt64)) .l) = 0) => ?_) (fun hq => have h : (Op.cmpValue (FP.dcmp a (FP.dconst0 : UInt64)) .l) = 0 := Classical.not_not.mp hq; ?_)
      · rw [if_neg h] at hb
        refine And.intro trivial (mnX4_isFar ?_ hb)
        intro r1 _ hb
        refine And.intro (fun (h : r1 = 0) => ?_) (fun (h : ¬ r1 = 0) => ?_)
        · rw [if_pos h] at hb
          obtain ⟨hi, hb⟩ := hb
          refine And.intro hi ?_
          exact hb
        · rw [if_neg h] at hb
          refine And.intro trivial (mnX4_isFar ?_ hb)
          intro r2 _ hb
          refine And.intro (fun (h : r2 = 0) => ?_) (fun (h : ¬ r2 = 0) => ?_)
          · rw [if_pos h] at hb
            obtain ⟨hi, hb⟩ := hb
            refine And.intro hi ?_
            exact hb
          · rw [if_neg h] at hb
            exact hb
      · rw [if_pos h] at hb
        refine And.intro (fun (h : (Op.cmpValue (FP.dcmp b (FP.dconst0 : UInt64)) .l) = 0) => ?_) (fun (h : ¬ (Op.cmpValue (FP.dcmp b (FP.dconst0 : UInt64)) .l) = 0) => ?_)
        · rw [if_pos h] at hb
          exact hb
        · rw [if_neg h] at hb
          refine And.intro trivial (mnX4_isFar ?_ hb)
          intro r3 _ hb
          refine And.intro (fun (h : r3 = 0) => ?_) (fun (h : ¬ r3 = 0) => ?_)
          · rw [if_pos h] at hb
            obtain ⟨hi, hb⟩ := hb
            refine And.intro hi ?_
            exact hb
          · rw [if_neg h] at hb
            refine And.intro trivial (mnX4_isFar ?_ hb)
            intro r4 _ hb
            refine And.intro (fun (h : r4 = 0) => ?_) (fun (h : ¬ r4 = 0) => ?_)
            · rw [if_pos h] at hb
              obtain ⟨hi, hb⟩ := hb
              refine And.intro hi ?_
              exact hb
            · rw [if_neg h] at hb
              exact hb
set_option maxRecDepth 20000 in
theorem okX4_divided (l : Launch) : OK l yX4_divided cX4_divided 4 (some .double) 1 tX4_divided := by
  intro D τ ρ A as σ post h
  unfold tX4_divided at h; split at h
  · rename_i a b; have hw := h.2
    refine met_of (P := pgX4_divided) (CE := ceX4_divided) (cut := cutX4_divided) (by decide) kkX4_divided (coX4_divided l) (Nat.le_of_ble_eq_true rfl) ?_
    intro G hG
    unfold wX4_divided at hw
    refine lbX4_divided_0 hG σ a b (mbX4_divided_0 ?_  hw)
    · exact fun _ h => ⟨trivial, h⟩
  · exact h.elim
def bX4_floor_0 (a : UInt64) (kr : UInt64 → Prop)  : Prop :=
  (if (Op.cmpValue (FP.dcmp a a) .l) = 0 then
    (wX4_size a (fun r1 => (if 0 ≤ (Op.cmpValue (FP.dcmp r1 (4841369599423283200 : UInt64)) .l) then
      kr a 
    else
      (if (Op.cmpValue (FP.dcmp a (FP.dconst0 : UInt64)) .l) = 0 then
        kr a 
      else
        (if (Op.cmpValue (FP.dcmp (FP.l2d (FP.d2l a)) a) .l) ≤ 0 then
          (if (Op.cmpValue (FP.dcmp (FP.l2d (FP.d2l a)) (FP.dconst0 : UInt64)) .l) = 0 then
            (if (Op.cmpValue (FP.dcmp a (FP.dconst0 : UInt64)) .l) ≤ 0 then
              kr (FP.l2d (FP.d2l a)) 
            else
              kr (FP.dconst0 : UInt64) )
          else
            kr (FP.l2d (FP.d2l a)) )
        else
          (vf_n64 (FP.dsub (FP.l2d (FP.d2l a)) (FP.dconst1 : UInt64)) ∧ kr (FP.dsub (FP.l2d (FP.d2l a)) (FP.dconst1 : UInt64)) ))))))
  else
    kr a )
set_option maxRecDepth 20000 in
theorem mbX4_floor_0 {a : UInt64} {kr kq : UInt64 → Prop}  (hr : ∀ x , kr x  → kq x )  (h : bX4_floor_0 a kr ) : bX4_floor_0 a kq  := by
  unfold bX4_floor_0 at h ⊢
  by_cases hc : (Op.cmpValue (FP.dcmp a a) .l) = 0
  · rw [if_pos hc] at h ⊢
    refine mnX4_size ?_ h
    intro r1 h
    by_cases hc : 0 ≤ (Op.cmpValue (FP.dcmp r1 (4841369599423283200 : UInt64)) .l)
    · rw [if_pos hc] at h ⊢
      exact hr _ h
    · rw [if_neg hc] at h ⊢
      by_cases hc : (Op.cmpValue (FP.dcmp a (FP.dconst0 : UInt64)) .l) = 0
      · rw [if_pos hc] at h ⊢
        exact hr _ h
      · rw [if_neg hc] at h ⊢
        by_cases hc : (Op.cmpValue (FP.dcmp (FP.l2d (FP.d2l a)) a) .l) ≤ 0
        · rw [if_pos hc] at h ⊢
          by_cases hc : (Op.cmpValue (FP.dcmp (FP.l2d (FP.d2l a)) (FP.dconst0 : UInt64)) .l) = 0
          · rw [if_pos hc] at h ⊢
            by_cases hc : (Op.cmpValue (FP.dcmp a (FP.dconst0 : UInt64)) .l) ≤ 0
            · rw [if_pos hc] at h ⊢
              exact hr _ h
            · rw [if_neg hc] at h ⊢
              exact hr _ h
          · rw [if_neg hc] at h ⊢
            exact hr _ h
        · rw [if_neg hc] at h ⊢
          obtain ⟨hi, h⟩ := h
          refine And.intro hi ?_
          exact hr _ h
  · rw [if_neg hc] at h ⊢
    exact hr _ h
def wX4_floor (a : UInt64) (kr : UInt64 → Prop) : Prop := bX4_floor_0 a kr 
theorem mnX4_floor {a : UInt64} {kr kq : UInt64 → Prop} (hr : ∀ x , kr x  → kq x ) (h : wX4_floor a kr) : wX4_floor a kq := mbX4_floor_0 hr  h
def tX4_floor : Tr := fun as σ k => match as with
  | [.double a] => True ∧ wX4_floor a (fun x  => k (some (.double x)) (σ))
  | _ => False
def ceX4_floor : List (Nat × Nat × Tr) := (2 * 97, 1, tX4_size) :: []
theorem coX4_floor (l : Launch) : CEok l yX4_floor.cls 5 ceX4_floor := ce_S (okX4_size l) (mw 788 (by decide +kernel) rfl) (mw 789 (by decide +kernel) rfl) (mw 4 (by decide +kernel) rfl) (mw 790 (by decide +kernel) rfl) (by decide) ⟨by decide, by decide⟩ (ce_0)
abbrev cutX4_floor : List (Nat × List Nat) := []
set_option maxRecDepth 20000 in
set_option maxHeartbeats 4000000 in
theorem lbX4_floor_0 {G : Nat → LV → List Value → aS → Prop} {post : Option Value → aS → Prop} (hG : ∀ n b pc lv st σ, seg (0, fun _ => 0) pgX4_floor ceX4_floor cutX4_floor G (fun v σ => rFit (some .double) v ∧ post v σ) n b pc lv st σ → G pc lv st σ) (σ : aS) (a : UInt64) (hb : bX4_floor_0 a (fun x  => rFit (some .double) (some (.double x)) ∧ post (some (.double x)) (σ)) ) : G 0 [(0, .double a)] [] (σ) := by
  unfold bX4_floor_0 at hb
  refine hG 400 false 0 _ _ _ ?_
  refine And.intro (fun (h : ¬ (Op.cmpValue (FP.dcmp a a) .l) = 0) => ?_) (fun hq => have h : (Op.cmpValue (FP.dcmp a a) .l) = 0 := Classical.not_not.mp hq; ?_)
  · rw [if_neg h] at hb
    exact hb
  · rw [if_pos h] at hb
    refine And.intro trivial (mnX4_size ?_ hb)
    intro r1 hb
    refine And.intro (fun (h : 0 ≤ (Op.cmpValue (FP.dcmp r1 (4841369599423283200 : UInt64)) .l)) => ?_) (fun (h : ¬ 0 ≤ (Op.cmpValue (FP.dcmp r1 (4841369599423283200 : UInt64)) .l)) => ?_)
    · rw [if_pos h] at hb
      exact hb
    · rw [if_neg h] at hb
      refine And.intro (fun (h : ¬ (Op.cmpValue (FP.dcmp a (FP.dconst0 : UInt64)) .l) = 0) => ?_) (fun hq => have h : (Op.cmpValue (FP.dcmp a (FP.dconst0 : UInt64)) .l) = 0 := Classical.not_not.mp hq; ?_)
      · rw [if_neg h] at hb
        refine And.intro (fun (h : (Op.cmpValue (FP.dcmp (FP.l2d (FP.d2l a)) a) .l) ≤ 0) => ?_) (fun (h : ¬ (Op.cmpValue (FP.dcmp (FP.l2d (FP.d2l a)) a) .l) ≤ 0) => ?_)
        · rw [if_pos h] at hb
          refine And.intro (fun (h : ¬ (Op.cmpValue (FP.dcmp (FP.l2d (FP.d2l a)) (FP.dconst0 : UInt64)) .l) = 0) => ?_) (fun hq => have h : (Op.cmpValue (FP.dcmp (FP.l2d (FP.d2l a)) (FP.dconst0 : UInt64)) .l) = 0 := Classical.not_not.mp hq; ?_)
          · rw [if_neg h] at hb
            exact hb
          · rw [if_pos h] at hb
            refine And.intro (fun (h : (Op.cmpValue (FP.dcmp a (FP.dconst0 : UInt64)) .l) ≤ 0) => ?_) (fun (h : ¬ (Op.cmpValue (FP.dcmp a (FP.dconst0 : UInt64)) .l) ≤ 0) => ?_)
            · rw [if_pos h] at hb
              exact hb
            · rw [if_neg h] at hb
              exact hb
        · rw [if_neg h] at hb
          obtain ⟨hi, hb⟩ := hb
          refine And.intro hi ?_
          exact hb
      · rw [if_pos h] at hb
        exact hb
set_option maxRecDepth 20000 in
theorem okX4_floor (l : Launch) : OK l yX4_floor cX4_floor 4 (some .double) 5 tX4_floor := by
  intro D τ ρ A as σ post h
  unfold tX4_floor at h; split at h
  · rename_i a; have hw := h.2
    refine met_of (P := pgX4_floor) (CE := ceX4_floor) (cut := cutX4_floor) (by decide) kkX4_floor (coX4_floor l) (Nat.le_of_ble_eq_true rfl) ?_
    intro G hG
    unfold wX4_floor at hw
    refine lbX4_floor_0 hG σ a (mbX4_floor_0 ?_  hw)
    · exact fun _ h => ⟨trivial, h⟩
  · exact h.elim
def bX4_root_0 (a : UInt64) (kr : UInt64 → Prop) (kc75 : UInt64 → Int64 → Int32 → Int64 → Prop) (kc122 : Int32 → Int64 → Int64 → Int64 → Int32 → Prop) : Prop :=
  (if (Op.cmpValue (FP.dcmp a a) .l) = 0 then
    (if 0 ≤ (Op.cmpValue (FP.dcmp a (FP.dconst0 : UInt64)) .g) then
      (if (Op.cmpValue (FP.dcmp a (FP.dconst0 : UInt64)) .l) = 0 then
        kr a 
      else
        (if (Op.cmpValue (FP.dcmp a (9218868437227405312 : UInt64)) .l) = 0 then
          kr a 
        else
          (wX4_bits a (fun r1 => (if ((r1 >>> ((52 : Int32).toInt64 &&& 63)).toInt32 - (1075 : Int32)) = (-1075 : Int32) then
            kc75 a r1 (-1074 : Int32) r1 
          else
            (if (((r1 >>> ((52 : Int32).toInt64 &&& 63)).toInt32 - (1075 : Int32)) &&& (1 : Int32)) = (1 : Int32) then
              kc122 (((r1 >>> ((52 : Int32).toInt64 &&& 63)).toInt32 - (1075 : Int32)) + (-1 : Int32)) (((r1 &&& (4503599627370495 : Int64)) ||| (4503599627370496 : Int64)) <<< ((1 : Int32).toInt64 &&& 63)) (0 : Int64) (0 : Int64) (0 : Int32) 
            else
              kc122 ((r1 >>> ((52 : Int32).toInt64 &&& 63)).toInt32 - (1075 : Int32)) ((r1 &&& (4503599627370495 : Int64)) ||| (4503599627370496 : Int64)) (0 : Int64) (0 : Int64) (0 : Int32) ))))))
    else
      kr (9221120237041090560 : UInt64) )
  else
    kr (9221120237041090560 : UInt64) )
def bX4_root_75 (a : UInt64) (l2 : Int64) (l4 : Int32) (l5 : Int64) (kr : UInt64 → Prop) (kc75 : UInt64 → Int64 → Int32 → Int64 → Prop) (kc122 : Int32 → Int64 → Int64 → Int64 → Int32 → Prop) : Prop :=
  (if 0 ≤ (lg_cmp l5 (4503599627370496 : Int64)) then
    (if (l4 &&& (1 : Int32)) = (1 : Int32) then
      kc122 (l4 + (-1 : Int32)) (l5 <<< ((1 : Int32).toInt64 &&& 63)) (0 : Int64) (0 : Int64) (0 : Int32) 
    else
      kc122 l4 l5 (0 : Int64) (0 : Int64) (0 : Int32) )
  else
    kc75 a l2 (l4 + (-1 : Int32)) (l5 <<< ((1 : Int32).toInt64 &&& 63)) )
def bX4_root_122 (l4 : Int32) (l5 : Int64) (l7 : Int64) (l9 : Int64) (l11 : Int32) (kr : UInt64 → Prop) (kc75 : UInt64 → Int64 → Int32 → Int64 → Prop) (kc122 : Int32 → Int64 → Int64 → Int64 → Int32 → Prop) : Prop :=
  (if (54 : Int32) ≤ l11 then
    (¬ (2 : Int32) = 0 ∧ (if (lg_cmp ((l9 + (1 : Int64)) >>> ((1 : Int32).toInt64 &&& 63)) (9007199254740992 : Int64)) = 0 then
      (wX4_of ((((((l4 / (2 : Int32)) - (26 : Int32)) + (1 : Int32)) + (1075 : Int32)).toInt64 <<< ((52 : Int32).toInt64 &&& 63)) ||| ((4503599627370496 : Int64) - (4503599627370496 : Int64))) (fun r3 => kr r3 ))
    else
      (wX4_of (((((l4 / (2 : Int32)) - (26 : Int32)) + (1075 : Int32)).toInt64 <<< ((52 : Int32).toInt64 &&& 63)) ||| (((l9 + (1 : Int64)) >>> ((1 : Int32).toInt64 &&& 63)) - (4503599627370496 : Int64))) (fun r2 => kr r2 ))))
  else
    (if (27 : Int32) ≤ l11 then
      (if (lg_cmp ((l7 <<< ((2 : Int32).toInt64 &&& 63)) ||| (0 : Int64)) ((l9 <<< ((2 : Int32).toInt64 &&& 63)) ||| (1 : Int64))) < 0 then
        kc122 l4 l5 ((l7 <<< ((2 : Int32).toInt64 &&& 63)) ||| (0 : Int64)) (l9 <<< ((1 : Int32).toInt64 &&& 63)) (l11 + (1 : Int32)) 
      else
        kc122 l4 l5 (((l7 <<< ((2 : Int32).toInt64 &&& 63)) ||| (0 : Int64)) - ((l9 <<< ((2 : Int32).toInt64 &&& 63)) ||| (1 : Int64))) ((l9 <<< ((1 : Int32).toInt64 &&& 63)) ||| (1 : Int64)) (l11 + (1 : Int32)) )
    else
      (if (lg_cmp ((l7 <<< ((2 : Int32).toInt64 &&& 63)) ||| ((l5 >>> (((52 : Int32) - ((2 : Int32) * l11)).toInt64 &&& 63)) &&& (3 : Int64))) ((l9 <<< ((2 : Int32).toInt64 &&& 63)) ||| (1 : Int64))) < 0 then
        kc122 l4 l5 ((l7 <<< ((2 : Int32).toInt64 &&& 63)) ||| ((l5 >>> (((52 : Int32) - ((2 : Int32) * l11)).toInt64 &&& 63)) &&& (3 : Int64))) (l9 <<< ((1 : Int32).toInt64 &&& 63)) (l11 + (1 : Int32)) 
      else
        kc122 l4 l5 (((l7 <<< ((2 : Int32).toInt64 &&& 63)) ||| ((l5 >>> (((52 : Int32) - ((2 : Int32) * l11)).toInt64 &&& 63)) &&& (3 : Int64))) - ((l9 <<< ((2 : Int32).toInt64 &&& 63)) ||| (1 : Int64))) ((l9 <<< ((1 : Int32).toInt64 &&& 63)) ||| (1 : Int64)) (l11 + (1 : Int32)) )))
set_option maxRecDepth 20000 in
theorem mbX4_root_0 {a : UInt64} {kr kq : UInt64 → Prop} {kc75 kd75 : UInt64 → Int64 → Int32 → Int64 → Prop} {kc122 kd122 : Int32 → Int64 → Int64 → Int64 → Int32 → Prop} (hr : ∀ x , kr x  → kq x ) (hc75 : ∀ z0 z2 z4 z5, kc75 z0 z2 z4 z5 → kd75 z0 z2 z4 z5) (hc122 : ∀ z4 z5 z7 z9 z11, kc122 z4 z5 z7 z9 z11 → kd122 z4 z5 z7 z9 z11) (h : bX4_root_0 a kr kc75 kc122) : bX4_root_0 a kq kd75 kd122 := by
  unfold bX4_root_0 at h ⊢
  by_cases hc : (Op.cmpValue (FP.dcmp a a) .l) = 0
  · rw [if_pos hc] at h ⊢
    by_cases hc : 0 ≤ (Op.cmpValue (FP.dcmp a (FP.dconst0 : UInt64)) .g)
    · rw [if_pos hc] at h ⊢
      by_cases hc : (Op.cmpValue (FP.dcmp a (FP.dconst0 : UInt64)) .l) = 0
      · rw [if_pos hc] at h ⊢
        exact hr _ h
      · rw [if_neg hc] at h ⊢
        by_cases hc : (Op.cmpValue (FP.dcmp a (9218868437227405312 : UInt64)) .l) = 0
        · rw [if_pos hc] at h ⊢
          exact hr _ h
        · rw [if_neg hc] at h ⊢
          refine mnX4_bits ?_ h
          intro r1 h
          by_cases hc : ((r1 >>> ((52 : Int32).toInt64 &&& 63)).toInt32 - (1075 : Int32)) = (-1075 : Int32)
          · rw [if_pos hc] at h ⊢
            exact hc75 _ _ _ _ h
          · rw [if_neg hc] at h ⊢
            by_cases hc : (((r1 >>> ((52 : Int32).toInt64 &&& 63)).toInt32 - (1075 : Int32)) &&& (1 : Int32)) = (1 : Int32)
            · rw [if_pos hc] at h ⊢
              exact hc122 _ _ _ _ _ h
            · rw [if_neg hc] at h ⊢
              exact hc122 _ _ _ _ _ h
    · rw [if_neg hc] at h ⊢
      exact hr _ h
  · rw [if_neg hc] at h ⊢
    exact hr _ h
set_option maxRecDepth 20000 in
theorem mbX4_root_75 {a : UInt64} {l2 : Int64} {l4 : Int32} {l5 : Int64} {kr kq : UInt64 → Prop} {kc75 kd75 : UInt64 → Int64 → Int32 → Int64 → Prop} {kc122 kd122 : Int32 → Int64 → Int64 → Int64 → Int32 → Prop} (hr : ∀ x , kr x  → kq x ) (hc75 : ∀ z0 z2 z4 z5, kc75 z0 z2 z4 z5 → kd75 z0 z2 z4 z5) (hc122 : ∀ z4 z5 z7 z9 z11, kc122 z4 z5 z7 z9 z11 → kd122 z4 z5 z7 z9 z11) (h : bX4_root_75 a l2 l4 l5 kr kc75 kc122) : bX4_root_75 a l2 l4 l5 kq kd75 kd122 := by
  unfold bX4_root_75 at h ⊢
  by_cases hc : 0 ≤ (lg_cmp l5 (4503599627370496 : Int64))
  · rw [if_pos hc] at h ⊢
    by_cases hc : (l4 &&& (1 : Int32)) = (1 : Int32)
    · rw [if_pos hc] at h ⊢
      exact hc122 _ _ _ _ _ h
    · rw [if_neg hc] at h ⊢
      exact hc122 _ _ _ _ _ h
  · rw [if_neg hc] at h ⊢
    exact hc75 _ _ _ _ h
set_option maxRecDepth 20000 in
theorem mbX4_root_122 {l4 : Int32} {l5 : Int64} {l7 : Int64} {l9 : Int64} {l11 : Int32} {kr kq : UInt64 → Prop} {kc75 kd75 : UInt64 → Int64 → Int32 → Int64 → Prop} {kc122 kd122 : Int32 → Int64 → Int64 → Int64 → Int32 → Prop} (hr : ∀ x , kr x  → kq x ) (hc75 : ∀ z0 z2 z4 z5, kc75 z0 z2 z4 z5 → kd75 z0 z2 z4 z5) (hc122 : ∀ z4 z5 z7 z9 z11, kc122 z4 z5 z7 z9 z11 → kd122 z4 z5 z7 z9 z11) (h : bX4_root_122 l4 l5 l7 l9 l11 kr kc75 kc122) : bX4_root_122 l4 l5 l7 l9 l11 kq kd75 kd122 := by
  unfold bX4_root_122 at h ⊢
  by_cases hc : (54 : Int32) ≤ l11
  · rw [if_pos hc] at h ⊢
    obtain ⟨hi, h⟩ := h
    refine And.intro hi ?_
    by_cases hc : (lg_cmp ((l9 + (1 : Int64)) >>> ((1 : Int32).toInt64 &&& 63)) (9007199254740992 : Int64)) = 0
    · rw [if_pos hc] at h ⊢
      refine mnX4_of ?_ h
      intro r3 h
      exact hr _ h
    · rw [if_neg hc] at h ⊢
      refine mnX4_of ?_ h
      intro r2 h
      exact hr _ h
  · rw [if_neg hc] at h ⊢
    by_cases hc : (27 : Int32) ≤ l11
    · rw [if_pos hc] at h ⊢
      by_cases hc : (lg_cmp ((l7 <<< ((2 : Int32).toInt64 &&& 63)) ||| (0 : Int64)) ((l9 <<< ((2 : Int32).toInt64 &&& 63)) ||| (1 : Int64))) < 0
      · rw [if_pos hc] at h ⊢
        exact hc122 _ _ _ _ _ h
      · rw [if_neg hc] at h ⊢
        exact hc122 _ _ _ _ _ h
    · rw [if_neg hc] at h ⊢
      by_cases hc : (lg_cmp ((l7 <<< ((2 : Int32).toInt64 &&& 63)) ||| ((l5 >>> (((52 : Int32) - ((2 : Int32) * l11)).toInt64 &&& 63)) &&& (3 : Int64))) ((l9 <<< ((2 : Int32).toInt64 &&& 63)) ||| (1 : Int64))) < 0
      · rw [if_pos hc] at h ⊢
        exact hc122 _ _ _ _ _ h
      · rw [if_neg hc] at h ⊢
        exact hc122 _ _ _ _ _ h
def itX4_root_122 (kr : UInt64 → Prop) : Nat → Int32 → Int64 → Int64 → Int64 → Int32 → Prop
  | 0, _, _, _, _, _ => False
  | n + 1, l4, l5, l7, l9, l11 => bX4_root_122 l4 l5 l7 l9 l11 kr (fun _ _ _ _ => False) (fun z4 z5 z7 z9 z11 => itX4_root_122 kr n z4 z5 z7 z9 z11)
theorem miX4_root_122 {kr kq : UInt64 → Prop} (hr : ∀ x , kr x  → kq x ) : ∀ (n : Nat) (z4 : Int32) (z5 : Int64) (z7 : Int64) (z9 : Int64) (z11 : Int32), itX4_root_122 kr n z4 z5 z7 z9 z11 → itX4_root_122 kq n z4 z5 z7 z9 z11
  | 0, _, _, _, _, _, h => h
  | n + 1, _, _, _, _, _, h => mbX4_root_122 hr (fun _ _ _ _ h => h) (fun _ _ _ _ _ h => miX4_root_122 hr n _ _ _ _ _ h) h
def itX4_root_75 (kr : UInt64 → Prop) : Nat → UInt64 → Int64 → Int32 → Int64 → Prop
  | 0, _, _, _, _ => False
  | n + 1, a, l2, l4, l5 => bX4_root_75 a l2 l4 l5 kr (fun z0 z2 z4 z5 => itX4_root_75 kr n z0 z2 z4 z5) (fun z4 z5 z7 z9 z11 => ∃ N, itX4_root_122 kr N z4 z5 z7 z9 z11)
theorem miX4_root_75 {kr kq : UInt64 → Prop} (hr : ∀ x , kr x  → kq x ) : ∀ (n : Nat) (z0 : UInt64) (z2 : Int64) (z4 : Int32) (z5 : Int64), itX4_root_75 kr n z0 z2 z4 z5 → itX4_root_75 kq n z0 z2 z4 z5
  | 0, _, _, _, _, h => h
  | n + 1, _, _, _, _, h => mbX4_root_75 hr (fun _ _ _ _ h => miX4_root_75 hr n _ _ _ _ h) (fun _ _ _ _ _ h => h.elim fun N h => ⟨N, miX4_root_122 hr N _ _ _ _ _ h⟩) h
def wX4_root (a : UInt64) (kr : UInt64 → Prop) : Prop := bX4_root_0 a kr (fun z0 z2 z4 z5 => ∃ N, itX4_root_75 kr N z0 z2 z4 z5) (fun z4 z5 z7 z9 z11 => ∃ N, itX4_root_122 kr N z4 z5 z7 z9 z11)
theorem mnX4_root {a : UInt64} {kr kq : UInt64 → Prop} (hr : ∀ x , kr x  → kq x ) (h : wX4_root a kr) : wX4_root a kq := mbX4_root_0 hr (fun _ _ _ _ h => h.elim fun N h => ⟨N, miX4_root_75 hr N _ _ _ _ h⟩) (fun _ _ _ _ _ h => h.elim fun N h => ⟨N, miX4_root_122 hr N _ _ _ _ _ h⟩) h
def tX4_root : Tr := fun as σ k => match as with
  | [.double a] => True ∧ wX4_root a (fun x  => k (some (.double x)) (σ))
  | _ => False
def ceX4_root : List (Nat × Nat × Tr) := (2 * 81, 1, tX4_bits) :: (2 * 78, 1, tX4_of) :: []
theorem coX4_root (l : Launch) : CEok l yX4_root.cls 3 ceX4_root := ce_S (okX4_bits l) (mw 772 (by decide +kernel) rfl) (mw 773 (by decide +kernel) rfl) (mw 4 (by decide +kernel) rfl) (mw 774 (by decide +kernel) rfl) (by decide) ⟨by decide, by decide⟩ (ce_S (okX4_of l) (mw 707 (by decide +kernel) rfl) (mw 708 (by decide +kernel) rfl) (mw 4 (by decide +kernel) rfl) (mw 709 (by decide +kernel) rfl) (by decide) ⟨by decide, by decide⟩ (ce_0))
abbrev cutX4_root : List (Nat × List Nat) := [(75, [0, 2, 4, 5]), (122, [4, 5, 7, 9, 11])]
set_option maxRecDepth 20000 in
set_option maxHeartbeats 4000000 in
theorem lbX4_root_0 {G : Nat → LV → List Value → aS → Prop} {post : Option Value → aS → Prop} (hG : ∀ n b pc lv st σ, seg (0, fun _ => 0) pgX4_root ceX4_root cutX4_root G (fun v σ => rFit (some .double) v ∧ post v σ) n b pc lv st σ → G pc lv st σ) (σ : aS) (a : UInt64) (hb : bX4_root_0 a (fun x  => rFit (some .double) (some (.double x)) ∧ post (some (.double x)) (σ)) (fun z0 z2 z4 z5 => G 75 [(0, .double z0), (2, .long z2), (4, .int z4), (5, .long z5)] [] (σ)) (fun z4 z5 z7 z9 z11 => G 122 [(4, .int z4), (5, .long z5), (7, .long z7), (9, .long z9), (11, .int z11)] [] (σ))) : G 0 [(0, .double a)] [] (σ) := by
  unfold bX4_root_0 at hb
  refine hG 400 false 0 _ _ _ ?_
  refine And.intro (fun (h : ¬ (Op.cmpValue (FP.dcmp a a) .l) = 0) => ?_) (fun hq => have h : (Op.cmpValue (FP.dcmp a a) .l) = 0 := Classical.not_not.mp hq; ?_)
  · rw [if_neg h] at hb
    exact hb
  · rw [if_pos h] at hb
    refine And.intro (fun (h : 0 ≤ (Op.cmpValue (FP.dcmp a (FP.dconst0 : UInt64)) .g)) => ?_) (fun (h : ¬ 0 ≤ (Op.cmpValue (FP.dcmp a (FP.dconst0 : UInt64)) .g)) => ?_)
    · rw [if_pos h] at hb
      refine And.intro (fun (h : (Op.cmpValue (FP.dcmp a (FP.dconst0 : UInt64)) .l) = 0) => ?_) (fun (h : ¬ (Op.cmpValue (FP.dcmp a (FP.dconst0 : UInt64)) .l) = 0) => ?_)
      · rw [if_pos h] at hb
        exact hb
      · rw [if_neg h] at hb
        refine And.intro (fun (h : ¬ (Op.cmpValue (FP.dcmp a (9218868437227405312 : UInt64)) .l) = 0) => ?_) (fun hq => have h : (Op.cmpValue (FP.dcmp a (9218868437227405312 : UInt64)) .l) = 0 := Classical.not_not.mp hq; ?_)
        · rw [if_neg h] at hb
          refine And.intro trivial (mnX4_bits ?_ hb)
          intro r1 hb
          refine And.intro (fun (h : ¬ ((r1 >>> ((52 : Int32).toInt64 &&& 63)).toInt32 - (1075 : Int32)) = (-1075 : Int32)) => ?_) (fun hq => have h : ((r1 >>> ((52 : Int32).toInt64 &&& 63)).toInt32 - (1075 : Int32)) = (-1075 : Int32) := Classical.not_not.mp hq; ?_)
          · rw [if_neg h] at hb
            refine And.intro (fun (h : ¬ (((r1 >>> ((52 : Int32).toInt64 &&& 63)).toInt32 - (1075 : Int32)) &&& (1 : Int32)) = (1 : Int32)) => ?_) (fun hq => have h : (((r1 >>> ((52 : Int32).toInt64 &&& 63)).toInt32 - (1075 : Int32)) &&& (1 : Int32)) = (1 : Int32) := Classical.not_not.mp hq; ?_)
            · rw [if_neg h] at hb
              exact hb
            · rw [if_pos h] at hb
              exact hb
          · rw [if_pos h] at hb
            exact hb
        · rw [if_pos h] at hb
          exact hb
    · rw [if_neg h] at hb
      exact hb
set_option maxRecDepth 20000 in
set_option maxHeartbeats 4000000 in
theorem lbX4_root_75 {G : Nat → LV → List Value → aS → Prop} {post : Option Value → aS → Prop} (hG : ∀ n b pc lv st σ, seg (0, fun _ => 0) pgX4_root ceX4_root cutX4_root G (fun v σ => rFit (some .double) v ∧ post v σ) n b pc lv st σ → G pc lv st σ) (σ : aS) (a : UInt64) (l2 : Int64) (l4 : Int32) (l5 : Int64) (hb : bX4_root_75 a l2 l4 l5 (fun x  => rFit (some .double) (some (.double x)) ∧ post (some (.double x)) (σ)) (fun z0 z2 z4 z5 => G 75 [(0, .double z0), (2, .long z2), (4, .int z4), (5, .long z5)] [] (σ)) (fun z4 z5 z7 z9 z11 => G 122 [(4, .int z4), (5, .long z5), (7, .long z7), (9, .long z9), (11, .int z11)] [] (σ))) : G 75 [(0, .double a), (2, .long l2), (4, .int l4), (5, .long l5)] [] (σ) := by
  unfold bX4_root_75 at hb
  refine hG 400 false 75 _ _ _ ?_
  refine And.intro (fun (h : 0 ≤ (lg_cmp l5 (4503599627370496 : Int64))) => ?_) (fun (h : ¬ 0 ≤ (lg_cmp l5 (4503599627370496 : Int64))) => ?_)
  · rw [if_pos h] at hb
    refine And.intro (fun (h : ¬ (l4 &&& (1 : Int32)) = (1 : Int32)) => ?_) (fun hq => have h : (l4 &&& (1 : Int32)) = (1 : Int32) := Classical.not_not.mp hq; ?_)
    · rw [if_neg h] at hb
      exact hb
    · rw [if_pos h] at hb
      exact hb
  · rw [if_neg h] at hb
    exact hb
set_option maxRecDepth 20000 in
set_option maxHeartbeats 4000000 in
theorem lbX4_root_122 {G : Nat → LV → List Value → aS → Prop} {post : Option Value → aS → Prop} (hG : ∀ n b pc lv st σ, seg (0, fun _ => 0) pgX4_root ceX4_root cutX4_root G (fun v σ => rFit (some .double) v ∧ post v σ) n b pc lv st σ → G pc lv st σ) (σ : aS) (l4 : Int32) (l5 : Int64) (l7 : Int64) (l9 : Int64) (l11 : Int32) (hb : bX4_root_122 l4 l5 l7 l9 l11 (fun x  => rFit (some .double) (some (.double x)) ∧ post (some (.double x)) (σ)) (fun z0 z2 z4 z5 => G 75 [(0, .double z0), (2, .long z2), (4, .int z4), (5, .long z5)] [] (σ)) (fun z4 z5 z7 z9 z11 => G 122 [(4, .int z4), (5, .long z5), (7, .long z7), (9, .long z9), (11, .int z11)] [] (σ))) : G 122 [(4, .int l4), (5, .long l5), (7, .long l7), (9, .long l9), (11, .int l11)] [] (σ) := by
  unfold bX4_root_122 at hb
  refine hG 400 false 122 _ _ _ ?_
  refine And.intro (fun (h : (54 : Int32) ≤ l11) => ?_) (fun (h : ¬ (54 : Int32) ≤ l11) => ?_)
  · rw [if_pos h] at hb
    obtain ⟨hi, hb⟩ := hb
    refine And.intro hi ?_
    refine And.intro (fun (h : ¬ (lg_cmp ((l9 + (1 : Int64)) >>> ((1 : Int32).toInt64 &&& 63)) (9007199254740992 : Int64)) = 0) => ?_) (fun hq => have h : (lg_cmp ((l9 + (1 : Int64)) >>> ((1 : Int32).toInt64 &&& 63)) (9007199254740992 : Int64)) = 0 := Classical.not_not.mp hq; ?_)
    · rw [if_neg h] at hb
      refine And.intro trivial (mnX4_of ?_ hb)
      intro r2 hb
      exact hb
    · rw [if_pos h] at hb
      refine And.intro trivial (mnX4_of ?_ hb)
      intro r3 hb
      exact hb
  · rw [if_neg h] at hb
    refine And.intro (fun (h : (27 : Int32) ≤ l11) => ?_) (fun (h : ¬ (27 : Int32) ≤ l11) => ?_)
    · rw [if_pos h] at hb
      refine And.intro (fun (h : (lg_cmp ((l7 <<< ((2 : Int32).toInt64 &&& 63)) ||| (0 : Int64)) ((l9 <<< ((2 : Int32).toInt64 &&& 63)) ||| (1 : Int64))) < 0) => ?_) (fun (h : ¬ (lg_cmp ((l7 <<< ((2 : Int32).toInt64 &&& 63)) ||| (0 : Int64)) ((l9 <<< ((2 : Int32).toInt64 &&& 63)) ||| (1 : Int64))) < 0) => ?_)
      · rw [if_pos h] at hb
        exact hb
      · rw [if_neg h] at hb
        exact hb
    · rw [if_neg h] at hb
      refine And.intro (fun (h : (lg_cmp ((l7 <<< ((2 : Int32).toInt64 &&& 63)) ||| ((l5 >>> (((52 : Int32) - ((2 : Int32) * l11)).toInt64 &&& 63)) &&& (3 : Int64))) ((l9 <<< ((2 : Int32).toInt64 &&& 63)) ||| (1 : Int64))) < 0) => ?_) (fun (h : ¬ (lg_cmp ((l7 <<< ((2 : Int32).toInt64 &&& 63)) ||| ((l5 >>> (((52 : Int32) - ((2 : Int32) * l11)).toInt64 &&& 63)) &&& (3 : Int64))) ((l9 <<< ((2 : Int32).toInt64 &&& 63)) ||| (1 : Int64))) < 0) => ?_)
      · rw [if_pos h] at hb
        exact hb
      · rw [if_neg h] at hb
        exact hb
theorem giX4_root_122 {G : Nat → LV → List Value → aS → Prop} {post : Option Value → aS → Prop} (hG : ∀ n b pc lv st σ, seg (0, fun _ => 0) pgX4_root ceX4_root cutX4_root G (fun v σ => rFit (some .double) v ∧ post v σ) n b pc lv st σ → G pc lv st σ) (σ : aS) : ∀ (n : Nat) (z4 : Int32) (z5 : Int64) (z7 : Int64) (z9 : Int64) (z11 : Int32), itX4_root_122 (fun x  => rFit (some .double) (some (.double x)) ∧ post (some (.double x)) (σ)) n z4 z5 z7 z9 z11 → G 122 [(4, .int z4), (5, .long z5), (7, .long z7), (9, .long z9), (11, .int z11)] [] (σ)
  | 0, _, _, _, _, _, h => h.elim
  | n + 1, _, _, _, _, _, h => lbX4_root_122 hG σ _ _ _ _ _ (mbX4_root_122 (fun _ h => h) (fun _ _ _ _ h => h.elim) (fun _ _ _ _ _ h => giX4_root_122 hG σ n _ _ _ _ _ h) h)
theorem giX4_root_75 {G : Nat → LV → List Value → aS → Prop} {post : Option Value → aS → Prop} (hG : ∀ n b pc lv st σ, seg (0, fun _ => 0) pgX4_root ceX4_root cutX4_root G (fun v σ => rFit (some .double) v ∧ post v σ) n b pc lv st σ → G pc lv st σ) (σ : aS) : ∀ (n : Nat) (z0 : UInt64) (z2 : Int64) (z4 : Int32) (z5 : Int64), itX4_root_75 (fun x  => rFit (some .double) (some (.double x)) ∧ post (some (.double x)) (σ)) n z0 z2 z4 z5 → G 75 [(0, .double z0), (2, .long z2), (4, .int z4), (5, .long z5)] [] (σ)
  | 0, _, _, _, _, h => h.elim
  | n + 1, _, _, _, _, h => lbX4_root_75 hG σ _ _ _ _ (mbX4_root_75 (fun _ h => h) (fun _ _ _ _ h => giX4_root_75 hG σ n _ _ _ _ h) (fun _ _ _ _ _ h => h.elim fun N h => giX4_root_122 hG σ N _ _ _ _ _ h) h)
set_option maxRecDepth 20000 in
theorem okX4_root (l : Launch) : OK l yX4_root cX4_root 14 (some .double) 3 tX4_root := by
  intro D τ ρ A as σ post h
  unfold tX4_root at h; split at h
  · rename_i a; have hw := h.2
    refine met_of (P := pgX4_root) (CE := ceX4_root) (cut := cutX4_root) (by decide) kkX4_root (coX4_root l) (Nat.le_of_ble_eq_true rfl) ?_
    intro G hG
    unfold wX4_root at hw
    refine lbX4_root_0 hG σ a (mbX4_root_0 ?_ ?_ ?_ hw)
    · exact fun _ h => ⟨trivial, h⟩
    · intro _ _ _ _ ⟨N, h⟩; exact giX4_root_75 hG σ N _ _ _ _ (miX4_root_75 (fun _ h => ⟨trivial, h⟩) N _ _ _ _ h)
    · intro _ _ _ _ _ ⟨N, h⟩; exact giX4_root_122 hG σ N _ _ _ _ _ (miX4_root_122 (fun _ h => ⟨trivial, h⟩) N _ _ _ _ _ h)
  · exact h.elim
def bX4_isTwo_0 (a : Int32) (kr : Int32 → Prop)  : Prop :=
  (wX4_in a (2 : Int32) (7 : Int32) (fun r1 => ((r1 = 0 ∨ r1 = 1) ∧ kr r1 )))
set_option maxRecDepth 20000 in
theorem mbX4_isTwo_0 {a : Int32} {kr kq : Int32 → Prop}  (hr : ∀ x , (x = 0 ∨ x = 1) → kr x  → kq x )  (h : bX4_isTwo_0 a kr ) : bX4_isTwo_0 a kq  := by
  unfold bX4_isTwo_0 at h ⊢
  refine mnX4_in ?_ h
  intro r1 _ h
  exact ⟨h.1, hr _ h.1 h.2⟩
def wX4_isTwo (a : Int32) (kr : Int32 → Prop) : Prop := bX4_isTwo_0 a kr 
theorem mnX4_isTwo {a : Int32} {kr kq : Int32 → Prop} (hr : ∀ x , (x = 0 ∨ x = 1) → kr x  → kq x ) (h : wX4_isTwo a kr) : wX4_isTwo a kq := mbX4_isTwo_0 hr  h
def tX4_isTwo : Tr := fun as σ k => match as with
  | [.int a] => True ∧ wX4_isTwo a (fun x  => k (some (.int x)) (σ))
  | _ => False
def ceX4_isTwo : List (Nat × Nat × Tr) := (2 * 129, 3, tX4_in) :: []
theorem coX4_isTwo (l : Launch) : CEok l yX4_isTwo.cls 1 ceX4_isTwo := ce_S (okX4_in l) (mw 726 (by decide +kernel) rfl) (mw 727 (by decide +kernel) rfl) (mw 4 (by decide +kernel) rfl) (mw 728 (by decide +kernel) rfl) (by decide) ⟨by decide, by decide⟩ (ce_0)
abbrev cutX4_isTwo : List (Nat × List Nat) := []
set_option maxRecDepth 20000 in
set_option maxHeartbeats 4000000 in
theorem lbX4_isTwo_0 {G : Nat → LV → List Value → aS → Prop} {post : Option Value → aS → Prop} (hG : ∀ n b pc lv st σ, seg (0, fun _ => 0) pgX4_isTwo ceX4_isTwo cutX4_isTwo G (fun v σ => rFit (some .boolean) v ∧ post v σ) n b pc lv st σ → G pc lv st σ) (σ : aS) (a : Int32) (hb : bX4_isTwo_0 a (fun x  => rFit (some .boolean) (some (.int x)) ∧ post (some (.int x)) (σ)) ) : G 0 [(0, .int a)] [] (σ) := by
  unfold bX4_isTwo_0 at hb
  refine hG 400 false 0 _ _ _ ?_
  refine And.intro trivial (mnX4_in ?_ hb)
  intro r1 _ hb
  exact hb.2
set_option maxRecDepth 20000 in
theorem okX4_isTwo (l : Launch) : OK l yX4_isTwo cX4_isTwo 1 (some .boolean) 1 tX4_isTwo := by
  intro D τ ρ A as σ post h
  unfold tX4_isTwo at h; split at h
  · rename_i a; have hw := h.2
    refine met_of (P := pgX4_isTwo) (CE := ceX4_isTwo) (cut := cutX4_isTwo) (by decide) kkX4_isTwo (coX4_isTwo l) (Nat.le_of_ble_eq_true rfl) ?_
    intro G hG
    unfold wX4_isTwo at hw
    refine lbX4_isTwo_0 hG σ a (mbX4_isTwo_0 ?_  hw)
    · exact fun _ hf h => ⟨hf, h⟩
  · exact h.elim
def bX4_made_0 (a : Int32) (b : UInt64) (d : UInt64) (kr : UInt64 → Prop)  : Prop :=
  (if a.toInt < 2 ∨ 15 < a.toInt then
    (if (Op.cmpValue (FP.dcmp b b) .l) = 0 then
      kr (FP.l2d (FP.d2l b)) 
    else
      kr (FP.dconst0 : UInt64) )
  else if a = (2 : Int32) then
    (wX4_added b d (fun r1 => kr r1 ))
  else if a = (3 : Int32) then
    (wX4_lessened b d (fun r2 => kr r2 ))
  else if a = (4 : Int32) then
    (wX4_timed b d (fun r3 => kr r3 ))
  else if a = (5 : Int32) then
    (wX4_divided b d (fun r4 => kr r4 ))
  else if a = (6 : Int32) then
    (wX4_least b d (fun r5 => kr r5 ))
  else if a = (7 : Int32) then
    (wX4_greatest b d (fun r6 => kr r6 ))
  else if a = (8 : Int32) then
    (wX4_size b (fun r7 => kr r7 ))
  else if a = (9 : Int32) then
    (wX4_root b (fun r8 => kr r8 ))
  else if a = (10 : Int32) then
    (wX4_timed b b (fun r9 => kr r9 ))
  else if a = (11 : Int32) then
    (wX4_floor b (fun r10 => kr r10 ))
  else if a = (12 : Int32) then
    (if (Op.cmpValue (FP.dcmp b b) .l) = 0 then
      kr (FP.dneg b) 
    else
      kr b )
  else if a = (13 : Int32) then
    (if (Op.cmpValue (FP.dcmp b b) .l) = 0 then
      (vf_n32 (FP.d2f b) ∧ (vf_n64 (FP.f2d (FP.d2f b)) ∧ kr (FP.f2d (FP.d2f b)) ))
    else
      kr b )
  else if a = (14 : Int32) then
    (if (Op.cmpValue (FP.dcmp b b) .l) = 0 then
      (if (Op.cmpValue (FP.dcmp b (FP.dconst0 : UInt64)) .l) = 0 then
        kr b 
      else
        (if 0 ≤ (Op.cmpValue (FP.dcmp b (FP.dconst0 : UInt64)) .g) then
          kr (FP.dconst1 : UInt64) 
        else
          kr (13830554455654793216 : UInt64) ))
    else
      kr b )
  else
    (if (Op.cmpValue (FP.dcmp b b) .l) = 0 then
      kr (FP.i2d (FP.d2i b)) 
    else
      kr (FP.dconst0 : UInt64) ))
set_option maxRecDepth 20000 in
theorem mbX4_made_0 {a : Int32} {b : UInt64} {d : UInt64} {kr kq : UInt64 → Prop}  (hr : ∀ x , kr x  → kq x )  (h : bX4_made_0 a b d kr ) : bX4_made_0 a b d kq  := by
  unfold bX4_made_0 at h ⊢
  by_cases hc : a.toInt < 2 ∨ 15 < a.toInt
  · rw [if_pos hc] at h ⊢
    by_cases hc : (Op.cmpValue (FP.dcmp b b) .l) = 0
    · rw [if_pos hc] at h ⊢
      exact hr _ h
    · rw [if_neg hc] at h ⊢
      exact hr _ h
  rw [if_neg hc] at h ⊢
  by_cases hc : a = (2 : Int32)
  · rw [if_pos hc] at h ⊢
    refine mnX4_added ?_ h
    intro r1 h
    exact hr _ h
  rw [if_neg hc] at h ⊢
  by_cases hc : a = (3 : Int32)
  · rw [if_pos hc] at h ⊢
    refine mnX4_lessened ?_ h
    intro r2 h
    exact hr _ h
  rw [if_neg hc] at h ⊢
  by_cases hc : a = (4 : Int32)
  · rw [if_pos hc] at h ⊢
    refine mnX4_timed ?_ h
    intro r3 h
    exact hr _ h
  rw [if_neg hc] at h ⊢
  by_cases hc : a = (5 : Int32)
  · rw [if_pos hc] at h ⊢
    refine mnX4_divided ?_ h
    intro r4 h
    exact hr _ h
  rw [if_neg hc] at h ⊢
  by_cases hc : a = (6 : Int32)
  · rw [if_pos hc] at h ⊢
    refine mnX4_least ?_ h
    intro r5 h
    exact hr _ h
  rw [if_neg hc] at h ⊢
  by_cases hc : a = (7 : Int32)
  · rw [if_pos hc] at h ⊢
    refine mnX4_greatest ?_ h
    intro r6 h
    exact hr _ h
  rw [if_neg hc] at h ⊢
  by_cases hc : a = (8 : Int32)
  · rw [if_pos hc] at h ⊢
    refine mnX4_size ?_ h
    intro r7 h
    exact hr _ h
  rw [if_neg hc] at h ⊢
  by_cases hc : a = (9 : Int32)
  · rw [if_pos hc] at h ⊢
    refine mnX4_root ?_ h
    intro r8 h
    exact hr _ h
  rw [if_neg hc] at h ⊢
  by_cases hc : a = (10 : Int32)
  · rw [if_pos hc] at h ⊢
    refine mnX4_timed ?_ h
    intro r9 h
    exact hr _ h
  rw [if_neg hc] at h ⊢
  by_cases hc : a = (11 : Int32)
  · rw [if_pos hc] at h ⊢
    refine mnX4_floor ?_ h
    intro r10 h
    exact hr _ h
  rw [if_neg hc] at h ⊢
  by_cases hc : a = (12 : Int32)
  · rw [if_pos hc] at h ⊢
    by_cases hc : (Op.cmpValue (FP.dcmp b b) .l) = 0
    · rw [if_pos hc] at h ⊢
      exact hr _ h
    · rw [if_neg hc] at h ⊢
      exact hr _ h
  rw [if_neg hc] at h ⊢
  by_cases hc : a = (13 : Int32)
  · rw [if_pos hc] at h ⊢
    by_cases hc : (Op.cmpValue (FP.dcmp b b) .l) = 0
    · rw [if_pos hc] at h ⊢
      obtain ⟨hi, h⟩ := h
      refine And.intro hi ?_
      obtain ⟨hi, h⟩ := h
      refine And.intro hi ?_
      exact hr _ h
    · rw [if_neg hc] at h ⊢
      exact hr _ h
  rw [if_neg hc] at h ⊢
  by_cases hc : a = (14 : Int32)
  · rw [if_pos hc] at h ⊢
    by_cases hc : (Op.cmpValue (FP.dcmp b b) .l) = 0
    · rw [if_pos hc] at h ⊢
      by_cases hc : (Op.cmpValue (FP.dcmp b (FP.dconst0 : UInt64)) .l) = 0
      · rw [if_pos hc] at h ⊢
        exact hr _ h
      · rw [if_neg hc] at h ⊢
        by_cases hc : 0 ≤ (Op.cmpValue (FP.dcmp b (FP.dconst0 : UInt64)) .g)
        · rw [if_pos hc] at h ⊢
          exact hr _ h
        · rw [if_neg hc] at h ⊢
          exact hr _ h
    · rw [if_neg hc] at h ⊢
      exact hr _ h
  rw [if_neg hc] at h ⊢
  by_cases hc : (Op.cmpValue (FP.dcmp b b) .l) = 0
  · rw [if_pos hc] at h ⊢
    exact hr _ h
  · rw [if_neg hc] at h ⊢
    exact hr _ h
def wX4_made (a : Int32) (b : UInt64) (d : UInt64) (kr : UInt64 → Prop) : Prop := bX4_made_0 a b d kr 
theorem mnX4_made {a : Int32} {b : UInt64} {d : UInt64} {kr kq : UInt64 → Prop} (hr : ∀ x , kr x  → kq x ) (h : wX4_made a b d kr) : wX4_made a b d kq := mbX4_made_0 hr  h
def tX4_made : Tr := fun as σ k => match as with
  | [.int a, .double b, .double d] => True ∧ wX4_made a b d (fun x  => k (some (.double x)) (σ))
  | _ => False
def ceX4_made : List (Nat × Nat × Tr) := (2 * 140, 2, tX4_added) :: (2 * 144, 2, tX4_lessened) :: (2 * 147, 2, tX4_timed) :: (2 * 150, 2, tX4_divided) :: (2 * 153, 2, tX4_least) :: (2 * 156, 2, tX4_greatest) :: (2 * 97, 1, tX4_size) :: (2 * 159, 1, tX4_root) :: (2 * 162, 1, tX4_floor) :: []
theorem coX4_made (l : Launch) : CEok l yX4_made.cls 6 ceX4_made := ce_S (okX4_added l) (mw 751 (by decide +kernel) rfl) (mw 752 (by decide +kernel) rfl) (mw 4 (by decide +kernel) rfl) (mw 753 (by decide +kernel) rfl) (by decide) ⟨by decide, by decide⟩ (ce_S (okX4_lessened l) (mw 757 (by decide +kernel) rfl) (mw 758 (by decide +kernel) rfl) (mw 4 (by decide +kernel) rfl) (mw 759 (by decide +kernel) rfl) (by decide) ⟨by decide, by decide⟩ (ce_S (okX4_timed l) (mw 760 (by decide +kernel) rfl) (mw 761 (by decide +kernel) rfl) (mw 4 (by decide +kernel) rfl) (mw 762 (by decide +kernel) rfl) (by decide) ⟨by decide, by decide⟩ (ce_S (okX4_divided l) (mw 763 (by decide +kernel) rfl) (mw 764 (by decide +kernel) rfl) (mw 4 (by decide +kernel) rfl) (mw 765 (by decide +kernel) rfl) (by decide) ⟨by decide, by decide⟩ (ce_S (okX4_least l) (mw 766 (by decide +kernel) rfl) (mw 767 (by decide +kernel) rfl) (mw 4 (by decide +kernel) rfl) (mw 768 (by decide +kernel) rfl) (by decide) ⟨by decide, by decide⟩ (ce_S (okX4_greatest l) (mw 785 (by decide +kernel) rfl) (mw 786 (by decide +kernel) rfl) (mw 4 (by decide +kernel) rfl) (mw 787 (by decide +kernel) rfl) (by decide) ⟨by decide, by decide⟩ (ce_S (okX4_size l) (mw 788 (by decide +kernel) rfl) (mw 789 (by decide +kernel) rfl) (mw 4 (by decide +kernel) rfl) (mw 790 (by decide +kernel) rfl) (by decide) ⟨by decide, by decide⟩ (ce_S (okX4_root l) (mw 791 (by decide +kernel) rfl) (mw 792 (by decide +kernel) rfl) (mw 4 (by decide +kernel) rfl) (mw 793 (by decide +kernel) rfl) (by decide) ⟨by decide, by decide⟩ (ce_S (okX4_floor l) (mw 798 (by decide +kernel) rfl) (mw 799 (by decide +kernel) rfl) (mw 4 (by decide +kernel) rfl) (mw 800 (by decide +kernel) rfl) (by decide) ⟨by decide, by decide⟩ (ce_0)))))))))
abbrev cutX4_made : List (Nat × List Nat) := []
set_option maxRecDepth 20000 in
set_option maxHeartbeats 4000000 in
theorem lbX4_made_0 {G : Nat → LV → List Value → aS → Prop} {post : Option Value → aS → Prop} (hG : ∀ n b pc lv st σ, seg (0, fun _ => 0) pgX4_made ceX4_made cutX4_made G (fun v σ => rFit (some .double) v ∧ post v σ) n b pc lv st σ → G pc lv st σ) (σ : aS) (a : Int32) (b : UInt64) (d : UInt64) (hb : bX4_made_0 a b d (fun x  => rFit (some .double) (some (.double x)) ∧ post (some (.double x)) (σ)) ) : G 0 [(0, .int a), (1, .double b), (3, .double d)] [] (σ) := by
  unfold bX4_made_0 at hb
  refine hG 400 false 0 _ _ _ ?_
  refine And.intro (fun (h : a.toInt < 2 ∨ 15 < a.toInt) => ?_) ?_
  · rw [if_pos h] at hb
    refine And.intro (fun (h : (Op.cmpValue (FP.dcmp b b) .l) = 0) => ?_) (fun (h : ¬ (Op.cmpValue (FP.dcmp b b) .l) = 0) => ?_)
    · rw [if_pos h] at hb
      exact hb
    · rw [if_neg h] at hb
      exact hb
  refine And.intro (fun (hw : a = (2 : Int32)) => ?_) ?_
  · rw [if_neg (show ¬ (a.toInt < 2 ∨ 15 < a.toInt) by rw [hw]; decide), if_pos hw] at hb
    refine And.intro trivial (mnX4_added ?_ hb)
    intro r1 hb
    exact hb
  refine And.intro (fun (hw : a = (3 : Int32)) => ?_) ?_
  · rw [if_neg (show ¬ (a.toInt < 2 ∨ 15 < a.toInt) by rw [hw]; decide), if_neg (show ¬ (a = (2 : Int32)) by rw [hw]; decide), if_pos hw] at hb
    refine And.intro trivial (mnX4_lessened ?_ hb)
    intro r2 hb
    exact hb
  refine And.intro (fun (hw : a = (4 : Int32)) => ?_) ?_
  · rw [if_neg (show ¬ (a.toInt < 2 ∨ 15 < a.toInt) by rw [hw]; decide), if_neg (show ¬ (a = (2 : Int32)) by rw [hw]; decide), if_neg (show ¬ (a = (3 : Int32)) by rw [hw]; decide), if_pos hw] at hb
    refine And.intro trivial (mnX4_timed ?_ hb)
    intro r3 hb
    exact hb
  refine And.intro (fun (hw : a = (5 : Int32)) => ?_) ?_
  · rw [if_neg (show ¬ (a.toInt < 2 ∨ 15 < a.toInt) by rw [hw]; decide), if_neg (show ¬ (a = (2 : Int32)) by rw [hw]; decide), if_neg (show ¬ (a = (3 : Int32)) by rw [hw]; decide), if_neg (show ¬ (a = (4 : Int32)) by rw [hw]; decide), if_pos hw] at hb
    refine And.intro trivial (mnX4_divided ?_ hb)
    intro r4 hb
    exact hb
  refine And.intro (fun (hw : a = (6 : Int32)) => ?_) ?_
  · rw [if_neg (show ¬ (a.toInt < 2 ∨ 15 < a.toInt) by rw [hw]; decide), if_neg (show ¬ (a = (2 : Int32)) by rw [hw]; decide), if_neg (show ¬ (a = (3 : Int32)) by rw [hw]; decide), if_neg (show ¬ (a = (4 : Int32)) by rw [hw]; decide), if_neg (show ¬ (a = (5 : Int32)) by rw [hw]; decide), if_pos hw] at hb
    refine And.intro trivial (mnX4_least ?_ hb)
    intro r5 hb
    exact hb
  refine And.intro (fun (hw : a = (7 : Int32)) => ?_) ?_
  · rw [if_neg (show ¬ (a.toInt < 2 ∨ 15 < a.toInt) by rw [hw]; decide), if_neg (show ¬ (a = (2 : Int32)) by rw [hw]; decide), if_neg (show ¬ (a = (3 : Int32)) by rw [hw]; decide), if_neg (show ¬ (a = (4 : Int32)) by rw [hw]; decide), if_neg (show ¬ (a = (5 : Int32)) by rw [hw]; decide), if_neg (show ¬ (a = (6 : Int32)) by rw [hw]; decide), if_pos hw] at hb
    refine And.intro trivial (mnX4_greatest ?_ hb)
    intro r6 hb
    exact hb
  refine And.intro (fun (hw : a = (8 : Int32)) => ?_) ?_
  · rw [if_neg (show ¬ (a.toInt < 2 ∨ 15 < a.toInt) by rw [hw]; decide), if_neg (show ¬ (a = (2 : Int32)) by rw [hw]; decide), if_neg (show ¬ (a = (3 : Int32)) by rw [hw]; decide), if_neg (show ¬ (a = (4 : Int32)) by rw [hw]; decide), if_neg (show ¬ (a = (5 : Int32)) by rw [hw]; decide), if_neg (show ¬ (a = (6 : Int32)) by rw [hw]; decide), if_neg (show ¬ (a = (7 : Int32)) by rw [hw]; decide), if_pos hw] at hb
    refine And.intro trivial (mnX4_size ?_ hb)
    intro r7 hb
    exact hb
  refine And.intro (fun (hw : a = (9 : Int32)) => ?_) ?_
  · rw [if_neg (show ¬ (a.toInt < 2 ∨ 15 < a.toInt) by rw [hw]; decide), if_neg (show ¬ (a = (2 : Int32)) by rw [hw]; decide), if_neg (show ¬ (a = (3 : Int32)) by rw [hw]; decide), if_neg (show ¬ (a = (4 : Int32)) by rw [hw]; decide), if_neg (show ¬ (a = (5 : Int32)) by rw [hw]; decide), if_neg (show ¬ (a = (6 : Int32)) by rw [hw]; decide), if_neg (show ¬ (a = (7 : Int32)) by rw [hw]; decide), if_neg (show ¬ (a = (8 : Int32)) by rw [hw]; decide), if_pos hw] at hb
    refine And.intro trivial (mnX4_root ?_ hb)
    intro r8 hb
    exact hb
  refine And.intro (fun (hw : a = (10 : Int32)) => ?_) ?_
  · rw [if_neg (show ¬ (a.toInt < 2 ∨ 15 < a.toInt) by rw [hw]; decide), if_neg (show ¬ (a = (2 : Int32)) by rw [hw]; decide), if_neg (show ¬ (a = (3 : Int32)) by rw [hw]; decide), if_neg (show ¬ (a = (4 : Int32)) by rw [hw]; decide), if_neg (show ¬ (a = (5 : Int32)) by rw [hw]; decide), if_neg (show ¬ (a = (6 : Int32)) by rw [hw]; decide), if_neg (show ¬ (a = (7 : Int32)) by rw [hw]; decide), if_neg (show ¬ (a = (8 : Int32)) by rw [hw]; decide), if_neg (show ¬ (a = (9 : Int32)) by rw [hw]; decide), if_pos hw] at hb
    refine And.intro trivial (mnX4_timed ?_ hb)
    intro r9 hb
    exact hb
  refine And.intro (fun (hw : a = (11 : Int32)) => ?_) ?_
  · rw [if_neg (show ¬ (a.toInt < 2 ∨ 15 < a.toInt) by rw [hw]; decide), if_neg (show ¬ (a = (2 : Int32)) by rw [hw]; decide), if_neg (show ¬ (a = (3 : Int32)) by rw [hw]; decide), if_neg (show ¬ (a = (4 : Int32)) by rw [hw]; decide), if_neg (show ¬ (a = (5 : Int32)) by rw [hw]; decide), if_neg (show ¬ (a = (6 : Int32)) by rw [hw]; decide), if_neg (show ¬ (a = (7 : Int32)) by rw [hw]; decide), if_neg (show ¬ (a = (8 : Int32)) by rw [hw]; decide), if_neg (show ¬ (a = (9 : Int32)) by rw [hw]; decide), if_neg (show ¬ (a = (10 : Int32)) by rw [hw]; decide), if_pos hw] at hb
    refine And.intro trivial (mnX4_floor ?_ hb)
    intro r10 hb
    exact hb
  refine And.intro (fun (hw : a = (12 : Int32)) => ?_) ?_
  · rw [if_neg (show ¬ (a.toInt < 2 ∨ 15 < a.toInt) by rw [hw]; decide), if_neg (show ¬ (a = (2 : Int32)) by rw [hw]; decide), if_neg (show ¬ (a = (3 : Int32)) by rw [hw]; decide), if_neg (show ¬ (a = (4 : Int32)) by rw [hw]; decide), if_neg (show ¬ (a = (5 : Int32)) by rw [hw]; decide), if_neg (show ¬ (a = (6 : Int32)) by rw [hw]; decide), if_neg (show ¬ (a = (7 : Int32)) by rw [hw]; decide), if_neg (show ¬ (a = (8 : Int32)) by rw [hw]; decide), if_neg (show ¬ (a = (9 : Int32)) by rw [hw]; decide), if_neg (show ¬ (a = (10 : Int32)) by rw [hw]; decide), if_neg (show ¬ (a = (11 : Int32)) by rw [hw]; decide), if_pos hw] at hb
    refine And.intro (fun (h : (Op.cmpValue (FP.dcmp b b) .l) = 0) => ?_) (fun (h : ¬ (Op.cmpValue (FP.dcmp b b) .l) = 0) => ?_)
    · rw [if_pos h] at hb
      exact hb
    · rw [if_neg h] at hb
      exact hb
  refine And.intro (fun (hw : a = (13 : Int32)) => ?_) ?_
  · rw [if_neg (show ¬ (a.toInt < 2 ∨ 15 < a.toInt) by rw [hw]; decide), if_neg (show ¬ (a = (2 : Int32)) by rw [hw]; decide), if_neg (show ¬ (a = (3 : Int32)) by rw [hw]; decide), if_neg (show ¬ (a = (4 : Int32)) by rw [hw]; decide), if_neg (show ¬ (a = (5 : Int32)) by rw [hw]; decide), if_neg (show ¬ (a = (6 : Int32)) by rw [hw]; decide), if_neg (show ¬ (a = (7 : Int32)) by rw [hw]; decide), if_neg (show ¬ (a = (8 : Int32)) by rw [hw]; decide), if_neg (show ¬ (a = (9 : Int32)) by rw [hw]; decide), if_neg (show ¬ (a = (10 : Int32)) by rw [hw]; decide), if_neg (show ¬ (a = (11 : Int32)) by rw [hw]; decide), if_neg (show ¬ (a = (12 : Int32)) by rw [hw]; decide), if_pos hw] at hb
    refine And.intro (fun (h : (Op.cmpValue (FP.dcmp b b) .l) = 0) => ?_) (fun (h : ¬ (Op.cmpValue (FP.dcmp b b) .l) = 0) => ?_)
    · rw [if_pos h] at hb
      obtain ⟨hi, hb⟩ := hb
      refine And.intro hi ?_
      obtain ⟨hi, hb⟩ := hb
      refine And.intro hi ?_
      exact hb
    · rw [if_neg h] at hb
      exact hb
  refine And.intro (fun (hw : a = (14 : Int32)) => ?_) ?_
  · rw [if_neg (show ¬ (a.toInt < 2 ∨ 15 < a.toInt) by rw [hw]; decide), if_neg (show ¬ (a = (2 : Int32)) by rw [hw]; decide), if_neg (show ¬ (a = (3 : Int32)) by rw [hw]; decide), if_neg (show ¬ (a = (4 : Int32)) by rw [hw]; decide), if_neg (show ¬ (a = (5 : Int32)) by rw [hw]; decide), if_neg (show ¬ (a = (6 : Int32)) by rw [hw]; decide), if_neg (show ¬ (a = (7 : Int32)) by rw [hw]; decide), if_neg (show ¬ (a = (8 : Int32)) by rw [hw]; decide), if_neg (show ¬ (a = (9 : Int32)) by rw [hw]; decide), if_neg (show ¬ (a = (10 : Int32)) by rw [hw]; decide), if_neg (show ¬ (a = (11 : Int32)) by rw [hw]; decide), if_neg (show ¬ (a = (12 : Int32)) by rw [hw]; decide), if_neg (show ¬ (a = (13 : Int32)) by rw [hw]; decide), if_pos hw] at hb
    refine And.intro (fun (h : ¬ (Op.cmpValue (FP.dcmp b b) .l) = 0) => ?_) (fun hq => have h : (Op.cmpValue (FP.dcmp b b) .l) = 0 := Classical.not_not.mp hq; ?_)
    · rw [if_neg h] at hb
      exact hb
    · rw [if_pos h] at hb
      refine And.intro (fun (h : ¬ (Op.cmpValue (FP.dcmp b (FP.dconst0 : UInt64)) .l) = 0) => ?_) (fun hq => have h : (Op.cmpValue (FP.dcmp b (FP.dconst0 : UInt64)) .l) = 0 := Classical.not_not.mp hq; ?_)
      · rw [if_neg h] at hb
        refine And.intro (fun (h : 0 ≤ (Op.cmpValue (FP.dcmp b (FP.dconst0 : UInt64)) .g)) => ?_) (fun (h : ¬ 0 ≤ (Op.cmpValue (FP.dcmp b (FP.dconst0 : UInt64)) .g)) => ?_)
        · rw [if_pos h] at hb
          exact hb
        · rw [if_neg h] at hb
          exact hb
      · rw [if_pos h] at hb
        exact hb
  refine And.intro (fun (hw : a = (15 : Int32)) => ?_) ?_
  · rw [if_neg (show ¬ (a.toInt < 2 ∨ 15 < a.toInt) by rw [hw]; decide), if_neg (show ¬ (a = (2 : Int32)) by rw [hw]; decide), if_neg (show ¬ (a = (3 : Int32)) by rw [hw]; decide), if_neg (show ¬ (a = (4 : Int32)) by rw [hw]; decide), if_neg (show ¬ (a = (5 : Int32)) by rw [hw]; decide), if_neg (show ¬ (a = (6 : Int32)) by rw [hw]; decide), if_neg (show ¬ (a = (7 : Int32)) by rw [hw]; decide), if_neg (show ¬ (a = (8 : Int32)) by rw [hw]; decide), if_neg (show ¬ (a = (9 : Int32)) by rw [hw]; decide), if_neg (show ¬ (a = (10 : Int32)) by rw [hw]; decide), if_neg (show ¬ (a = (11 : Int32)) by rw [hw]; decide), if_neg (show ¬ (a = (12 : Int32)) by rw [hw]; decide), if_neg (show ¬ (a = (13 : Int32)) by rw [hw]; decide), if_neg (show ¬ (a = (14 : Int32)) by rw [hw]; decide)] at hb
    refine And.intro (fun (h : (Op.cmpValue (FP.dcmp b b) .l) = 0) => ?_) (fun (h : ¬ (Op.cmpValue (FP.dcmp b b) .l) = 0) => ?_)
    · rw [if_pos h] at hb
      exact hb
    · rw [if_neg h] at hb
      exact hb
  exact trivial
set_option maxRecDepth 20000 in
theorem okX4_made (l : Launch) : OK l yX4_made cX4_made 5 (some .double) 6 tX4_made := by
  intro D τ ρ A as σ post h
  unfold tX4_made at h; split at h
  · rename_i a b d; have hw := h.2
    refine met_of (P := pgX4_made) (CE := ceX4_made) (cut := cutX4_made) (by decide) kkX4_made (coX4_made l) (Nat.le_of_ble_eq_true rfl) ?_
    intro G hG
    unfold wX4_made at hw
    refine lbX4_made_0 hG σ a b d (mbX4_made_0 ?_  hw)
    · exact fun _ h => ⟨trivial, h⟩
  · exact h.elim
def bX4_sizeLow_0 (a : UInt64) (b : UInt64) (kr : UInt64 → Prop)  : Prop :=
  (if (Op.cmpValue (FP.dcmp a (FP.dconst0 : UInt64)) .g) < 0 then
    (if 0 < (Op.cmpValue (FP.dcmp b (FP.dconst0 : UInt64)) .l) then
      kr (FP.dconst0 : UInt64) 
    else
      kr (FP.dneg b) )
  else
    kr a )
set_option maxRecDepth 20000 in
theorem mbX4_sizeLow_0 {a : UInt64} {b : UInt64} {kr kq : UInt64 → Prop}  (hr : ∀ x , kr x  → kq x )  (h : bX4_sizeLow_0 a b kr ) : bX4_sizeLow_0 a b kq  := by
  unfold bX4_sizeLow_0 at h ⊢
  by_cases hc : (Op.cmpValue (FP.dcmp a (FP.dconst0 : UInt64)) .g) < 0
  · rw [if_pos hc] at h ⊢
    by_cases hc : 0 < (Op.cmpValue (FP.dcmp b (FP.dconst0 : UInt64)) .l)
    · rw [if_pos hc] at h ⊢
      exact hr _ h
    · rw [if_neg hc] at h ⊢
      exact hr _ h
  · rw [if_neg hc] at h ⊢
    exact hr _ h
def wX4_sizeLow (a : UInt64) (b : UInt64) (kr : UInt64 → Prop) : Prop := bX4_sizeLow_0 a b kr 
theorem mnX4_sizeLow {a : UInt64} {b : UInt64} {kr kq : UInt64 → Prop} (hr : ∀ x , kr x  → kq x ) (h : wX4_sizeLow a b kr) : wX4_sizeLow a b kq := mbX4_sizeLow_0 hr  h
def tX4_sizeLow : Tr := fun as σ k => match as with
  | [.double a, .double b] => True ∧ wX4_sizeLow a b (fun x  => k (some (.double x)) (σ))
  | _ => False
def ceX4_sizeLow : List (Nat × Nat × Tr) := []
theorem coX4_sizeLow (l : Launch) : CEok l yX4_sizeLow.cls 0 ceX4_sizeLow := ce_0
abbrev cutX4_sizeLow : List (Nat × List Nat) := []
set_option maxRecDepth 20000 in
set_option maxHeartbeats 4000000 in
theorem lbX4_sizeLow_0 {G : Nat → LV → List Value → aS → Prop} {post : Option Value → aS → Prop} (hG : ∀ n b pc lv st σ, seg (0, fun _ => 0) pgX4_sizeLow ceX4_sizeLow cutX4_sizeLow G (fun v σ => rFit (some .double) v ∧ post v σ) n b pc lv st σ → G pc lv st σ) (σ : aS) (a : UInt64) (b : UInt64) (hb : bX4_sizeLow_0 a b (fun x  => rFit (some .double) (some (.double x)) ∧ post (some (.double x)) (σ)) ) : G 0 [(0, .double a), (2, .double b)] [] (σ) := by
  unfold bX4_sizeLow_0 at hb
  refine hG 400 false 0 _ _ _ ?_
  refine And.intro (fun (h : (Op.cmpValue (FP.dcmp a (FP.dconst0 : UInt64)) .g) < 0) => ?_) (fun (h : ¬ (Op.cmpValue (FP.dcmp a (FP.dconst0 : UInt64)) .g) < 0) => ?_)
  · rw [if_pos h] at hb
    refine And.intro (fun (h : 0 < (Op.cmpValue (FP.dcmp b (FP.dconst0 : UInt64)) .l)) => ?_) (fun (h : ¬ 0 < (Op.cmpValue (FP.dcmp b (FP.dconst0 : UInt64)) .l)) => ?_)
    · rw [if_pos h] at hb
      exact hb
    · rw [if_neg h] at hb
      exact hb
  · rw [if_neg h] at hb
    exact hb
set_option maxRecDepth 20000 in
theorem okX4_sizeLow (l : Launch) : OK l yX4_sizeLow cX4_sizeLow 4 (some .double) 0 tX4_sizeLow := by
  intro D τ ρ A as σ post h
  unfold tX4_sizeLow at h; split at h
  · rename_i a b; have hw := h.2
    refine met_of (P := pgX4_sizeLow) (CE := ceX4_sizeLow) (cut := cutX4_sizeLow) (by decide) kkX4_sizeLow (coX4_sizeLow l) (Nat.le_of_ble_eq_true rfl) ?_
    intro G hG
    unfold wX4_sizeLow at hw
    refine lbX4_sizeLow_0 hG σ a b (mbX4_sizeLow_0 ?_  hw)
    · exact fun _ h => ⟨trivial, h⟩
  · exact h.elim
def bX4_sizeHigh_0 (a : UInt64) (b : UInt64) (kr : UInt64 → Prop)  : Prop :=
  (if (Op.cmpValue (FP.dcmp a (FP.dconst0 : UInt64)) .g) < 0 then
    (if 0 < (Op.cmpValue (FP.dcmp b (FP.dconst0 : UInt64)) .l) then
      (wX4_greatest (FP.dneg a) b (fun r1 => kr r1 ))
    else
      kr (FP.dneg a) )
  else
    kr b )
set_option maxRecDepth 20000 in
theorem mbX4_sizeHigh_0 {a : UInt64} {b : UInt64} {kr kq : UInt64 → Prop}  (hr : ∀ x , kr x  → kq x )  (h : bX4_sizeHigh_0 a b kr ) : bX4_sizeHigh_0 a b kq  := by
  unfold bX4_sizeHigh_0 at h ⊢
  by_cases hc : (Op.cmpValue (FP.dcmp a (FP.dconst0 : UInt64)) .g) < 0
  · rw [if_pos hc] at h ⊢
    by_cases hc : 0 < (Op.cmpValue (FP.dcmp b (FP.dconst0 : UInt64)) .l)
    · rw [if_pos hc] at h ⊢
      refine mnX4_greatest ?_ h
      intro r1 h
      exact hr _ h
    · rw [if_neg hc] at h ⊢
      exact hr _ h
  · rw [if_neg hc] at h ⊢
    exact hr _ h
def wX4_sizeHigh (a : UInt64) (b : UInt64) (kr : UInt64 → Prop) : Prop := bX4_sizeHigh_0 a b kr 
theorem mnX4_sizeHigh {a : UInt64} {b : UInt64} {kr kq : UInt64 → Prop} (hr : ∀ x , kr x  → kq x ) (h : wX4_sizeHigh a b kr) : wX4_sizeHigh a b kq := mbX4_sizeHigh_0 hr  h
def tX4_sizeHigh : Tr := fun as σ k => match as with
  | [.double a, .double b] => True ∧ wX4_sizeHigh a b (fun x  => k (some (.double x)) (σ))
  | _ => False
def ceX4_sizeHigh : List (Nat × Nat × Tr) := (2 * 156, 2, tX4_greatest) :: []
theorem coX4_sizeHigh (l : Launch) : CEok l yX4_sizeHigh.cls 5 ceX4_sizeHigh := ce_S (okX4_greatest l) (mw 785 (by decide +kernel) rfl) (mw 786 (by decide +kernel) rfl) (mw 4 (by decide +kernel) rfl) (mw 787 (by decide +kernel) rfl) (by decide) ⟨by decide, by decide⟩ (ce_0)
abbrev cutX4_sizeHigh : List (Nat × List Nat) := []
set_option maxRecDepth 20000 in
set_option maxHeartbeats 4000000 in
theorem lbX4_sizeHigh_0 {G : Nat → LV → List Value → aS → Prop} {post : Option Value → aS → Prop} (hG : ∀ n b pc lv st σ, seg (0, fun _ => 0) pgX4_sizeHigh ceX4_sizeHigh cutX4_sizeHigh G (fun v σ => rFit (some .double) v ∧ post v σ) n b pc lv st σ → G pc lv st σ) (σ : aS) (a : UInt64) (b : UInt64) (hb : bX4_sizeHigh_0 a b (fun x  => rFit (some .double) (some (.double x)) ∧ post (some (.double x)) (σ)) ) : G 0 [(0, .double a), (2, .double b)] [] (σ) := by
  unfold bX4_sizeHigh_0 at hb
  refine hG 400 false 0 _ _ _ ?_
  refine And.intro (fun (h : (Op.cmpValue (FP.dcmp a (FP.dconst0 : UInt64)) .g) < 0) => ?_) (fun (h : ¬ (Op.cmpValue (FP.dcmp a (FP.dconst0 : UInt64)) .g) < 0) => ?_)
  · rw [if_pos h] at hb
    refine And.intro (fun (h : 0 < (Op.cmpValue (FP.dcmp b (FP.dconst0 : UInt64)) .l)) => ?_) (fun (h : ¬ 0 < (Op.cmpValue (FP.dcmp b (FP.dconst0 : UInt64)) .l)) => ?_)
    · rw [if_pos h] at hb
      refine And.intro trivial (mnX4_greatest ?_ hb)
      intro r1 hb
      exact hb
    · rw [if_neg h] at hb
      exact hb
  · rw [if_neg h] at hb
    exact hb
set_option maxRecDepth 20000 in
theorem okX4_sizeHigh (l : Launch) : OK l yX4_sizeHigh cX4_sizeHigh 4 (some .double) 5 tX4_sizeHigh := by
  intro D τ ρ A as σ post h
  unfold tX4_sizeHigh at h; split at h
  · rename_i a b; have hw := h.2
    refine met_of (P := pgX4_sizeHigh) (CE := ceX4_sizeHigh) (cut := cutX4_sizeHigh) (by decide) kkX4_sizeHigh (coX4_sizeHigh l) (Nat.le_of_ble_eq_true rfl) ?_
    intro G hG
    unfold wX4_sizeHigh at hw
    refine lbX4_sizeHigh_0 hG σ a b (mbX4_sizeHigh_0 ?_  hw)
    · exact fun _ h => ⟨trivial, h⟩
  · exact h.elim
