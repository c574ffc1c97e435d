/-- seven digits of a quotient: found, rest -/
def qLoop (n : Int64) : Nat → Int64 × Int64 → Int64 × Int64
  | 0, s => s
  | k + 1, s => qLoop n k ((s.1 <<< ((8 : Int32).toInt64 &&& 63)) ||| ((s.2 <<< ((8 : Int32).toInt64 &&& 63)) / n), (s.2 <<< ((8 : Int32).toInt64 &&& 63)) - (s.2 <<< ((8 : Int32).toInt64 &&& 63)) / n * n)
def qFin (s : Int64 × Int64) : Int64 := if lg_cmp s.2 0 = 0 then s.1 else s.1 ||| 1
def fX1_quotient (a b : Int64) : Int64 := if 0 < lg_cmp b 0 then qFin (qLoop b 7 (a / b, a - a / b * b)) else 0
def tX1_quotient : Tr := fun as σ k => match as with
  | [.long a, .long b] => k (some (.long (fX1_quotient a b))) σ
  | _ => False
set_option maxRecDepth 20000 in
theorem okX1_quotient (l : Launch) : OK l yX1_quotient cX1_quotient 10 (some .long) 0 tX1_quotient := by
  intro D τ ρ A as σ post h
  unfold tX1_quotient at h; split at h
  · rename_i a b; have hk := h
    refine met_of (P := pgX1_quotient) (CE := []) (cut := [(25, [0, 2, 4, 5, 7, 9])]) (by decide) kkX1_quotient ce_0 (Nat.le_of_ble_eq_true rfl) ?_
    intro G hG
    refine hG 120 false 0 _ _ _ ?_
    refine And.intro (fun (h0 : 0 < lg_cmp b 0) => ?_) (fun (h0 : ¬ 0 < lg_cmp b 0) => ?_)
    · have hb : ¬ b = 0 := fun e => by rw [e] at h0; exact absurd h0 (by decide)
      rw [fX1_quotient, if_pos h0] at hk
      have loop : ∀ (k j : Nat) (i : Int32) (fd rs : Int64), i = nI j → j + k = 7 → post (some (.long (qFin (qLoop b k (fd, rs))))) σ → G 25 [(0, .long a), (2, .long b), (4, .int 8), (5, .long fd), (7, .long rs), (9, .int i)] [] σ := by
        intro k
        induction k with
        | zero =>
          intro j i fd rs hi hj hp
          have : j = 7 := by omega
          subst this; subst hi
          refine hG 120 false 25 _ _ _ ?_
          refine And.intro (fun _ => ?_) (fun h => absurd (show (7 : Int32) ≤ nI 7 by decide) h)
          refine And.intro (fun (h1 : ¬ lg_cmp rs 0 = 0) => ?_) (fun h1q => have h1 : lg_cmp rs 0 = 0 := Classical.not_not.mp h1q; ?_)
          · exact And.intro trivial (leafL hp (by unfold qFin qLoop; rw [if_neg h1]))
          · exact And.intro trivial (leafL hp (by unfold qFin qLoop; rw [if_pos h1]))
        | succ k ih =>
          intro j i fd rs hi hj hp
          subst hi
          refine hG 120 false 25 _ _ _ ?_
          refine And.intro (fun h => absurd (show nI 7 ≤ nI j from h) (nI_ge (a := j) (b := 7) (by omega) (by omega))) (fun _ => ?_)
          refine And.intro hb (And.intro hb ?_)
          exact ih (j + 1) _ _ _ (nI_1 j) (by omega) hp
      refine And.intro hb (And.intro hb ?_)
      exact loop 7 0 _ _ _ rfl rfl hk
    · exact And.intro trivial (leafL hk (by unfold fX1_quotient; rw [if_neg h0]))
  · exact h.elim
/-- a digit of a root: found, rest -/
def wrStep (m : Int64) (sh : Int32) (s : Int64 × Int64) : Int64 × Int64 :=
  if lg_cmp ((s.2 <<< ((2 : Int32).toInt64 &&& 63)) ||| (if sh < 0 then 0 else (m.toUInt64 >>> (sh.toInt64.toUInt64 &&& Int64.toUInt64 63)).toInt64 &&& 3)) ((s.1 <<< ((2 : Int32).toInt64 &&& 63)) ||| 1) < 0
  then (s.1 <<< ((1 : Int32).toInt64 &&& 63), (s.2 <<< ((2 : Int32).toInt64 &&& 63)) ||| (if sh < 0 then 0 else (m.toUInt64 >>> (sh.toInt64.toUInt64 &&& Int64.toUInt64 63)).toInt64 &&& 3))
  else ((s.1 <<< ((1 : Int32).toInt64 &&& 63)) ||| 1, ((s.2 <<< ((2 : Int32).toInt64 &&& 63)) ||| (if sh < 0 then 0 else (m.toUInt64 >>> (sh.toInt64.toUInt64 &&& Int64.toUInt64 63)).toInt64 &&& 3)) - ((s.1 <<< ((2 : Int32).toInt64 &&& 63)) ||| 1))
def wrLoop (m : Int64) : Nat → Int32 → Int64 × Int64 → Int64 × Int64
  | 0, _, s => s
  | k + 1, sh, s => wrLoop m k (sh + (-2)) (wrStep m sh s)
def fX1_wholeRoot (a : Int64) : Int64 := qFin (wrLoop a 56 52 (0, 0))
def tX1_wholeRoot : Tr := fun as σ k => match as with
  | [.long a] => k (some (.long (fX1_wholeRoot a))) σ
  | _ => False
theorem i32_m2 {x : Int32} (h : -1000 < x.toInt ∧ x.toInt < 1000) : (x + (-2)).toInt = x.toInt - 2 := by
  rw [Int32.toInt_add, show ((-2 : Int32)).toInt = -2 from rfl, Int.bmod_eq_of_le] <;> omega
set_option maxRecDepth 20000 in
theorem okX1_wholeRoot (l : Launch) : OK l yX1_wholeRoot cX1_wholeRoot 11 (some .long) 0 tX1_wholeRoot := by
  intro D τ ρ A as σ post h
  unfold tX1_wholeRoot at h; split at h
  · rename_i a; have hk := h
    refine met_of (P := pgX1_wholeRoot) (CE := []) (cut := [(9, [0, 2, 4, 6])]) (by decide) kkX1_wholeRoot ce_0 (Nat.le_of_ble_eq_true rfl) ?_
    intro G hG
    have loop : ∀ (k : Nat) (sh : Int32) (fd rs : Int64), sh.toInt = 2 * (k : Int) - 60 → k ≤ 56 → post (some (.long (qFin (wrLoop a k sh (fd, rs))))) σ → G 9 [(0, .long a), (2, .long fd), (4, .long rs), (6, .int sh)] [] σ := by
      intro k
      induction k with
      | zero =>
        intro sh fd rs hs _ hp
        refine hG 120 false 9 _ _ _ ?_
        refine And.intro (fun _ => ?_) (fun h => absurd (show sh < (-58 : Int32) by rw [Int32.lt_iff_toInt_lt, hs]; decide) h)
        refine And.intro (fun (h1 : ¬ lg_cmp rs 0 = 0) => ?_) (fun h1q => have h1 : lg_cmp rs 0 = 0 := Classical.not_not.mp h1q; ?_)
        · exact And.intro trivial (leafL hp (by unfold qFin wrLoop; rw [if_neg h1]))
        · exact And.intro trivial (leafL hp (by unfold qFin wrLoop; rw [if_pos h1]))
      | succ k ih =>
        intro sh fd rs hs hk56 hp
        have hn : ¬ sh < (-58 : Int32) := by rw [Int32.lt_iff_toInt_lt, hs, show ((-58 : Int32)).toInt = -58 from rfl]; omega
        have hs2 : (sh + (-2)).toInt = 2 * (k : Int) - 60 := by rw [i32_m2 (by omega), hs]; omega
        refine hG 120 false 9 _ _ _ ?_
        refine And.intro (fun h => absurd h hn) (fun _ => ?_)
        rw [wrLoop] at hp
        refine And.intro (fun (h0 : sh < 0) => ?_) (fun (h0 : ¬ sh < 0) => ?_)
        · refine And.intro (fun (h1 : lg_cmp ((rs <<< ((2 : Int32).toInt64 &&& 63)) ||| 0) ((fd <<< ((2 : Int32).toInt64 &&& 63)) ||| 1) < 0) => ?_) (fun h1 => ?_)
          · have e : wrStep a sh (fd, rs) = (fd <<< ((1 : Int32).toInt64 &&& 63), (rs <<< ((2 : Int32).toInt64 &&& 63)) ||| 0) := by simp only [wrStep, if_pos h0]; rw [if_pos h1]
            rw [e] at hp
            exact ih _ _ _ hs2 (by omega) hp
          · have h1 : ¬ lg_cmp ((rs <<< ((2 : Int32).toInt64 &&& 63)) ||| 0) ((fd <<< ((2 : Int32).toInt64 &&& 63)) ||| 1) < 0 := h1
            have e : wrStep a sh (fd, rs) = ((fd <<< ((1 : Int32).toInt64 &&& 63)) ||| 1, ((rs <<< ((2 : Int32).toInt64 &&& 63)) ||| 0) - ((fd <<< ((2 : Int32).toInt64 &&& 63)) ||| 1)) := by simp only [wrStep, if_pos h0]; rw [if_neg h1]
            rw [e] at hp
            exact ih _ _ _ hs2 (by omega) hp
        · refine And.intro (fun h1 => ?_) (fun h1 => ?_)
          · have h1 : lg_cmp ((rs <<< ((2 : Int32).toInt64 &&& 63)) ||| ((a.toUInt64 >>> (sh.toInt64.toUInt64 &&& Int64.toUInt64 63)).toInt64 &&& 3)) ((fd <<< ((2 : Int32).toInt64 &&& 63)) ||| 1) < 0 := h1
            have e : wrStep a sh (fd, rs) = (fd <<< ((1 : Int32).toInt64 &&& 63), (rs <<< ((2 : Int32).toInt64 &&& 63)) ||| ((a.toUInt64 >>> (sh.toInt64.toUInt64 &&& Int64.toUInt64 63)).toInt64 &&& 3)) := by simp only [wrStep, if_neg h0]; rw [if_pos h1]
            rw [e] at hp
            exact ih _ _ _ hs2 (by omega) hp
          · have h1 : ¬ lg_cmp ((rs <<< ((2 : Int32).toInt64 &&& 63)) ||| ((a.toUInt64 >>> (sh.toInt64.toUInt64 &&& Int64.toUInt64 63)).toInt64 &&& 3)) ((fd <<< ((2 : Int32).toInt64 &&& 63)) ||| 1) < 0 := h1
            have e : wrStep a sh (fd, rs) = ((fd <<< ((1 : Int32).toInt64 &&& 63)) ||| 1, ((rs <<< ((2 : Int32).toInt64 &&& 63)) ||| ((a.toUInt64 >>> (sh.toInt64.toUInt64 &&& Int64.toUInt64 63)).toInt64 &&& 3)) - ((fd <<< ((2 : Int32).toInt64 &&& 63)) ||| 1)) := by simp only [wrStep, if_neg h0]; rw [if_neg h1]
            rw [e] at hp
            exact ih _ _ _ hs2 (by omega) hp
    refine hG 120 false 0 _ _ _ ?_
    exact loop 56 52 _ _ (by decide) (by omega) hk
  · exact h.elim
