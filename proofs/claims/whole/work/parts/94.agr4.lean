/-! COUNTS -/
def cnT (S : St) (q : Nat) : Nat → Nat
  | 0 => 0
  | n + 1 => if S.2 7 n = q then cnT S q n + 1 else cnT S q n
def tcT (S : St) : Nat → Nat
  | 0 => 0
  | n + 1 => if S.2 7 n = 3 ∧ tgt S n then tcT S n + 1 else tcT S n
theorem cnT_le (S : St) (q : Nat) : ∀ n, cnT S q n ≤ n
  | 0 => Nat.le_refl _
  | n + 1 => by
    have := cnT_le S q n
    show (if S.2 7 n = q then cnT S q n + 1 else cnT S q n) ≤ n + 1
    split <;> omega
theorem tcT_le (S : St) : ∀ n, tcT S n ≤ n
  | 0 => Nat.le_refl _
  | n + 1 => by
    have := tcT_le S n
    show (if S.2 7 n = 3 ∧ tgt S n then tcT S n + 1 else tcT S n) ≤ n + 1
    split <;> omega
theorem c_howMany {c : CS} {S : St} (hc : RC c S) (hp : 0 < S.1 2) {q : Nat} (hq : q ≤ 3) {kr : Int32 → CS → Prop} (K : kr (nI (cnT S q (S.1 2))) c) : wX2_howMany c (nI q) kr := by
  have h100 := hc.1.1.2.1
  unfold wX2_howMany bX2_howMany_0
  refine ⟨S.1 2 + 1, ?_⟩
  have loop : ∀ (j k : Nat), j + k = S.1 2 → itX2_howMany_4 kr (j + 1) (nI q) (nI (cnT S q k)) (nI k) c := by
    intro j
    induction j with
    | zero =>
      intro k e
      have : k = S.1 2 := by omega
      subst this
      show bX2_howMany_4 c (nI q) _ (nI (S.1 2)) kr _
      unfold bX2_howMany_4
      rw [hc.1.2.2.1]
      exact ifp ((nI_leX (by omega) (by omega)).mpr (Nat.le_refl _)) K
    | succ j ih =>
      intro k e
      have nx := ih (k + 1) (by omega)
      have el : cnT S q (k + 1) = if S.2 7 k = q then cnT S q k + 1 else cnT S q k := rfl
      have le := cnT_le S q k
      obtain ⟨bc, bs⟩ := ((hc.2 hp).2.2.2 k (by omega)).2 trivial
      have ik := in_nI (show k < 100 by omega) (by decide)
      show bX2_howMany_4 c (nI q) (nI (cnT S q k)) (nI k) kr (fun z1 z2 z3 X => itX2_howMany_4 kr (j + 1) z1 z2 z3 X)
      unfold bX2_howMany_4
      rw [hc.1.2.2.1, nI_cl (i := k) (by omega), bc.2.1, nI_s (a := k) (by omega), nI_s (a := cnT S q k) (by omega)]
      refine ifn (fun z => by rw [nI_leX (by omega) (by omega)] at z; omega) ⟨ik, ifx (nI_iff (by have := bs.2.2.1; omega) (by omega)) (fun z => ?_) (fun z => ?_)⟩
      · rw [el, if_pos z] at nx; exact nx
      · rw [el, if_neg z] at nx; exact nx
  exact loop (S.1 2) 0 (by omega)
theorem nI_z (a : Nat) : nI a + (0 : Int32) = nI a := Int32.add_zero _
theorem m_countOf {m : MS} {S : St} (hm : RM m S) (hp : 0 < S.1 2) {q : Nat} (hq : q ≤ 3) {kr : Int32 → MS → Prop} (K : kr (nI (cnT S q (S.1 2))) m) : wX4_countOf m (nI q) kr := by
  have h100 := hm.1.1.2.1
  unfold wX4_countOf bX4_countOf_0
  refine ⟨S.1 2 + 1, ?_⟩
  have loop : ∀ (j k : Nat), j + k = S.1 2 → itX4_countOf_4 kr (j + 1) (nI q) (nI (cnT S q k)) (nI k) m := by
    intro j
    induction j with
    | zero =>
      intro k e
      have : k = S.1 2 := by omega
      subst this
      show bX4_countOf_4 m (nI q) _ (nI (S.1 2)) kr _
      unfold bX4_countOf_4
      rw [hm.1.2.2.1]
      exact ifp ((nI_leX (by omega) (by omega)).mpr (Nat.le_refl _)) K
    | succ j ih =>
      intro k e
      have nx := ih (k + 1) (by omega)
      have el : cnT S q (k + 1) = if S.2 7 k = q then cnT S q k + 1 else cnT S q k := rfl
      have le := cnT_le S q k
      obtain ⟨bm, bs⟩ := ((hm.2.2.2 hp).2 k (by omega)).2 trivial
      have ik := in_nI (show k < 100 by omega) (by decide)
      show bX4_countOf_4 m (nI q) (nI (cnT S q k)) (nI k) kr (fun z1 z2 z3 X => itX4_countOf_4 kr (j + 1) z1 z2 z3 X)
      unfold bX4_countOf_4
      rw [hm.1.2.2.1, nI_cl (i := k) (by omega), bm.2.1, nI_s (a := k) (by omega), nI_s (a := cnT S q k) (by omega), nI_z]
      refine ifn (fun z => by rw [nI_leX (by omega) (by omega)] at z; omega) ⟨ik, ifx (nI_iff (by have := bs.2.2.1; omega) (by omega)) (fun z => ?_) (fun z => ?_)⟩
      · rw [el, if_pos z] at nx; exact nx
      · rw [el, if_neg z] at nx; exact nx
  exact loop (S.1 2) 0 (by omega)
theorem c_stuck {c : CS} {S : St} (hc : RC c S) {kr : Int32 → CS → Prop} (K : kr (nI (tcT S (S.1 2))) c) : wX2_howManyStuck c kr := by
  have h100 := hc.1.1.2.1
  unfold wX2_howManyStuck bX2_howManyStuck_0
  refine ⟨S.1 2 + 1, ?_⟩
  have loop : ∀ (j k : Nat), j + k = S.1 2 → itX2_howManyStuck_4 kr (j + 1) (nI (tcT S k)) (nI k) c := by
    intro j
    induction j with
    | zero =>
      intro k e
      have : k = S.1 2 := by omega
      subst this
      show bX2_howManyStuck_4 c _ (nI (S.1 2)) kr _
      unfold bX2_howManyStuck_4
      rw [hc.1.2.2.1]
      exact ifp ((nI_leX (by omega) (by omega)).mpr (Nat.le_refl _)) K
    | succ j ih =>
      intro k e
      have nx := ih (k + 1) (by omega)
      have el : tcT S (k + 1) = if S.2 7 k = 3 ∧ tgt S k then tcT S k + 1 else tcT S k := rfl
      have le := tcT_le S k
      obtain ⟨bc, bs⟩ := ((hc.2 (by omega)).2.2.2 k (by omega)).2 trivial
      have ik := in_nI (show k < 100 by omega) (by decide)
      show bX2_howManyStuck_4 c (nI (tcT S k)) (nI k) kr (fun z1 z2 X => itX2_howManyStuck_4 kr (j + 1) z1 z2 X)
      unfold bX2_howManyStuck_4
      rw [hc.1.2.2.1, nI_cl (i := k) (by omega), bc.2.1, bc.2.2.2.2.2.2, nI_s (a := k) (by omega), nI_s (a := tcT S k) (by omega)]
      refine ifn (fun z => by rw [nI_leX (by omega) (by omega)] at z; omega) ⟨ik, ifx (nI_iff (b := 3) (by have := bs.2.2.1; omega) (by decide)) (fun z => ⟨ik, ?_⟩) (fun z => ?_)⟩
      · by_cases t : tgt S k
        · rw [if_pos t]; rw [el, if_pos ⟨z, t⟩] at nx; exact ifn (by decide) nx
        · rw [if_neg t]; rw [el, if_neg (fun w => t w.2)] at nx; exact ifp rfl nx
      · rw [el, if_neg (fun w => z w.1)] at nx; exact nx
  exact loop (S.1 2) 0 (by omega)
theorem m_count {m : MS} {S : St} (hm : RM m S) (x : Int32) {kr : Int32 → MS → Prop} (K : (if x.toInt < 0 ∨ 4 < x.toInt then kr (-2 : Int32) (msetI m 0 0) else if x = (0 : Int32) then kr ((msetI m 0 0).1 1) (msetI m 0 0) else if x = (1 : Int32) then kr ((msetI m 0 0).1 2) (msetI m 0 0) else if x = (2 : Int32) then kr ((msetI m 0 0).1 4) (msetI m 0 0) else if x = (3 : Int32) then kr ((msetI m 0 0).1 5) (msetI m 0 0) else kr (nI (tcT S (S.1 2))) (msetI m 0 0))) : wX4_count m x kr := by
  have h100 := hm.1.1.2.1
  have hm0 := hm.f0 0
  unfold wX4_count bX4_count_0
  refine ⟨S.1 2 + 1, ?_⟩
  generalize msetI m 0 (0 : Int32) = d at *
  have loop : ∀ (j k : Nat), j + k = S.1 2 → itX4_count_9 kr (j + 1) x (nI (tcT S k)) (nI k) d := by
    intro j
    induction j with
    | zero =>
      intro k e
      have : k = S.1 2 := by omega
      subst this
      show bX4_count_9 d x _ (nI (S.1 2)) kr _
      unfold bX4_count_9
      rw [hm0.1.2.2.1] at K ⊢
      exact ifp ((nI_leX (by omega) (by omega)).mpr (Nat.le_refl _)) K
    | succ j ih =>
      intro k e
      have nx := ih (k + 1) (by omega)
      have el : tcT S (k + 1) = if S.2 7 k = 3 ∧ tgt S k then tcT S k + 1 else tcT S k := rfl
      have le := tcT_le S k
      obtain ⟨p0, hbx⟩ := hm0.2.2.2 (by omega)
      obtain ⟨⟨sm, sS, -⟩, hb⟩ := hbx k (by omega)
      obtain ⟨bm, bs⟩ := hb trivial
      have ik := in_nI (show k < 100 by omega) (by decide)
      show bX4_count_9 d x (nI (tcT S k)) (nI k) kr (fun z1 z2 z3 X => itX4_count_9 kr (j + 1) z1 z2 z3 X)
      unfold bX4_count_9
      rw [hm0.1.2.2.1, nI_cl (i := k) (by omega), bm.2.1, nI_s (a := k) (by omega), nI_s (a := tcT S k) (by omega), nI_z]
      refine ifn (fun z => by rw [nI_leX (by omega) (by omega)] at z; omega) ⟨ik, ifx (nI_iff (b := 3) (by have := bs.2.2.1; omega) (by decide)) (fun z => m_tight (by omega) p0 hm0.1.1.1 hm0.1.2.1 sm sS ?_) (fun z => ?_)⟩
      · by_cases t : tgt S k
        · rw [if_pos t]; rw [el, if_pos ⟨z, t⟩] at nx; exact ifn (by decide) nx
        · rw [if_neg t]; rw [el, if_neg (fun w => t w.2)] at nx; exact ifp rfl nx
      · rw [el, if_neg (fun w => z w.1)] at nx; exact nx
  exact loop (S.1 2) 0 (by omega)
theorem a_count {c : CS} {m : MS} {S : St} (hc : RC c S) (hm : RM m S) (x : Int32) : Agr Int32 (wX3_count c x) (wX4_count m x) := by
  have h100 := hc.1.1.2.1
  have hm0 := hm.f0 0
  rcases i_dec x 5 (by decide) with ⟨-, -, n, hn, rfl⟩ | hx
  · have hi : ¬ ((nI n).toInt < 0 ∨ 4 < (nI n).toInt) := by rw [nI_toInt (by omega)]; omega
    have hn : n = 0 ∨ n = 1 ∨ n = 2 ∨ n = 3 ∨ n = 4 := by omega
    rcases hn with rfl | rfl | rfl | rfl | rfl
    · refine ⟨nI (S.1 0), S, fun k K => ?_, fun k K => m_count hm _ ?_⟩
      · unfold wX3_count bX3_count_0
        rw [hc.1.2.1]; exact ifn hi (ifp rfl (K c hc))
      · rw [hm0.1.2.1]; exact ifn hi (ifp rfl (K _ hm0))
    · refine ⟨nI (S.1 1), S, fun k K => ?_, fun k K => m_count hm _ ?_⟩
      · unfold wX3_count bX3_count_0
        rw [hc.1.2.2.2.1.1]; exact ifn hi (ifn (by decide) (ifp rfl (K c hc)))
      · rw [hm0.1.2.2.2.1.1]; exact ifn hi (ifn (by decide) (ifp rfl (K _ hm0)))
    · refine ⟨nI (S.1 2), S, fun k K => ?_, fun k K => m_count hm _ ?_⟩
      · unfold wX3_count bX3_count_0
        rw [hc.1.2.2.1]; exact ifn hi (ifn (by decide) (ifn (by decide) (ifp rfl (K c hc))))
      · rw [hm0.1.2.2.1]; exact ifn hi (ifn (by decide) (ifn (by decide) (ifp rfl (K _ hm0))))
    · refine ⟨nI (S.1 2 - 1), S, fun k K => ?_, fun k K => m_count hm _ ?_⟩
      · unfold wX3_count bX3_count_0
        rw [hc.1.2.2.1]
        refine ifn hi (ifn (by decide) (ifn (by decide) (ifn (by decide) (ifp rfl ?_))))
        by_cases z : S.1 2 = 0
        · rw [z] at K ⊢; exact ifp rfl (K c hc)
        · rw [show (1 : Int32) = nI 1 from rfl, nI_sb (by omega) (by omega)]
          exact ifn (nI_n0 (by omega) z) (K c hc)
      · rw [hm0.2.2.1]; exact ifn hi (ifn (by decide) (ifn (by decide) (ifn (by decide) (ifp rfl (K _ hm0)))))
    · refine ⟨nI (tcT S (S.1 2)), S, fun k K => ?_, fun k K => m_count hm _ ?_⟩
      · unfold wX3_count bX3_count_0
        exact ifn hi (ifn (by decide) (ifn (by decide) (ifn (by decide) (ifn (by decide) (c_stuck hc (K c hc))))))
      · exact ifn hi (ifn (by decide) (ifn (by decide) (ifn (by decide) (ifn (by decide) (K _ hm0)))))
  · refine ⟨-2, S, fun k K => ?_, fun k K => m_count hm _ ?_⟩
    · unfold wX3_count bX3_count_0
      exact ifp (by omega) (K c hc)
    · exact ifp (by omega) (K _ hm0)
/-! CALLS THAT CHANGE -/
theorem c_forget {c : CS} {kr : CS → Prop} (K : ∀ d, d.1 = c.1 → d.2.2 = c.2.2 → (∀ j, j ≠ 2 → d.2.1 j = c.2.1 j) → (∀ r, r < 5 → d.2.1 2 r = -5) → kr d) : wX3_forgetRoles c kr := by
  unfold wX3_forgetRoles bX3_forgetRoles_0
  refine ⟨6, ?_⟩
  have loop : ∀ (j k : Nat) (d : CS), j + k = 5 → d.1 = c.1 → d.2.2 = c.2.2 → (∀ j, j ≠ 2 → d.2.1 j = c.2.1 j) → (∀ r, r < k → d.2.1 2 r = -5) → itX3_forgetRoles_2 kr (j + 1) (nI k) d := by
    intro j
    induction j with
    | zero =>
      intro k d e f1 f2 f3 f4
      have : k = 5 := by omega
      subst this
      show bX3_forgetRoles_2 d (nI 5) kr _
      unfold bX3_forgetRoles_2
      exact ifp (by decide) (K d f1 f2 f3 f4)
    | succ j ih =>
      intro k d e f1 f2 f3 f4
      show bX3_forgetRoles_2 d (nI k) kr (fun z1 X => itX3_forgetRoles_2 kr (j + 1) z1 X)
      unfold bX3_forgetRoles_2
      rw [nI_cl (by omega), nI_s (by omega)]
      refine ifn (fun z => by rw [show (5 : Int32) = nI 5 from rfl, nI_leX (by omega) (by omega)] at z; omega) ⟨in_nI (by omega) (by decide), ih (k + 1) _ (by omega) f1 f2 (fun i hi => ?_) (fun r hr => ?_)⟩
      · show (if i = 2 then _ else d.2.1 i) = _
        rw [if_neg hi]; exact f3 i hi
      · show upd (d.2.1 2) k (-5) r = _
        unfold upd
        by_cases q : r = k
        · rw [if_pos q]
        · rw [if_neg q]; exact f4 r (by omega)
  exact loop 5 0 c rfl rfl rfl (fun _ _ => rfl) (fun r h => by omega)
def clrS (S : St) : St := sI (sI (sI (sR S 5 (fun _ => 0)) 0 0) 1 0) 2 0
theorem a_clear {c : CS} {m : MS} {S : St} (hc : RC c S) (hm : RM m S) : Agr Int32 (wX3_clear c) (wX4_clear m) := by
  refine ⟨nI (S.1 1), clrS S, fun k K => ?_, fun k K => ?_⟩
  · unfold wX3_clear bX3_clear_0
    rw [hc.1.2.2.2.1.1]
    refine c_forget (fun d f1 f2 f3 f4 => K _ ⟨⟨⟨Nat.zero_le _, Nat.zero_le _, fun d hd => absurd hd (Nat.not_lt_zero _)⟩, ?_, rfl, ⟨?_, Nat.zero_le _, fun i hi => absurd hi (Nat.not_lt_zero _)⟩, fun r hr => ⟨f4 r hr, Nat.le_refl _⟩, fun j hj => absurd hj (Nat.not_lt_zero _)⟩, fun q => absurd q (Nat.lt_irrefl _)⟩)
    · show d.1 0 = _
      rw [f1]; rfl
    · show d.1 2 = _
      rw [f1]; rfl
  · unfold wX4_clear bX4_clear_0
    refine ⟨6, ?_⟩
    have e2 : (msetI m 0 (0 : Int32)).1 2 = nI (S.1 1) := (hm.f0 0).1.2.2.2.1.1
    rw [e2]
    have loop : ∀ (j k2 : Nat) (d : MS), j + k2 = 5 → d.1 1 = 0 → d.1 2 = 0 → (∀ r, r < k2 → d.2.1 27 r = -5) → itX4_clear_22 k (j + 1) (nI (S.1 1)) (nI k2) d := by
      intro j
      induction j with
      | zero =>
        intro k2 d e f1 f2 f4
        have : k2 = 5 := by omega
        subst this
        show bX4_clear_22 d (nI (S.1 1)) (nI 5) k _
        unfold bX4_clear_22
        refine ifp (by decide) ?_
        unfold wX4_ends bX4_ends_0
        exact ⟨.inl rfl, K _ ⟨⟨⟨Nat.zero_le _, Nat.zero_le _, fun d hd => absurd hd (Nat.not_lt_zero _)⟩, f1, rfl, ⟨f2, Nat.zero_le _, fun i hi => absurd hi (Nat.not_lt_zero _)⟩, fun r hr => ⟨f4 r hr, Nat.le_refl _⟩, fun j hj => absurd hj (Nat.not_lt_zero _)⟩, rfl, rfl, fun q => absurd q (Nat.lt_irrefl _)⟩⟩
      | succ j ih =>
        intro k2 d e f1 f2 f4
        show bX4_clear_22 d (nI (S.1 1)) (nI k2) k (fun z1 z2 X => itX4_clear_22 k (j + 1) z1 z2 X)
        unfold bX4_clear_22
        rw [nI_cl (by omega), nI_s (by omega)]
        refine ifn (fun z => by rw [show (5 : Int32) = nI 5 from rfl, nI_leX (by omega) (by omega)] at z; omega) ⟨in_nI (by omega) (by decide), ih (k2 + 1) _ (by omega) f1 f2 (fun r hr => ?_)⟩
        show upd (d.2.1 27) k2 (-5) r = _
        unfold upd
        by_cases q : r = k2
        · rw [if_pos q]
        · rw [if_neg q]; exact f4 r (by omega)
    exact loop 5 0 _ rfl rfl rfl (fun r h => by omega)
