theorem nI_iff {a b : Nat} (ha : a < 1000) (hb : b < 1000) : nI a = nI b ↔ a = b := ⟨fun e => Classical.byContradiction fun q => nI_ne (by omega) (by omega) q e, fun e => by rw [e]⟩
theorem lm_WN {S : St} (hS : ∀ b, b < S.1 2 → BoxS S b) (q : Nat) : ∀ n, n ≤ S.1 2 → WN (lmT S q n)
  | 0 => fun _ => WN_0
  | n + 1 => fun hn => by
    have ih := lm_WN hS q n (by omega)
    show WN (if S.2 7 n = q then _ else _)
    split
    · exact WN_zl (sDn_cn (pl_WN ih (hS n (by omega)).2.2.2.1).2.1).1
    · exact ih
theorem hm_WN {S : St} (hS : ∀ b, b < S.1 2 → BoxS S b) (q : Nat) : ∀ n, n ≤ S.1 2 → WN (hmT S q n)
  | 0 => fun _ => WN_0
  | n + 1 => fun hn => by
    have ih := hm_WN hS q n (by omega)
    show WN (if S.2 7 n = q then _ else _)
    split
    · exact WN_up (pl_WN ih (hS n (by omega)).2.2.2.2).2
    · exact ih
theorem bS_of {c : CS} {S : St} (hc : RC c S) (hp : 0 < S.1 2) : ∀ b, b < S.1 2 → BoxS S b := fun b hb => (((hc.2 hp).2.2.2 b hb).2 trivial).2
theorem c_lowMass {c : CS} {S : St} (hc : RC c S) (hp : 0 < S.1 2) {q : Nat} (hq : q ≤ 3) {kr : Int64 → CS → Prop} (K : kr (lN (lmT S q (S.1 2))) c) : wX2_lowMass c (nI q) kr := by
  have h100 := hc.1.1.2.1
  have hS := bS_of hc hp
  unfold wX2_lowMass bX2_lowMass_0
  refine ⟨S.1 2 + 1, ?_⟩
  have loop : ∀ (j k : Nat), j + k = S.1 2 → itX2_lowMass_5 kr (j + 1) (nI q) (lN (lmT S q k)) (nI k) c := by
    intro j
    induction j with
    | zero =>
      intro k e
      have : k = S.1 2 := by omega
      subst this
      show bX2_lowMass_5 c (nI q) _ (nI (S.1 2)) kr _
      unfold bX2_lowMass_5
      rw [hc.1.2.2.1]
      exact ifp ((nI_leX (by omega) (by omega)).mpr (Nat.le_refl _)) K
    | succ j ih =>
      intro k e
      have nx := ih (k + 1) (by omega)
      have el : lmT S q (k + 1) = if S.2 7 k = q then sZl (sDn (sPl (lmT S q k) (S.2 8 k))) else lmT S q k := rfl
      obtain ⟨bc, bs⟩ := ((hc.2 hp).2.2.2 k (by omega)).2 trivial
      have ik := in_nI (show k < 100 by omega) (by decide)
      have wl := lm_WN hS q k (by omega)
      have pl := (sPl_cn wl.1 bs.2.2.2.1.1).1
      show bX2_lowMass_5 c (nI q) (lN (lmT S q k)) (nI k) kr (fun z1 z2 z4 X => itX2_lowMass_5 kr (j + 1) z1 z2 z4 X)
      unfold bX2_lowMass_5
      rw [hc.1.2.2.1, nI_cl (i := k) (by omega), bc.2.1, bc.2.2.1, nI_s (a := k) (by omega), c_plus wl.1 bs.2.2.2.1.1, c_down pl, c_zeroIfLess (sDn_cn pl).1]
      refine ifn (fun z => by rw [nI_leX (by omega) (by omega)] at z; omega) ⟨ik, ifx (nI_iff (by have := bs.2.2.1; omega) (by omega)) (fun z => ⟨ik, ?_⟩) (fun z => ?_)⟩
      · rw [el, if_pos z] at nx; exact nx
      · rw [el, if_neg z] at nx; exact nx
  exact loop (S.1 2) 0 (by omega)
theorem c_highMass {c : CS} {S : St} (hc : RC c S) (hp : 0 < S.1 2) {q : Nat} (hq : q ≤ 3) {kr : Int64 → CS → Prop} (K : kr (lN (hmT S q (S.1 2))) c) : wX2_highMass c (nI q) kr := by
  have h100 := hc.1.1.2.1
  have hS := bS_of hc hp
  unfold wX2_highMass bX2_highMass_0
  refine ⟨S.1 2 + 1, ?_⟩
  have loop : ∀ (j k : Nat), j + k = S.1 2 → itX2_highMass_5 kr (j + 1) (nI q) (lN (hmT S q k)) (nI k) c := by
    intro j
    induction j with
    | zero =>
      intro k e
      have : k = S.1 2 := by omega
      subst this
      show bX2_highMass_5 c (nI q) _ (nI (S.1 2)) kr _
      unfold bX2_highMass_5
      rw [hc.1.2.2.1]
      exact ifp ((nI_leX (by omega) (by omega)).mpr (Nat.le_refl _)) K
    | succ j ih =>
      intro k e
      have nx := ih (k + 1) (by omega)
      have el : hmT S q (k + 1) = if S.2 7 k = q then sUp (sPl (hmT S q k) (S.2 9 k)) else hmT S q k := rfl
      obtain ⟨bc, bs⟩ := ((hc.2 hp).2.2.2 k (by omega)).2 trivial
      have ik := in_nI (show k < 100 by omega) (by decide)
      have wl := hm_WN hS q k (by omega)
      have pl := (sPl_cn wl.1 bs.2.2.2.2.1).1
      show bX2_highMass_5 c (nI q) (lN (hmT S q k)) (nI k) kr (fun z1 z2 z4 X => itX2_highMass_5 kr (j + 1) z1 z2 z4 X)
      unfold bX2_highMass_5
      rw [hc.1.2.2.1, nI_cl (i := k) (by omega), bc.2.1, bc.2.2.2.1, nI_s (a := k) (by omega), c_plus wl.1 bs.2.2.2.2.1, c_up pl]
      refine ifn (fun z => by rw [nI_leX (by omega) (by omega)] at z; omega) ⟨ik, ifx (nI_iff (by have := bs.2.2.1; omega) (by omega)) (fun z => ⟨ik, ?_⟩) (fun z => ?_)⟩
      · rw [el, if_pos z] at nx; exact nx
      · rw [el, if_neg z] at nx; exact nx
  exact loop (S.1 2) 0 (by omega)
theorem raw_a {u v : Nat} (hu : WN u) (hv : WN v) : FP.dadd (dN u) (dN v) = dN (sPl u v) ∧ vf_n64 (dN (sPl u v)) ∧ WN (sPl u v) := by
  have p := pl_WN hu hv
  refine ⟨?_, (n64_N p.2.1).mpr p.2.2.1, p.2⟩
  rw [dadd_N hu.1 hv.1, ← p.1]
theorem m_massLow {m : MS} {S : St} (hm : RM m S) (hp : 0 < S.1 2) {q : Nat} (hq : q ≤ 3) {kr : UInt64 → MS → Prop} (K : kr (dN (lmT S q (S.1 2))) m) : wX4_massLow m (nI q) kr := by
  have h100 := hm.1.1.2.1
  have hS : ∀ b, b < S.1 2 → BoxS S b := fun b hb => (((hm.2.2.2 hp).2 b hb).2 trivial).2
  unfold wX4_massLow bX4_massLow_0
  refine ⟨S.1 2 + 1, ?_⟩
  have loop : ∀ (j k : Nat), j + k = S.1 2 → itX4_massLow_5 kr (j + 1) (nI q) (dN (lmT S q k)) (nI k) m := by
    intro j
    induction j with
    | zero =>
      intro k e
      have : k = S.1 2 := by omega
      subst this
      show bX4_massLow_5 m (nI q) _ (nI (S.1 2)) kr _
      unfold bX4_massLow_5
      rw [hm.1.2.2.1]
      exact ifp ((nI_leX (by omega) (by omega)).mpr (Nat.le_refl _)) K
    | succ j ih =>
      intro k e
      have nx := ih (k + 1) (by omega)
      have el : lmT S q (k + 1) = if S.2 7 k = q then sZl (sDn (sPl (lmT S q k) (S.2 8 k))) else lmT S q k := rfl
      obtain ⟨bm, bs⟩ := ((hm.2.2.2 hp).2 k (by omega)).2 trivial
      have ik := in_nI (show k < 100 by omega) (by decide)
      have wl := lm_WN hS q k (by omega)
      have ra := raw_a wl bs.2.2.2.1
      have nD : ¬ isN (sDn (sPl (lmT S q k) (S.2 8 k))) := by rw [sDn_n ra.2.2.1]; exact ra.2.2.2.1
      show bX4_massLow_5 m (nI q) (dN (lmT S q k)) (nI k) kr (fun z1 z2 z4 X => itX4_massLow_5 kr (j + 1) z1 z2 z4 X)
      unfold bX4_massLow_5
      rw [hm.1.2.2.1, nI_cl (i := k) (by omega), bm.2.1, bm.2.2.1, nI_s (a := k) (by omega), ra.1, d0]
      refine ifn (fun z => by rw [nI_leX (by omega) (by omega)] at z; omega) ⟨ik, ifx (nI_iff (by have := bs.2.2.1; omega) (by omega)) (fun z => ⟨ik, ra.2.1, m_down ra.2.2.cn (ifx (cvg_ge (sDn_cn ra.2.2.1).1 (by decide)) (fun w => ?_) (fun w => ?_))⟩) (fun z => ?_)⟩
      · rw [el, if_pos z, zl_sZl nD, zl_id w] at nx; exact nx
      · have e0 : zl (sDn (sPl (lmT S q k) (S.2 8 k))) = 0 := by unfold zl; rw [if_pos (Classical.not_not.mp w)]
        rw [el, if_pos z, zl_sZl nD, e0] at nx; exact nx
      · rw [el, if_neg z] at nx; exact nx
  exact loop (S.1 2) 0 (by omega)
theorem m_massHigh {m : MS} {S : St} (hm : RM m S) (hp : 0 < S.1 2) {q : Nat} (hq : q ≤ 3) {kr : UInt64 → MS → Prop} (K : kr (dN (hmT S q (S.1 2))) m) : wX4_massHigh m (nI q) kr := by
  have h100 := hm.1.1.2.1
  have hS : ∀ b, b < S.1 2 → BoxS S b := fun b hb => (((hm.2.2.2 hp).2 b hb).2 trivial).2
  unfold wX4_massHigh bX4_massHigh_0
  refine ⟨S.1 2 + 1, ?_⟩
  have loop : ∀ (j k : Nat), j + k = S.1 2 → itX4_massHigh_5 kr (j + 1) (nI q) (dN (hmT S q k)) (nI k) m := by
    intro j
    induction j with
    | zero =>
      intro k e
      have : k = S.1 2 := by omega
      subst this
      show bX4_massHigh_5 m (nI q) _ (nI (S.1 2)) kr _
      unfold bX4_massHigh_5
      rw [hm.1.2.2.1]
      exact ifp ((nI_leX (by omega) (by omega)).mpr (Nat.le_refl _)) K
    | succ j ih =>
      intro k e
      have nx := ih (k + 1) (by omega)
      have el : hmT S q (k + 1) = if S.2 7 k = q then sUp (sPl (hmT S q k) (S.2 9 k)) else hmT S q k := rfl
      obtain ⟨bm, bs⟩ := ((hm.2.2.2 hp).2 k (by omega)).2 trivial
      have ik := in_nI (show k < 100 by omega) (by decide)
      have wl := hm_WN hS q k (by omega)
      have ra := raw_a wl bs.2.2.2.2
      show bX4_massHigh_5 m (nI q) (dN (hmT S q k)) (nI k) kr (fun z1 z2 z4 X => itX4_massHigh_5 kr (j + 1) z1 z2 z4 X)
      unfold bX4_massHigh_5
      rw [hm.1.2.2.1, nI_cl (i := k) (by omega), bm.2.1, bm.2.2.2, nI_s (a := k) (by omega), ra.1]
      refine ifn (fun z => by rw [nI_leX (by omega) (by omega)] at z; omega) ⟨ik, ifx (nI_iff (by have := bs.2.2.1; omega) (by omega)) (fun z => ⟨ik, ra.2.1, m_up ra.2.2.cn ?_⟩) (fun z => ?_)⟩
      · rw [el, if_pos z] at nx; exact nx
      · rw [el, if_neg z] at nx; exact nx
  exact loop (S.1 2) 0 (by omega)
theorem kind_dec (x : Int32) : (∃ q, q ≤ 3 ∧ x = nI q ∧ fX3_isBoxKind x = 1) ∨ (fX3_isBoxKind x = 0 ∧ (x.toInt < 0 ∨ 3 < x.toInt)) := by
  rcases i_dec x 4 (by decide) with ⟨-, -, k, hk, rfl⟩ | h
  · refine .inl ⟨k, by omega, rfl, ?_⟩
    unfold fX3_isBoxKind
    rw [if_neg (by rw [Int32.lt_iff_toInt_lt, t0, nI_toInt (by omega)]; omega), if_neg (by rw [Int32.lt_iff_toInt_lt, t3, nI_toInt (by omega)]; omega)]
  · refine .inr ⟨?_, by omega⟩
    unfold fX3_isBoxKind
    by_cases q : x < 0
    · rw [if_pos q]
    · rw [if_neg q, if_pos]
      rw [Int32.lt_iff_toInt_lt, t0] at q
      rw [Int32.lt_iff_toInt_lt, t3]; omega
theorem a_mass {c : CS} {m : MS} {S : St} (hc : RC c S) (hm : RM m S) (x y : Int32) : Agr Int64 (wX3_mass c x y) (wX4_mass m x y) := by
  have h100 := hc.1.1.2.1
  have hm0 := hm.f0 0
  rcases kind_dec x with ⟨q, hq, rfl, hk⟩ | ⟨hk, hx⟩
  · have q0 : (0 : Int32).toInt ≤ (nI q).toInt := by rw [t0, nI_toInt (by omega)]; omega
    have q3 : (nI q).toInt ≤ (3 : Int32).toInt := by rw [t3, nI_toInt (by omega)]; omega
    by_cases e : fX3_isEnd y = 0
    · have hy : y.toInt < 0 ∨ 1 < y.toInt := by
        rcases end_dec y with rfl | rfl | ⟨-, h⟩
        · rw [end_0] at e; exact absurd e (by decide)
        · rw [end_1] at e; exact absurd e (by decide)
        · exact h
      refine ⟨0, S, fun k K => ?_, fun k K => ?_⟩
      · unfold wX3_mass bX3_mass_0
        rw [hk, e]; exact ifn (by decide) (ifp rfl (K c hc))
      · unfold wX4_mass bX4_mass_0
        exact m_in1 q0 q3 (ifn (by decide) (m_in0 (by rw [t0, t1]; exact hy) (ifp rfl (K _ hm0))))
    · have hy : (y = nI 0 ∨ y = nI 1) := by
        rcases end_dec y with rfl | rfl | ⟨h, -⟩
        · exact .inl rfl
        · exact .inr rfl
        · exact absurd h e
      have y0 : (0 : Int32).toInt ≤ y.toInt := by rcases hy with rfl | rfl <;> decide
      have y1 : y.toInt ≤ (1 : Int32).toInt := by rcases hy with rfl | rfl <;> decide
      by_cases z : S.1 2 = 0
      · refine ⟨0, S, fun k K => ?_, fun k K => ?_⟩
        · unfold wX3_mass bX3_mass_0
          rw [hk, hc.1.2.2.1]; exact ifn (by decide) (ifn e (ifp (by rw [z]; rfl) (K c hc)))
        · unfold wX4_mass bX4_mass_0
          exact m_in1 q0 q3 (ifn (by decide) (m_in1 y0 y1 (ifn (by decide) (ifp (show m.1 3 = 0 by rw [hm.2.1, if_pos z]) (K _ hm0)))))
      · have hp : 0 < S.1 2 := by omega
        have z3 : ¬ (msetI m 0 (0 : Int32)).1 3 = 0 := by show ¬ m.1 3 = 0; rw [hm.2.1, if_neg z]; decide
        have hS := bS_of hc hp
        rcases hy with rfl | rfl
        · refine ⟨lN (lmT S q (S.1 2)), S, fun k K => ?_, fun k K => ?_⟩
          · unfold wX3_mass bX3_mass_0
            rw [hk, hc.1.2.2.1]; exact ifn (by decide) (ifn e (ifn (nI_n0 (by omega) z) (ifp rfl (c_lowMass hc hp hq (K c hc)))))
          · unfold wX4_mass bX4_mass_0
            exact m_in1 q0 q3 (ifn (by decide) (m_in1 y0 y1 (ifn (by decide) (ifn z3 (ifp rfl (m_massLow hm0 hp hq (m_bits (lm_WN hS q _ (Nat.le_refl _)).cn (K _ hm0))))))))
        · refine ⟨lN (hmT S q (S.1 2)), S, fun k K => ?_, fun k K => ?_⟩
          · unfold wX3_mass bX3_mass_0
            rw [hk, hc.1.2.2.1]; exact ifn (by decide) (ifn e (ifn (nI_n0 (by omega) z) (ifn (by decide) (c_highMass hc hp hq (K c hc)))))
          · unfold wX4_mass bX4_mass_0
            exact m_in1 q0 q3 (ifn (by decide) (m_in1 y0 y1 (ifn (by decide) (ifn z3 (ifn (by decide) (m_massHigh hm0 hp hq (m_bits (hm_WN hS q _ (Nat.le_refl _)).cn (K _ hm0))))))))
  · refine ⟨0, S, fun k K => ?_, fun k K => ?_⟩
    · unfold wX3_mass bX3_mass_0
      rw [hk]; exact ifp rfl (K c hc)
    · unfold wX4_mass bX4_mass_0
      exact m_in0 (by rw [t0, t3]; exact hx) (ifp rfl (K _ hm0))
theorem a_odds {c : CS} {m : MS} {S : St} (hc : RC c S) (hm : RM m S) (y : Int32) : Agr Int64 (wX3_odds c y) (wX4_odds m y) := by
  have h100 := hc.1.1.2.1
  have hm0 := hm.f0 0
  by_cases e : fX3_isEnd y = 0
  · have hy : y.toInt < 0 ∨ 1 < y.toInt := by
      rcases end_dec y with rfl | rfl | ⟨-, h⟩
      · rw [end_0] at e; exact absurd e (by decide)
      · rw [end_1] at e; exact absurd e (by decide)
      · exact h
    refine ⟨0, S, fun k K => ?_, fun k K => ?_⟩
    · unfold wX3_odds bX3_odds_0
      rw [e]; exact ifp rfl (K c hc)
    · unfold wX4_odds bX4_odds_0
      exact m_in0 (by rw [t0, t1]; exact hy) (ifp rfl (K _ hm0))
  · have hy : (y = nI 0 ∨ y = nI 1) := by
      rcases end_dec y with rfl | rfl | ⟨h, -⟩
      · exact .inl rfl
      · exact .inr rfl
      · exact absurd h e
    have y0 : (0 : Int32).toInt ≤ y.toInt := by rcases hy with rfl | rfl <;> decide
    have y1 : y.toInt ≤ (1 : Int32).toInt := by rcases hy with rfl | rfl <;> decide
    by_cases z : S.1 2 = 0
    · refine ⟨0, S, fun k K => ?_, fun k K => ?_⟩
      · unfold wX3_odds bX3_odds_0
        rw [hc.1.2.2.1]; exact ifn e (ifp (by rw [z]; rfl) (K c hc))
      · unfold wX4_odds bX4_odds_0
        exact m_in1 y0 y1 (ifn (by decide) (ifp (show m.1 3 = 0 by rw [hm.2.1, if_pos z]) (K _ hm0)))
    · have hp : 0 < S.1 2 := by omega
      have z3 : ¬ (msetI m 0 (0 : Int32)).1 3 = 0 := by show ¬ m.1 3 = 0; rw [hm.2.1, if_neg z]; decide
      have hS := bS_of hc hp
      have n1 : (1 : Int32) = nI 1 := rfl
      have n2 : (2 : Int32) = nI 2 := rfl
      have n3 : (3 : Int32) = nI 3 := rfl
      have L := fun q => lm_WN hS q (S.1 2) (Nat.le_refl _)
      have H := fun q => hm_WN hS q (S.1 2) (Nat.le_refl _)
      rcases hy with rfl | rfl
      · have p1 := raw_a (L 1) (H 2)
        have u1 := WN_up p1.2.2
        have p2 := raw_a u1 (H 3)
        have u2 := WN_up p2.2.2
        have dv := sDi_cn (L 1).1 u2.1
        have dn := sDn_cn dv.1
        refine ⟨lN (sZl (sDn (sDi (lmT S 1 (S.1 2)) (sUp (sPl (sUp (sPl (lmT S 1 (S.1 2)) (hmT S 2 (S.1 2)))) (hmT S 3 (S.1 2))))))), S, fun k K => ?_, fun k K => ?_⟩
        · unfold wX3_odds bX3_odds_0
          rw [hc.1.2.2.1]
          refine ifn e (ifn (nI_n0 (by omega) z) (ifp rfl ?_))
          unfold wX3_lowOdds bX3_lowOdds_0
          rw [n1, n2, n3]
          refine c_lowMass hc hp (by decide) (c_highMass hc hp (by decide) (c_highMass hc hp (by decide) ?_))
          rw [c_plus (L 1).1 (H 2).1, c_up p1.2.2.1, c_plus u1.1 (H 3).1, c_up p2.2.2.1, c_over (L 1).1 u2.1, c_down dv.1, c_zeroIfLess dn.1]
          exact K c hc
        · unfold wX4_odds bX4_odds_0
          refine m_in1 y0 y1 (ifn (by decide) (ifn z3 (ifp rfl ?_)))
          rw [n1, n2, n3]
          refine m_massLow hm0 hp (by decide) (m_massLow hm0 hp (by decide) (m_massHigh hm0 hp (by decide) ?_))
          rw [p1.1]
          refine ⟨p1.2.1, m_up p1.2.2.cn (m_massHigh hm0 hp (by decide) ?_)⟩
          rw [p2.1]
          refine ⟨p2.2.1, m_up p2.2.2.cn (m_divided (L 1).1 u2.1 (m_down dv ?_))⟩
          rw [d0]
          generalize sDn (sDi (lmT S 1 (S.1 2)) (sUp (sPl (sUp (sPl (lmT S 1 (S.1 2)) (hmT S 2 (S.1 2)))) (hmT S 3 (S.1 2))))) = r at *
          have r0 : rk 0 = 0 := by decide
          have ez : ¬ bLe 0 r ↔ isN r ∨ bLt r 0 := by
            constructor
            · intro q
              by_cases n : isN r
              · exact .inl n
              · exact .inr ⟨n, by decide, Int.not_le.mp fun z => q ⟨by decide, n, z⟩⟩
            · rintro (n | l) q
              · exact q.2.1 n
              · have := q.2.2; have := l.2.2; omega
          refine ifx ((cvl_lt dn.1 (by decide)).trans ez) (fun q => ?_) (fun q => ?_)
          · have e0 : sZl r = 0 := by unfold sZl; rw [if_pos q]
            rw [e0] at K; exact m_bits WN_0.cn (K _ hm0)
          · have e0 : sZl r = r := by unfold sZl; rw [if_neg q]
            rw [e0] at K; exact m_bits dn (K _ hm0)
      · have p1 := raw_a (H 1) (H 3)
        have u1 := WN_up p1.2.2
        have p2 := raw_a u1 (L 2)
        have u2 := sDn_cn p2.2.2.1
        have dv := sDi_cn u1.1 u2.1
        have up := sUp_cn dv
        refine ⟨lN (sOm (sUp (sDi (sUp (sPl (hmT S 1 (S.1 2)) (hmT S 3 (S.1 2)))) (sDn (sPl (sUp (sPl (hmT S 1 (S.1 2)) (hmT S 3 (S.1 2)))) (lmT S 2 (S.1 2))))))), S, fun k K => ?_, fun k K => ?_⟩
        · unfold wX3_odds bX3_odds_0
          rw [hc.1.2.2.1]
          refine ifn e (ifn (nI_n0 (by omega) z) (ifn (by decide) ?_))
          unfold wX3_highOdds bX3_highOdds_0
          rw [n1, n2, n3]
          refine c_highMass hc hp (by decide) (c_highMass hc hp (by decide) (c_lowMass hc hp (by decide) ?_))
          rw [c_plus (H 1).1 (H 3).1, c_up p1.2.2.1, c_plus u1.1 (L 2).1, c_down p2.2.2.1, c_over u1.1 u2.1, c_up dv.1, c_oneIfMore up.1]
          exact K c hc
        · unfold wX4_odds bX4_odds_0
          refine m_in1 y0 y1 (ifn (by decide) (ifn z3 (ifn (by decide) ?_)))
          rw [n1, n2, n3]
          refine m_massHigh hm0 hp (by decide) (m_massHigh hm0 hp (by decide) ?_)
          rw [p1.1]
          refine ⟨p1.2.1, m_up p1.2.2.cn (m_massLow hm0 hp (by decide) ?_)⟩
          rw [p2.1]
          refine ⟨p2.2.1, m_down p2.2.2.cn (m_divided u1.1 u2.1 (m_up dv ?_))⟩
          rw [d1]
          generalize sUp (sDi (sUp (sPl (hmT S 1 (S.1 2)) (hmT S 3 (S.1 2)))) (sDn (sPl (sUp (sPl (hmT S 1 (S.1 2)) (hmT S 3 (S.1 2)))) (lmT S 2 (S.1 2))))) = r at *
          have ez : ¬ bLe r 4607182418800017408 ↔ isN r ∨ bLt 4607182418800017408 r := by
            constructor
            · intro q
              by_cases n : isN r
              · exact .inl n
              · exact .inr ⟨by decide, n, Int.not_le.mp fun z => q ⟨n, by decide, z⟩⟩
            · rintro (n | l) q
              · exact q.1 n
              · have := q.2.2; have := l.2.2; omega
          refine ifx ((cvg_gt up.1 (by decide)).trans ez) (fun q => ?_) (fun q => ?_)
          · have e0 : sOm r = 4607182418800017408 := by unfold sOm; rw [if_pos q]
            rw [e0] at K; exact m_bits (Cn_of (by decide) (by decide)) (K _ hm0)
          · have e0 : sOm r = r := by unfold sOm; rw [if_neg q]
            rw [e0] at K; exact m_bits up (K _ hm0)
