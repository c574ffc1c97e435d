/-! POINTS IN BOXES, MASSES, ODDS, COUNTS -/
def inT (S : St) (b x y z : Nat) : Nat → Nat
  | 0 => 1
  | d + 1 => if inT S b x y z d = 1 ∧ bLe (S.2 6 (6 * b + 2 * d)) (tld (three d x y z)) ∧ bLe (tld (three d x y z)) (S.2 6 (6 * b + 2 * d + 1)) then 1 else 0
theorem inT_01 (S : St) (b x y z : Nat) : ∀ d, inT S b x y z d = 0 ∨ inT S b x y z d = 1
  | 0 => .inr rfl
  | d + 1 => by
    show (if _ then 1 else 0) = 0 ∨ (if _ then 1 else 0) = 1
    split
    · exact .inr rfl
    · exact .inl rfl
theorem inT_stay (S : St) (b x y z d : Nat) (h : inT S b x y z d = 0) : ∀ n, inT S b x y z (d + n) = 0
  | 0 => h
  | n + 1 => by
    have ih := inT_stay S b x y z d h n
    show (if inT S b x y z (d + n) = 1 ∧ _ then 1 else 0) = 0
    rw [if_neg (fun q => by rw [ih] at q; exact absurd q.1 (by decide))]
theorem tld_n (u : Nat) : isN (tld u) ↔ isN u := by
  unfold tld
  by_cases h : isN u
  · rw [if_pos h]; exact ⟨fun _ => h, fun _ => by decide⟩
  · rw [if_neg h]
theorem tld_bLe (v u : Nat) : (bLe v (tld u) ↔ bLe v u) ∧ (bLe (tld u) v ↔ bLe u v) := by
  by_cases h : isN u
  · have h2 := (tld_n u).mpr h
    exact ⟨⟨fun q => absurd h2 q.2.1, fun q => absurd h q.2.1⟩, ⟨fun q => absurd h2 q.1, fun q => absurd h q.1⟩⟩
  · have : tld u = u := by unfold tld; rw [if_neg h]
    rw [this]; exact ⟨Iff.rfl, Iff.rfl⟩
theorem c_holds {c : CS} {S : St} (hc : RC c S) {b x y z : Nat} (hb : b < S.1 2) (hx : x < 2 ^ 64) (hy : y < 2 ^ 64) (hz : z < 2 ^ 64) {kr : Int32 → CS → Prop} (K : kr (nI (inT S b x y z (S.1 0))) c) : wX2_holds c (nI b) (lN x) (lN y) (lN z) kr := by
  obtain ⟨hB, hR⟩ := hc
  obtain ⟨p0, e4, -, hbx⟩ := hR (by omega)
  obtain ⟨⟨sc, sS, -⟩, -⟩ := hbx b hb
  have h3 := hB.1.1
  have h100 := hB.1.2.1
  unfold wX2_holds bX2_holds_0
  refine ⟨S.1 0 + 1, ?_⟩
  have loop : ∀ (j k : Nat), j + k = S.1 0 → inT S b x y z k = 1 → itX2_holds_3 kr (j + 1) (nI b) (lN x) (lN y) (lN z) (nI k) c := by
    intro j
    induction j with
    | zero =>
      intro k q h1
      have : k = S.1 0 := by omega
      subst this
      show bX2_holds_3 c (nI b) (lN x) (lN y) (lN z) (nI (S.1 0)) kr _
      unfold bX2_holds_3
      rw [e4]
      rw [h1] at K
      exact ifp ((nI_leX (by omega) (by omega)).mpr (Nat.le_refl _)) K
    | succ j ih =>
      intro k q h1
      show bX2_holds_3 c (nI b) (lN x) (lN y) (lN z) (nI k) kr (fun z1 z2 z4 z6 z8 X => itX2_holds_3 kr (j + 1) z1 z2 z4 z6 z8 X)
      unfold bX2_holds_3
      have s1 := sc (2 * k) (by omega)
      have s2 := sc (2 * k + 1) (by omega)
      rw [← Nat.add_assoc] at s2
      have f1 := sS (2 * k) (by omega)
      have f2 := sS (2 * k + 1) (by omega)
      rw [← Nat.add_assoc] at f2
      have tl := three_lt (f := k) hx hy hz
      rw [e4, c_pl (b := b) (d := k) (by omega), nI_s (a := 6 * b + 2 * k) (by omega), nI_s (a := k) (by omega), nI_cl (i := 6 * b + 2 * k) (by omega), nI_cl (i := 6 * b + 2 * k + 1) (by omega), c_three (by omega), s1, s2, c_fromto tl f1.1 f2.1 (fin_n f1) (fin_n f2)]
      refine ifn (fun w => by rw [nI_leX (by omega) (by omega)] at w; omega) ⟨in_nI (by omega) (by decide), in_nI (by omega) (by decide), ?_⟩
      have ei : inT S b x y z (k + 1) = if inT S b x y z k = 1 ∧ bLe (S.2 6 (6 * b + 2 * k)) (tld (three k x y z)) ∧ bLe (tld (three k x y z)) (S.2 6 (6 * b + 2 * k + 1)) then 1 else 0 := rfl
      by_cases w : bLe (S.2 6 (6 * b + 2 * k)) (three k x y z) ∧ bLe (three k x y z) (S.2 6 (6 * b + 2 * k + 1))
      · rw [if_pos w]
        refine ifn (by decide) (ih (k + 1) (by omega) ?_)
        rw [ei, if_pos ⟨h1, (tld_bLe _ _).1.mpr w.1, (tld_bLe _ _).2.mpr w.2⟩]
      · rw [if_neg w]
        have : inT S b x y z (k + 1) = 0 := by rw [ei, if_neg (fun v => w ⟨(tld_bLe _ _).1.mp v.2.1, (tld_bLe _ _).2.mp v.2.2⟩)]
        have := inT_stay S b x y z (k + 1) this (S.1 0 - (k + 1))
        rw [show k + 1 + (S.1 0 - (k + 1)) = S.1 0 by omega] at this
        rw [this] at K
        exact ifp rfl K
  exact loop (S.1 0) 0 (by omega) rfl
theorem m_isIn {m : MS} {S : St} (hm : RM m S) {b x y z : Nat} (hb : b < S.1 2) (hx : x < 2 ^ 64) (hy : y < 2 ^ 64) (hz : z < 2 ^ 64) {kr : Int32 → MS → Prop} (K : kr (nI (inT S b x y z (S.1 0))) m) : wX4_isIn m (nI b) (dN (tld x)) (dN (tld y)) (dN (tld z)) kr := by
  obtain ⟨hB, -, -, hR⟩ := hm
  obtain ⟨p0, hbx⟩ := hR (by omega)
  obtain ⟨⟨sm, sS, -⟩, -⟩ := hbx b hb
  have h3 := hB.1.1
  have h100 := hB.1.2.1
  unfold wX4_isIn bX4_isIn_0
  refine ⟨S.1 0 + 1, ?_⟩
  have loop : ∀ (j k : Nat), j + k = S.1 0 → itX4_isIn_6 kr (j + 1) (nI b) (dN (tld x)) (dN (tld y)) (dN (tld z)) (nI (inT S b x y z k)) (nI k) m := by
    intro j
    induction j with
    | zero =>
      intro k q
      have : k = S.1 0 := by omega
      subst this
      show bX4_isIn_6 m (nI b) _ _ _ _ (nI (S.1 0)) kr _
      unfold bX4_isIn_6
      rw [hB.2.1]
      refine ifp ((nI_leX (by omega) (by omega)).mpr (Nat.le_refl _)) ⟨?_, K⟩
      rcases inT_01 S b x y z (S.1 0) with h | h <;> rw [h]
      · exact .inl rfl
      · exact .inr rfl
    | succ j ih =>
      intro k q
      have nx := ih (k + 1) (by omega)
      have ei : inT S b x y z (k + 1) = if inT S b x y z k = 1 ∧ bLe (S.2 6 (6 * b + 2 * k)) (tld (three k x y z)) ∧ bLe (tld (three k x y z)) (S.2 6 (6 * b + 2 * k + 1)) then 1 else 0 := rfl
      show bX4_isIn_6 m (nI b) (dN (tld x)) (dN (tld y)) (dN (tld z)) (nI (inT S b x y z k)) (nI k) kr (fun z1 z2 z4 z6 z8 z9 X => itX4_isIn_6 kr (j + 1) z1 z2 z4 z6 z8 z9 X)
      unfold bX4_isIn_6
      have s1 := sm k (by omega)
      have f1 := sS (2 * k) (by omega)
      have f2 := sS (2 * k + 1) (by omega)
      rw [← Nat.add_assoc] at f2
      rw [hB.2.1, nI_3a (b := b) (d := k) (by omega), nI_cl (i := 3 * b + k) (by omega), s1.1, s1.2, nI_s (a := k) (by omega)]
      have ii := in_nI (show 3 * b + k < 300 by omega) (by decide)
      have body : ∀ v, v = tld (three k x y z) → v < 2 ^ 64 →
          (if nI (inT S b x y z k) = 0 then itX4_isIn_6 kr (j + 1) (nI b) (dN (tld x)) (dN (tld y)) (dN (tld z)) (0 : Int32) (nI (k + 1)) m
          else (vp_in (nI (3 * b + k)) 300 ∧ (if (Op.cmpValue (FP.dcmp (dN v) (dN (S.2 6 (6 * b + 2 * k)))) .l) < 0 then itX4_isIn_6 kr (j + 1) (nI b) (dN (tld x)) (dN (tld y)) (dN (tld z)) (0 : Int32) (nI (k + 1)) m
            else (vp_in (nI (3 * b + k)) 300 ∧ (if 0 < (Op.cmpValue (FP.dcmp (dN v) (dN (S.2 6 (6 * b + 2 * k + 1)))) .g) then itX4_isIn_6 kr (j + 1) (nI b) (dN (tld x)) (dN (tld y)) (dN (tld z)) (0 : Int32) (nI (k + 1)) m
              else itX4_isIn_6 kr (j + 1) (nI b) (dN (tld x)) (dN (tld y)) (dN (tld z)) (1 : Int32) (nI (k + 1)) m))))) := by
        intro v ev hv
        rcases inT_01 S b x y z k with h | h
        · rw [h]
          rw [ei.trans (if_neg (fun w => by rw [h] at w; exact absurd w.1 (by decide)))] at nx
          exact ifp rfl nx
        · rw [h]
          refine ifn (by decide) ⟨ii, ifx (cvl_lt hv f1.1) (fun w => ?_) (fun w => ⟨ii, ifx (cvg_gt hv f2.1) (fun w2 => ?_) (fun w2 => ?_)⟩)⟩
          · rw [ei.trans (if_neg (fun u => w (by rw [ev]; exact u.2.1)))] at nx; exact nx
          · rw [ei.trans (if_neg (fun u => w2 (by rw [ev]; exact u.2.2)))] at nx; exact nx
          · rw [ei.trans (if_pos ⟨h, by rw [← ev]; exact Classical.not_not.mp w, by rw [← ev]; exact Classical.not_not.mp w2⟩)] at nx; exact nx
      refine ifn (fun w => by rw [nI_leX (by omega) (by omega)] at w; omega) ?_
      have hk : k = 0 ∨ k = 1 ∨ k = 2 := by omega
      rcases hk with rfl | rfl | rfl
      · exact ifp rfl (body (tld x) rfl (Cn_tld hx).1)
      · exact ifn (by decide) (ifp rfl (body (tld y) rfl (Cn_tld hy).1))
      · exact ifn (by decide) (ifn (by decide) (body (tld z) rfl (Cn_tld hz).1))
  exact loop (S.1 0) 0 (by omega)
theorem a_where {c : CS} {m : MS} {S : St} (hc : RC c S) (hm : RM m S) (x y z : Int64) : Agr Int32 (wX3_where c x y z) (wX4_where m x y z) := by
  have h100 := hc.1.1.2.1
  have hm0 := hm.f0 0
  obtain ⟨u, hu, rfl⟩ := any_lN x
  obtain ⟨v, hv, rfl⟩ := any_lN y
  obtain ⟨w, hw, rfl⟩ := any_lN z
  have find : ∀ (j k : Nat), j + k = S.1 2 → ∃ r : Int32, (∀ kr : Int32 → CS → Prop, kr r c → itX3_where_3 kr (j + 1) (lN u) (lN v) (lN w) (nI k) c) ∧ (∀ kr : Int32 → MS → Prop, kr r (msetI m 0 0) → itX4_where_8 kr (j + 1) (lN u) (lN v) (lN w) (nI k) (msetI m 0 0)) := by
    intro j
    induction j with
    | zero =>
      intro k q
      refine ⟨-5, fun kr K => ?_, fun kr K => ?_⟩
      · show bX3_where_3 c _ _ _ (nI k) kr _
        unfold bX3_where_3
        rw [hc.1.2.2.1]
        exact ifp ((nI_leX (by omega) (by omega)).mpr (by omega)) K
      · show bX4_where_8 (msetI m 0 0) _ _ _ (nI k) kr _
        unfold bX4_where_8
        rw [hm0.1.2.2.1]
        exact ifp ((nI_leX (by omega) (by omega)).mpr (by omega)) K
    | succ j ih =>
      intro k q
      obtain ⟨r, i1, i2⟩ := ih (k + 1) (by omega)
      have hk : k < S.1 2 := by omega
      rcases inT_01 S k u v w (S.1 0) with h | h
      · refine ⟨r, fun kr K => ?_, fun kr K => ?_⟩
        · show bX3_where_3 c (lN u) (lN v) (lN w) (nI k) kr (fun z1 z3 z5 z7 X => itX3_where_3 kr (j + 1) z1 z3 z5 z7 X)
          unfold bX3_where_3
          rw [hc.1.2.2.1, nI_s (by omega)]
          refine ifn (fun z => by rw [nI_leX (by omega) (by omega)] at z; omega) (c_holds hc hk hu hv hw ?_)
          rw [h]; exact ifp rfl (i1 kr K)
        · show bX4_where_8 (msetI m 0 0) (lN u) (lN v) (lN w) (nI k) kr (fun z1 z3 z5 z7 X => itX4_where_8 kr (j + 1) z1 z3 z5 z7 X)
          unfold bX4_where_8
          rw [hm0.1.2.2.1, nI_s (by omega)]
          refine ifn (fun z => by rw [nI_leX (by omega) (by omega)] at z; omega) (m_of hu (m_of hv (m_of hw (m_isIn hm0 hk hu hv hw ?_))))
          rw [h]; exact ifp rfl (i2 kr K)
      · refine ⟨nI k, fun kr K => ?_, fun kr K => ?_⟩
        · show bX3_where_3 c (lN u) (lN v) (lN w) (nI k) kr (fun z1 z3 z5 z7 X => itX3_where_3 kr (j + 1) z1 z3 z5 z7 X)
          unfold bX3_where_3
          rw [hc.1.2.2.1]
          refine ifn (fun z => by rw [nI_leX (by omega) (by omega)] at z; omega) (c_holds hc hk hu hv hw ?_)
          rw [h]; exact ifn (by decide) K
        · show bX4_where_8 (msetI m 0 0) (lN u) (lN v) (lN w) (nI k) kr (fun z1 z3 z5 z7 X => itX4_where_8 kr (j + 1) z1 z3 z5 z7 X)
          unfold bX4_where_8
          rw [hm0.1.2.2.1]
          refine ifn (fun z => by rw [nI_leX (by omega) (by omega)] at z; omega) (m_of hu (m_of hv (m_of hw (m_isIn hm0 hk hu hv hw ?_))))
          rw [h]; exact ifn (by decide) K
  obtain ⟨r, i1, i2⟩ := find (S.1 2) 0 (by omega)
  refine ⟨r, S, fun k K => ⟨S.1 2 + 1, i1 k (K c hc)⟩, fun k K => ⟨S.1 2 + 1, i2 k (K _ hm0)⟩⟩
theorem a_within {c : CS} {m : MS} {S : St} (hc : RC c S) (hm : RM m S) (a i : Int32) (x y z : Int64) : Agr Int32 (wX3_within c a i x y z) (wX4_within m a i x y z) := by
  have h100 := hc.1.1.2.1
  have h3 := hc.1.1.1
  have h32 := hc.1.2.2.2.1.2.1
  have hm0 := hm.f0 0
  obtain ⟨u, hu, rfl⟩ := any_lN x
  obtain ⟨v, hv, rfl⟩ := any_lN y
  obtain ⟨w, hw, rfl⟩ := any_lN z
  rcases i_dec a (S.1 2) (by omega) with ⟨-, -, b, hb, rfl⟩ | hx
  · rcases i_dec i (S.1 1) (by omega) with ⟨-, -, n, hn, rfl⟩ | hi
    · obtain ⟨⟨sc, sS, sO⟩, -⟩ := (hc.2 (by omega)).2.2.2 b hb
      obtain ⟨⟨sm, -⟩, -⟩ := (hm0.2.2.2 (by omega)).2 b hb
      have nds := fun i hi => (hc.1.2.2.2.1.2.2 i hi).1
      have ev := enc_ev (b := b) (n := S.1 1) nds sS n hn
      have cv := val_cn (S := S) (x := u) (y := v) (z := w) nds hu hv hw n hn
      have ii := in_nI (show n < 32 by omega) (by decide)
      have s10 : ∀ f, RC (setL c 10 f) S := fun f => hc.fr rfl rfl (fun j _ _ h => by show (if j = 10 then _ else c.2.2 j) = _; rw [if_neg h])
      rcases inT_01 S b u v w (S.1 0) with h | h
      · refine ⟨0, S, fun k K => ?_, fun k K => ?_⟩
        · unfold wX3_within bX3_within_0
          rw [hasB1 hc.1 hb, hasN1 hc.1 hn]
          refine ifn (by decide) (ifn (by decide) (c_holds hc hb hu hv hw ?_))
          rw [h]; exact ifp rfl (K c hc)
        · unfold wX4_within bX4_within_0
          refine m_box1 hm0.1 hb (ifn (by decide) (m_nod1 hm0.1 hn (ifn (by decide) (m_of hu (m_of hv (m_of hw (m_isIn hm0 hb hu hv hw ?_)))))))
          rw [h]; exact ifp rfl (K _ hm0)
      · have hC : ∀ (k : Int32 → CS → Prop), (∀ d (f : Unit), RC d S → d.2.2 4 n = lN (enc S b n).1 → d.2.2 5 n = lN (enc S b n).2 → ¬ isN (val S u v w n) → (vp_in (nI n) 32 ∧ (vp_in (nI n) 32 ∧ (if (fX1_isFromTo (lN (val S u v w n)) (d.2.2 4 (nI n).toNatClampNeg) (d.2.2 5 (nI n).toNatClampNeg)) = 0 then k (1 : Int32) d else k (2 : Int32) d))) ∧ f = f) → (isN (val S u v w n) → ∀ d, RC d S → k 2 d) → wX3_within c (nI b) (nI n) (lN u) (lN v) (lN w) k := by
          intro k H1 H2
          unfold wX3_within bX3_within_0
          rw [hasB1 hc.1 hb, hasN1 hc.1 hn]
          refine ifn (by decide) (ifn (by decide) (c_holds hc hb hu hv hw ?_))
          rw [h]
          refine ifn (by decide) (c_value hc.1.2.2.2.1 hu hv hw hn (fun f => ?_))
          have hd := s10 f
          rw [c_isNone cv.1]
          by_cases nn : isN (val S u v w n)
          · rw [if_pos nn]; exact ifn (by decide) (H2 nn _ hd)
          · rw [if_neg nn, pl0 (by omega)]
            obtain ⟨⟨sc', -⟩, -⟩ := (hd.2 (by omega)).2.2.2 b hb
            refine ifp rfl (c_parts hd.1.2.2.2.1 _ (fun l' a1 a2 a3 => c_enclose hd.1.2.2.2.1 (by omega) h3 sc' sS a3 (fun d f2 E => ?_)))
            have e := E n hn (a1 n (by omega) (by rw [bt_one (by omega) (by omega)]; simp))
            exact (H1 d () (hd.fr f2.1 f2.2.1 (fun j a b _ => f2.2.2 j a b)) e.1 e.2 nn).1
        have hM : ∀ (k : Int32 → MS → Prop), (∀ d, RM d S → d.2.2 34 n = dN (enc S b n).1 → d.2.2 35 n = dN (enc S b n).2 → wX4_isNot (dN (val S u v w n)) (fun r12 => (if r12 = 0 then (vp_in (nI n) 32 ∧ (if (Op.cmpValue (FP.dcmp (dN (val S u v w n)) (d.2.2 34 (nI n).toNatClampNeg)) .l) < 0 then k (1 : Int32) d else (vp_in (nI n) 32 ∧ (if 0 < (Op.cmpValue (FP.dcmp (dN (val S u v w n)) (d.2.2 35 (nI n).toNatClampNeg)) .g) then k (1 : Int32) d else k (2 : Int32) d)))) else k (2 : Int32) d))) → wX4_within m (nI b) (nI n) (lN u) (lN v) (lN w) k := by
          intro k H
          unfold wX4_within bX4_within_0
          refine m_box1 hm0.1 hb (ifn (by decide) (m_nod1 hm0.1 hn (ifn (by decide) (m_of hu (m_of hv (m_of hw (m_isIn hm0 hb hu hv hw ?_)))))))
          rw [h]
          refine ifn (by decide) (m_of hu (m_of hv (m_of hw (m_valueAt hm0.1.2.2.2.1 hu hv hw hn (fun d f => ?_)))))
          have hd := hm0.fm f
          obtain ⟨⟨sm', -⟩, -⟩ := (hd.2.2.2 (by omega)).2 b hb
          exact m_encloseTo hd.1.2.2.2.1 (by omega) h3 sm' sS hn (fun d2 f2 b1 b2 => H d2 (hd.fm f2) b1 b2)
        have isNot1 : isN (val S u v w n) → ∀ {kr : Int32 → Prop}, kr 1 → wX4_isNot (dN (val S u v w n)) kr := by
          intro nn kr K
          unfold wX4_isNot bX4_isNot_0
          exact ifn (fun q => (self_eq cv.1).mp q nn) K
        have isNot0 : ¬ isN (val S u v w n) → ∀ {kr : Int32 → Prop}, kr 0 → wX4_isNot (dN (val S u v w n)) kr := by
          intro nn kr K
          unfold wX4_isNot bX4_isNot_0
          exact ifp ((self_eq cv.1).mpr nn) K
        by_cases nn : isN (val S u v w n)
        · refine ⟨2, S, fun k K => hC k (fun d f hd e1 e2 n2 => absurd nn n2) (fun _ d hd => K d hd), fun k K => hM k (fun d hd e1 e2 => isNot1 nn (ifn (by decide) (K d hd)))⟩
        · by_cases q : bLe (enc S b n).1 (val S u v w n) ∧ bLe (val S u v w n) (enc S b n).2
          · refine ⟨2, S, fun k K => hC k (fun d f hd e1 e2 n2 => ⟨⟨ii, ii, ?_⟩, rfl⟩) (fun n2 => absurd n2 nn), fun k K => hM k (fun d hd e1 e2 => isNot0 nn (ifp rfl ⟨ii, ?_⟩))⟩
            · rw [nI_cl (by omega), e1, e2, c_fromto cv.1 ev.1.1 ev.2.1 ev.1.2 ev.2.2, if_pos q]; exact ifn (by decide) (K d hd)
            · rw [nI_cl (by omega), e1, e2]
              exact ifn (fun z => (cvl_lt cv.1 ev.1.1).mp z q.1) ⟨ii, ifn (fun z => (cvg_gt cv.1 ev.2.1).mp z q.2) (K d hd)⟩
          · refine ⟨1, S, fun k K => hC k (fun d f hd e1 e2 n2 => ⟨⟨ii, ii, ?_⟩, rfl⟩) (fun n2 => absurd n2 nn), fun k K => hM k (fun d hd e1 e2 => isNot0 nn (ifp rfl ⟨ii, ?_⟩))⟩
            · rw [nI_cl (by omega), e1, e2, c_fromto cv.1 ev.1.1 ev.2.1 ev.1.2 ev.2.2, if_neg q]; exact ifp rfl (K d hd)
            · rw [nI_cl (by omega), e1, e2]
              refine ifx (cvl_lt cv.1 ev.1.1) (fun _ => K d hd) (fun z => ⟨ii, ifp ((cvg_gt cv.1 ev.2.1).mpr (fun z2 => q ⟨Classical.not_not.mp z, z2⟩)) (K d hd)⟩)
    · refine ⟨-1, S, fun k K => ?_, fun k K => ?_⟩
      · unfold wX3_within bX3_within_0
        rw [hasB1 hc.1 hb, hasN0 hc.1 hi]
        exact ifn (by decide) (ifp rfl (K c hc))
      · unfold wX4_within bX4_within_0
        exact m_box1 hm0.1 hb (ifn (by decide) (m_nod0 hm0.1 hi (ifp rfl (K _ hm0))))
  · refine ⟨-1, S, fun k K => ?_, fun k K => ?_⟩
    · unfold wX3_within bX3_within_0
      rw [hasB0 hc.1 hx]; exact ifp rfl (K c hc)
    · unfold wX4_within bX4_within_0
      exact m_box0 hm0.1 hx (ifp rfl (K _ hm0))
